/-! LOOKING AHEAD: what both find -/
/-- the best so far, as the end and 4096 for each one that is sent -/
def lab (W : Nat → Int32) (E : Nat → Nat) : List Nat → Nat → Int32 → Nat
  | [], b, _ => b
  | z :: zs, b, m => if W (E z % 4096) ≤ m then lab W E zs b m else lab W E zs (E z + 4096) (W (E z % 4096))
def lfb (W : Nat → Int32) (E : Nat → Nat) : List Nat → Int32 → Int32 → Int32
  | [], fi, _ => fi
  | z :: zs, fi, m => if W (E z % 4096) ≤ m then lfb W E zs fi m else lfb W E zs (nI z) (W (E z % 4096))
/-- HOUSE h has LETTER l, k moves are left -/
def la (wo : Nat → Int32) (ch : Nat → List Nat) : Nat → Nat → Nat → Nat
  | 0, _, l => l
  | k + 1, h, l => lab (wt wo (nI h)) (la wo ch k (1 - h)) (ch l) l (wt wo (nI h) l)
def lf (wo : Nat → Int32) (ch : Nat → List Nat) : Nat → Nat → Nat → Int32
  | 0, _, _ => -1
  | k + 1, h, l => lfb (wt wo (nI h)) (la wo ch k (1 - h)) (ch l) (-1) (wt wo (nI h) l)
theorem i_le_total {x y : Int32} (h : ¬ x ≤ y) : y < x := nle_lt h
theorem i_lt_le {x y z : Int32} (h1 : x ≤ y) (h2 : y < z) : x < z := by
  rw [Int32.le_iff_toInt_le] at h1
  rw [Int32.lt_iff_toInt_lt] at h2 ⊢
  omega
theorem i_lt_tr {x y z : Int32} (h1 : x < y) (h2 : y < z) : x < z := by
  rw [Int32.lt_iff_toInt_lt] at h1 h2 ⊢
  omega
/-- either none is better, or the first of the best is taken -/
theorem lab_spec (W : Nat → Int32) (E : Nat → Nat) : ∀ (xs : List Nat) (b : Nat) (fi m : Int32), ((∀ z ∈ xs, W (E z % 4096) ≤ m) ∧ lab W E xs b m = b ∧ lfb W E xs fi m = fi) ∨ ∃ ys z zs, xs = ys ++ z :: zs ∧ lab W E xs b m = E z + 4096 ∧ lfb W E xs fi m = nI z ∧ (∀ y ∈ ys, W (E y % 4096) < W (E z % 4096)) ∧ m < W (E z % 4096) := by
  intro xs
  induction xs with
  | nil => intro b fi m; exact Or.inl ⟨fun z hz => absurd hz (List.not_mem_nil), rfl, rfl⟩
  | cons x xs ih =>
    intro b fi m
    rw [lab, lfb]
    by_cases h : W (E x % 4096) ≤ m
    · rw [if_pos h, if_pos h]
      rcases ih b fi m with ⟨a, c, d⟩ | ⟨ys, z, zs, e, a, c, d, g⟩
      · refine Or.inl ⟨fun z hz => ?_, c, d⟩
        rcases List.mem_cons.mp hz with rfl | hz
        · exact h
        · exact a z hz
      · refine Or.inr ⟨x :: ys, z, zs, by rw [e]; rfl, a, c, fun y hy => ?_, g⟩
        rcases List.mem_cons.mp hy with rfl | hy
        · exact i_lt_le h g
        · exact d y hy
    · rw [if_neg h, if_neg h]
      have h' := nle_lt h
      rcases ih (E x + 4096) (nI x) (W (E x % 4096)) with ⟨a, c, d⟩ | ⟨ys, z, zs, e, a, c, d, g⟩
      · exact Or.inr ⟨[], x, xs, rfl, c, d, fun y hy => absurd hy (List.not_mem_nil), h'⟩
      · refine Or.inr ⟨x :: ys, z, zs, by rw [e]; rfl, a, c, fun y hy => ?_, i_lt_tr h' g⟩
        rcases List.mem_cons.mp hy with rfl | hy
        · exact g
        · exact d y hy
theorem la_ok {wo : Nat → Int32} {ch : Nat → List Nat} {Z : Nat} (hZ : Z ≤ 4096) (hch : ∀ l, l < Z → ∀ z ∈ ch l, z < Z) : ∀ (k h l : Nat), l < Z → la wo ch k h l % 4096 < Z ∧ la wo ch k h l < 4096 * (k + 1) := by
  intro k
  induction k with
  | zero =>
    intro h l hl
    rw [la, Nat.mod_eq_of_lt (by omega)]
    omega
  | succ k ih =>
    intro h l hl
    rw [la]
    rcases lab_spec (wt wo (nI h)) (la wo ch k (1 - h)) (ch l) l 0 (wt wo (nI h) l) with ⟨-, c, -⟩ | ⟨ys, z, zs, e, a, -⟩
    · rw [c, Nat.mod_eq_of_lt (by omega)]
      omega
    · have hz := hch l hl z (by rw [e]; simp)
      obtain ⟨p, q⟩ := ih (1 - h) z hz
      rw [a, Nat.add_mod_right]
      omega
/-- memory: what stamp and what end it holds at j -/
def mst (f : Nat → Int32) (j : Nat) : Nat := (f j).toBitVec.toNat / 65536
def men (f : Nat → Int32) (j : Nat) : Nat := (f j).toBitVec.toNat % 65536
theorem mst_eq (x : Int32) {s : Nat} (hs : s < 65536) : ((x.toUInt32 >>> ((16 : Int32).toUInt32 &&& Int32.toUInt32 31)).toInt32 = nI s) ↔ x.toBitVec.toNat / 65536 = s := by
  have h := pk_ushr x 16 16 (by decide)
  have hx : x.toBitVec.toNat < 2 ^ 32 := x.toBitVec.isLt
  constructor
  · intro e
    rw [e, pk_tn (by omega)] at h
    rw [h]
  · intro e
    apply Int32.toBitVec_inj.mp
    apply BitVec.eq_of_toNat_eq
    rw [h, pk_tn (by omega)]
    exact e
theorem men_eq (x : Int32) : x &&& 65535 = nI (x.toBitVec.toNat % 65536) := pk_and x 16 (by decide)
theorem put_eq {s b : Nat} (hs : s < 65536) (hb : b < 65536) : ((nI s <<< (16 &&& 31)) ||| nI b).toBitVec.toNat = s * 65536 + b := by
  have e : (nI s <<< ((16 : Int32) &&& 31)).toBitVec.toNat = (nI s).toBitVec.toNat * 2 ^ 16 % 2 ^ 32 := pk_shl (nI s) ((16 : Int32) &&& 31) 16 (by decide)
  rw [pk_tn (by omega), Nat.mod_eq_of_lt (by omega)] at e
  rw [Int32.toBitVec_or, BitVec.toNat_or, e, pk_tn (by omega)]
  have := Nat.shiftLeft_add_eq_or_of_lt (i := 16) (b := b) (by omega) s
  rw [Nat.shiftLeft_eq] at this
  rw [← this]
/-- the memory is good: no stamp of a tongue to come, and what has a stamp of this one is true -/
def MM (Z T nm : Nat) (LA : Nat → Nat → Nat → Nat → Nat → Nat) (f : Nat → Int32) : Prop := ∀ j, j < nm → mst f j < T * 6 + 6 ∧ ∀ a b k h l, a < 3 → b < 2 → k < 8 → h < 2 → l < Z → mst f j = T * 6 + a * 2 + b → j = (k * 2 + h) * Z + l → men f j = LA a b (k + 1) h l
theorem spot_inj {Z k h l k' h' l' : Nat} (hl : l < Z) (hl' : l' < Z) (hh : h < 2) (hh' : h' < 2) (e : (k * 2 + h) * Z + l = (k' * 2 + h') * Z + l') : k = k' ∧ h = h' ∧ l = l' := by
  have hZ : 0 < Z := by omega
  have e1 : ((k * 2 + h) * Z + l) / Z = k * 2 + h := by rw [Nat.mul_comm, Nat.mul_add_div hZ, Nat.div_eq_of_lt hl, Nat.add_zero]
  have e2 : ((k' * 2 + h') * Z + l') / Z = k' * 2 + h' := by rw [Nat.mul_comm, Nat.mul_add_div hZ, Nat.div_eq_of_lt hl', Nat.add_zero]
  rw [e, e2] at e1
  have a : k = k' := by omega
  have b : h = h' := by omega
  subst a b
  exact ⟨rfl, rfl, by omega⟩
theorem MM_upd {Z T nm a b k h l : Nat} {LA : Nat → Nat → Nat → Nat → Nat → Nat} {f : Nat → Int32} (hM : MM Z T nm LA f) (hT : T ≤ 600) (ha : a < 3) (hb : b < 2) (hk : k < 8) (hh : h < 2) (hl : l < Z) (hB : LA a b (k + 1) h l < 65536) : MM Z T nm LA (upd f ((k * 2 + h) * Z + l) ((nI (T * 6 + a * 2 + b) <<< (16 &&& 31)) ||| nI (LA a b (k + 1) h l))) := by
  intro j hj
  unfold mst men
  by_cases e : j = (k * 2 + h) * Z + l
  · subst e
    rw [pk_us, put_eq (by omega) hB]
    have e1 : ((T * 6 + a * 2 + b) * 65536 + LA a b (k + 1) h l) / 65536 = T * 6 + a * 2 + b := by omega
    have e2 : ((T * 6 + a * 2 + b) * 65536 + LA a b (k + 1) h l) % 65536 = LA a b (k + 1) h l := by omega
    rw [e1, e2]
    refine ⟨by omega, fun a' b' k' h' l' ha' hb' hk' hh' hl' es ej => ?_⟩
    obtain ⟨q1, q2, q3⟩ := spot_inj hl hl' hh hh' ej
    have q4 : a = a' := by omega
    have q5 : b = b' := by omega
    subst q1 q2 q3 q4 q5
    rfl
  · rw [pk_un e]
    exact hM j hj
