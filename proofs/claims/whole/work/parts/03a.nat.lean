/-! PURE PART: numbers, words of a letter, the row of changes; class and reference over the same lists -/
theorem FU_lt {n : Nat} (h : n < 10000) : n < FU := h
theorem ixb_nI {i n : Nat} (h : i < n) (hn : n < 2 ^ 31) : ixb (nI i) n = true := by
  unfold ixb
  rw [decide_eq_true_eq]
  exact nI_in h hn
theorem nI_gt0 {n : Nat} (h : 0 < n) (hn : n < 2 ^ 31) : (0 : Int32) < nI n := by rw [← nI_0]; exact nI_lt h hn
theorem nI_inj {a b : Nat} (ha : a < 2 ^ 31) (hb : b < 2 ^ 31) (h : nI a = nI b) : a = b := (nI_eq ha hb).mp h
theorem bs {α β : Type} (a : α) (f : α → Option β) : (some a).bind f = f a := congrArg (fun x => x) (Eq.refl (f a))
def wd (N l k : Nat) : Nat := l / N ^ k % N
theorem wd_lt {N l k : Nat} (h : 1 ≤ N) : wd N l k < N := Nat.mod_lt _ h
theorem pow_b {N k : Nat} (hN : N ≤ 8) (hk : k ≤ 4) : N ^ k ≤ 4096 := Nat.le_trans (Nat.pow_le_pow_left hN k) (Nat.le_trans (Nat.pow_le_pow_right (by decide) hk) (by decide))
theorem u_L (N k : Nat) (hN : N ≤ 8) (hk : k ≤ 4) : ∀ n j, j ≤ k → k - j < n → f_X9_unit_L4 (nI N) n (nI k) (nI (N ^ j)) (nI j) = some (nI (N ^ k)) := by
  intro n
  induction n with
  | zero => intro j h1 h2; omega
  | succ n ih =>
    intro j h1 h2
    rw [f_X9_unit_L4.eq_2]
    by_cases h : j = k
    · subst h
      rw [if_pos (nI_le (Nat.le_refl _) (by omega))]
    · rw [if_neg (nI_ge (by omega) (by omega)), pk_mul, nI_1, ← Nat.pow_succ]
      exact ih (j + 1) (by omega) (by omega)
theorem u_eq {N k : Nat} (hN : N ≤ 8) (hk : k ≤ 4) : f_X9_unit (nI N) (nI k) = some (nI (N ^ k)) := by
  unfold f_X9_unit
  exact u_L N k hN hk FU 0 (Nat.zero_le _) (FU_lt (by omega))
theorem w9_eq {N l k : Nat} (h1 : 1 ≤ N) (hN : N ≤ 8) (hk : k ≤ 4) (hl : l < 2 ^ 31) : f_X9_wordAt (nI N) (nI l) (nI k) = some (nI (wd N l k)) := by
  unfold f_X9_wordAt
  have hp : 0 < N ^ k := Nat.pow_pos (by omega)
  have hb := pow_b hN hk
  rw [u_eq hN hk, bs, if_pos (nI_ne0 hp (by omega)), if_pos (nI_ne0 (by omega) (by omega)), pk_div hl hp (by omega), pk_rem (Nat.lt_of_le_of_lt (Nat.div_le_self _ _) hl) (by omega) (by omega)]
  rfl
/-- the scales are the powers -/
def Sc (N : Nat) (sc : Nat → Int32) : Prop := ∀ j, j ≤ 4 → sc j = nI (N ^ j)
theorem w7_eq {N L l k : Nat} {sc : Nat → Int32} (hs : Sc N sc) (h1 : 1 ≤ N) (hN : N ≤ 8) (hL : L ≤ 4) (hk : k < L) (hl : l < 2 ^ 31) : f_X7_wordAt (nI L) (nI N) sc (nI l) (nI k) = some (nI (wd N l k)) := by
  unfold f_X7_wordAt
  have hp : 0 < N ^ k := Nat.pow_pos (by omega)
  have hb := pow_b hN (show k ≤ 4 by omega)
  rw [if_neg (nI_nle (by omega) (by omega)), if_neg (nI_pos (by omega)), if_neg (nI_ge hk (by omega)), if_pos (ixb_nI (by omega) (by decide)), nI_clamp (by omega), hs k (by omega), if_pos (nI_gt0 hp (by omega)), if_pos (ixb_nI (by omega) (by decide)), if_pos (nI_ne0 hp (by omega)), if_pos (nI_ne0 (by omega) (by omega)), pk_div hl hp (by omega), pk_rem (Nat.lt_of_le_of_lt (Nat.div_le_self _ _) hl) (by omega) (by omega)]
  rfl
/-- f holds the row xs -/
def Rp (f : Nat → Int32) (xs : List Nat) : Prop := ∀ i, i < xs.length → f i = nI (xs.getD i 0)
theorem Rp_nil (f : Nat → Int32) : Rp f [] := fun i h => absurd h (Nat.not_lt_zero i)
theorem Rp_add {f : Nat → Int32} {xs : List Nat} {c : Nat} (h : Rp f xs) : Rp (upd f xs.length (nI c)) (xs ++ [c]) := by
  intro i hi
  rw [List.length_append] at hi
  by_cases e : i = xs.length
  · subst e
    rw [pk_us, List.getD_eq_getElem?_getD, List.getElem?_append_right (Nat.le_refl _), Nat.sub_self]
    rfl
  · have hi2 : i < xs.length := by simp at hi; omega
    rw [pk_un e, h i hi2, List.getD_eq_getElem?_getD, List.getD_eq_getElem?_getD, List.getElem?_append_left hi2]
/-- the letter with WORD w at place p -/
def owc (N l p w : Nat) : Nat := l - wd N l p * N ^ p + w * N ^ p
theorem wd_le (N l p : Nat) : wd N l p * N ^ p ≤ l := Nat.le_trans (Nat.mul_le_mul_right _ (Nat.mod_le _ _)) (Nat.div_mul_le_self _ _)
theorem ow_val (N l p w : Nat) : nI l + (nI w - nI (wd N l p)) * nI (N ^ p) = nI (owc N l p w) := by
  have h := wd_le N l p
  rw [Int32.sub_mul, pk_mul, pk_mul]
  unfold owc
  rw [← nI_add]
  have e : nI l = nI (l - wd N l p * N ^ p) + nI (wd N l p * N ^ p) := by rw [nI_add]; congr 1; omega
  rw [e]
  grind
theorem owc_eq (N l p w : Nat) : owc N l p w = (l / N ^ p / N * N + w) * N ^ p + l % N ^ p := by
  unfold owc wd
  have h1 : N ^ p * (l / N ^ p) + l % N ^ p = l := Nat.div_add_mod l (N ^ p)
  have h2 : N * (l / N ^ p / N) + l / N ^ p % N = l / N ^ p := Nat.div_add_mod (l / N ^ p) N
  generalize hq : l / N ^ p = q at *
  generalize hP : N ^ p = P at *
  generalize hr : l % P = r at *
  generalize hd : q % N = d at *
  generalize he : q / N = e2 at *
  subst h1
  subst h2
  rw [Nat.mul_comm e2 N, Nat.mul_comm (N * e2 + w) P, Nat.mul_add, Nat.mul_add, Nat.mul_comm d P, Nat.mul_comm w P]
  omega
theorem owc_lt {N L l p w : Nat} (h1 : 1 ≤ N) (hl : l < N ^ L) (hp : p < L) (hw : w < N) : owc N l p w < N ^ L := by
  rw [owc_eq]
  have hP : 0 < N ^ p := Nat.pow_pos h1
  have e : N ^ L = N ^ (L - p - 1) * N * N ^ p := by
    rw [← Nat.pow_succ, ← Nat.pow_add]; congr 1; omega
  have a : l / N ^ p < N ^ (L - p - 1) * N := by
    rw [Nat.div_lt_iff_lt_mul hP, ← e]; exact hl
  have b : l / N ^ p / N < N ^ (L - p - 1) := by rw [Nat.div_lt_iff_lt_mul (by omega)]; exact a
  have c : l / N ^ p / N * N + w + 1 ≤ N ^ (L - p - 1) * N := by
    have := Nat.mul_le_mul_right N (show l / N ^ p / N + 1 ≤ N ^ (L - p - 1) from b)
    rw [Nat.add_mul] at this
    omega
  have d := Nat.mul_le_mul_right (N ^ p) c
  rw [e]
  rw [Nat.add_mul, Nat.one_mul] at d
  have m := Nat.mod_lt l hP
  omega
/-- the letter with the WORDS at p and p + 1 turned about -/
def tac (N l p : Nat) : Nat := l - (wd N l p * N ^ p + wd N l (p + 1) * N ^ (p + 1)) + (wd N l (p + 1) * N ^ p + wd N l p * N ^ (p + 1))
theorem wd_succ (N l p : Nat) : wd N l (p + 1) = l / N ^ p / N % N := by
  unfold wd
  rw [Nat.pow_succ, Nat.div_div_eq_div_mul]
theorem wd2_le (N l p : Nat) : wd N l p * N ^ p + wd N l (p + 1) * N ^ (p + 1) ≤ l := by
  rw [wd_succ]
  unfold wd
  have h1 : N ^ p * (l / N ^ p) + l % N ^ p = l := Nat.div_add_mod l (N ^ p)
  have h2 : N * (l / N ^ p / N) + l / N ^ p % N = l / N ^ p := Nat.div_add_mod (l / N ^ p) N
  have h3 : l / N ^ p / N % N ≤ l / N ^ p / N := Nat.mod_le _ _
  have h4 : (l / N ^ p % N) * N ^ p + (l / N ^ p / N) * N ^ (p + 1) = N ^ p * (l / N ^ p) := by
    rw [Nat.pow_succ]
    generalize l / N ^ p / N = a at *
    generalize l / N ^ p % N = b at *
    rw [← h2]
    grind
  have h5 := Nat.mul_le_mul_right (N ^ (p + 1)) h3
  have h6 : (l / N ^ p % N) * N ^ p + (l / N ^ p / N) * N ^ (p + 1) ≤ l := by rw [h4]; exact Nat.mul_div_le l (N ^ p)
  exact Nat.le_trans (Nat.add_le_add_left h5 _) h6
theorem ta_aux (N l p : Nat) : nI l = nI (l - (wd N l p * N ^ p + wd N l (p + 1) * N ^ (p + 1))) + (nI (wd N l p) * nI (N ^ p) + nI (wd N l (p + 1)) * nI (N ^ (p + 1))) := by
  have h := wd2_le N l p
  rw [pk_mul, pk_mul, nI_add, nI_add]
  congr 1
  omega
theorem ta_val9 (N l p : Nat) : nI l + (nI (wd N l (p + 1)) - nI (wd N l p)) * nI (N ^ p) + (nI (wd N l p) - nI (wd N l (p + 1))) * nI (N ^ (p + 1)) = nI (tac N l p) := by
  have h := ta_aux N l p
  unfold tac
  rw [← nI_add, ← nI_add, ← pk_mul, ← pk_mul]
  generalize nI (l - (wd N l p * N ^ p + wd N l (p + 1) * N ^ (p + 1))) = x at *
  rw [h]
  grind
theorem ta_val7 (N l p : Nat) : nI l + (nI (wd N l (p + 1)) - nI (wd N l p)) * (nI (N ^ p) - nI (N ^ (p + 1))) = nI (tac N l p) := by
  have h := ta_aux N l p
  unfold tac
  rw [← nI_add, ← nI_add, ← pk_mul, ← pk_mul]
  generalize nI (l - (wd N l p * N ^ p + wd N l (p + 1) * N ^ (p + 1))) = x at *
  rw [h]
  grind
theorem owc_div {N l p w : Nat} (h1 : 1 ≤ N) : owc N l p w / N ^ p = l / N ^ p / N * N + w := by
  have hP : 0 < N ^ p := Nat.pow_pos h1
  rw [owc_eq, Nat.mul_comm _ (N ^ p), Nat.mul_add_div hP, Nat.div_eq_of_lt (Nat.mod_lt _ hP), Nat.add_zero]
theorem wd_owc_succ {N l p w : Nat} (h1 : 1 ≤ N) (hw : w < N) : wd N (owc N l p w) (p + 1) = wd N l (p + 1) := by
  rw [wd_succ, wd_succ, owc_div h1, Nat.mul_comm _ N, Nat.mul_add_div h1, Nat.div_eq_of_lt hw, Nat.add_zero]
theorem tac_eq {N l p : Nat} (h1 : 1 ≤ N) : tac N l p = owc N (owc N l p (wd N l (p + 1))) (p + 1) (wd N l p) := by
  have h := wd2_le N l p
  have e := wd_owc_succ (l := l) (p := p) h1 (wd_lt (l := l) (k := p + 1) h1)
  have e2 : owc N (owc N l p (wd N l (p + 1))) (p + 1) (wd N l p) = owc N l p (wd N l (p + 1)) - wd N (owc N l p (wd N l (p + 1))) (p + 1) * N ^ (p + 1) + wd N l p * N ^ (p + 1) := rfl
  rw [e2, e]
  unfold tac owc
  omega
theorem tac_lt {N L l p : Nat} (h1 : 1 ≤ N) (hl : l < N ^ L) (hp : p + 1 < L) : tac N l p < N ^ L := by
  rw [tac_eq h1]
  exact owc_lt h1 (owc_lt h1 hl (by omega) (wd_lt h1)) hp (wd_lt h1)
