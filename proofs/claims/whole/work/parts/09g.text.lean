/-! the text: blanks, words, figures; class and reference over the same bytes -/
/-- a byte as the class holds it -/
def sb (v : Nat) : Int32 := if v < 128 then nI v else nI v - 256
/-- the text as both hold it -/
def TX (len : Nat) (tx : Nat → Nat) (t8 t9 : Nat → Int32) : Prop := len ≤ 500 ∧ ∀ j, j < len → tx j < 256 ∧ t9 j = nI (tx j) ∧ t8 j = sb (tx j)
theorem sb_toInt {v : Nat} (h : v < 256) : (sb v).toInt = if v < 128 then (v : Int) else (v : Int) - 256 := by
  unfold sb
  by_cases h1 : v < 128
  · rw [if_pos h1, if_pos h1, nI_toInt (by omega)]
  · rw [if_neg h1, if_neg h1]
    have := pk_sub_toInt (a := v) (b := 256) (by omega) (by omega)
    exact this
theorem sb_eq {v c : Nat} (h : v < 256) (hc : c < 128) : sb v = nI c ↔ v = c := by
  rw [← Int32.toInt_inj, sb_toInt h, nI_toInt (by omega)]
  split <;> omega
theorem sb_lt {v c : Nat} (h : v < 256) (hc : c < 128) : sb v < nI c ↔ (v < c ∨ 128 ≤ v) := by
  rw [Int32.lt_iff_toInt_lt, sb_toInt h, nI_toInt (by omega)]
  split <;> omega
theorem sb_gt {v c : Nat} (h : v < 256) (hc : c < 128) : nI c < sb v ↔ (c < v ∧ v < 128) := by
  rw [Int32.lt_iff_toInt_lt, sb_toInt h, nI_toInt (by omega)]
  split <;> omega
/-- over blanks: m bytes are left -/
def skp (tx : Nat → Nat) : Nat → Nat → Nat
  | 0, p => p
  | m + 1, p => if tx p = 32 then skp tx m (p + 1) else p
def sk (tx : Nat → Nat) (len p : Nat) : Nat := skp tx (len - p) p
/-- over bytes from a to b -/
def rgp (tx : Nat → Nat) (a b : Nat) : Nat → Nat → Nat
  | 0, p => p
  | m + 1, p => if a ≤ tx p ∧ tx p ≤ b then rgp tx a b m (p + 1) else p
def rg (tx : Nat → Nat) (a b len p : Nat) : Nat := rgp tx a b (len - p) p
theorem skp_b (tx : Nat → Nat) : ∀ m p, p ≤ skp tx m p ∧ skp tx m p ≤ p + m := by
  intro m
  induction m with
  | zero => intro p; exact ⟨Nat.le_refl _, Nat.le_refl _⟩
  | succ m ih =>
    intro p
    rw [skp]
    split
    · have := ih (p + 1); omega
    · omega
theorem sk_b {tx : Nat → Nat} {len p : Nat} (h : p ≤ len) : p ≤ sk tx len p ∧ sk tx len p ≤ len := by
  have := skp_b tx (len - p) p
  unfold sk
  omega
theorem rgp_b (tx : Nat → Nat) (a b : Nat) : ∀ m p, p ≤ rgp tx a b m p ∧ rgp tx a b m p ≤ p + m := by
  intro m
  induction m with
  | zero => intro p; exact ⟨Nat.le_refl _, Nat.le_refl _⟩
  | succ m ih =>
    intro p
    rw [rgp]
    split
    · have := ih (p + 1); omega
    · omega
theorem rg_b {tx : Nat → Nat} {a b len p : Nat} (h : p ≤ len) : p ≤ rg tx a b len p ∧ rg tx a b len p ≤ len := by
  have := rgp_b tx a b (len - p) p
  unfold rg
  omega
theorem rgp_in (tx : Nat → Nat) (a b : Nat) : ∀ m p j, p ≤ j → j < rgp tx a b m p → a ≤ tx j ∧ tx j ≤ b := by
  intro m
  induction m with
  | zero => intro p j h1 h2; rw [rgp] at h2; omega
  | succ m ih =>
    intro p j h1 h2
    rw [rgp] at h2
    by_cases h : a ≤ tx p ∧ tx p ≤ b
    · rw [if_pos h] at h2
      by_cases e : j = p
      · subst e; exact h
      · exact ih (p + 1) j (by omega) h2
    · rw [if_neg h] at h2; omega
theorem rg_in {tx : Nat → Nat} {a b len p j : Nat} (h1 : p ≤ j) (h2 : j < rg tx a b len p) : a ≤ tx j ∧ tx j ≤ b := rgp_in tx a b (len - p) p j h1 h2
theorem rg_step {tx : Nat → Nat} {a b len p : Nat} (h : p < len) : rg tx a b len p = if a ≤ tx p ∧ tx p ≤ b then rg tx a b len (p + 1) else p := by
  unfold rg
  have e : len - p = (len - (p + 1)) + 1 := by omega
  rw [e, rgp]
theorem rg_end {tx : Nat → Nat} {a b len : Nat} : rg tx a b len len = len := by
  unfold rg
  rw [Nat.sub_self]
  rfl
theorem sk_step {tx : Nat → Nat} {len p : Nat} (h : p < len) : sk tx len p = if tx p = 32 then sk tx len (p + 1) else p := by
  unfold sk
  have e : len - p = (len - (p + 1)) + 1 := by omega
  rw [e, skp]
theorem sk_end {tx : Nat → Nat} {len : Nat} : sk tx len len = len := by
  unfold sk
  rw [Nat.sub_self]
  rfl
theorem sk8_L {len : Nat} {tx : Nat → Nat} {t8 t9 : Nat → Int32} (hT : TX len tx t8 t9) : ∀ n p, p ≤ len → len - p < n → f_X5_skipBlanks_L0 (nI len) t8 n (nI p) = some (nI (sk tx len p)) := by
  obtain ⟨hlen, ht⟩ := hT
  intro n
  induction n with
  | zero => intro p _ h; omega
  | succ n ih =>
    intro p hp hn
    rw [f_X5_skipBlanks_L0.eq_2]
    by_cases e : p = len
    · subst e
      rw [if_pos (nI_le (Nat.le_refl _) (by omega)), sk_end]
    · obtain ⟨a, b, c⟩ := ht p (by omega)
      have e32 : (32 : Int32) = nI 32 := rfl
      rw [if_neg (nI_ge (by omega) (by omega)), if_pos (ixb_nI (by omega) (by decide)), nI_clamp (by omega), c, e32, sk_step (by omega), nI_1]
      by_cases h : tx p = 32
      · rw [if_pos ((sb_eq a (by decide)).mpr h), if_pos h]
        exact ih (p + 1) (by omega) (by omega)
      · rw [if_neg (fun q => h ((sb_eq a (by decide)).mp q)), if_neg h]
theorem sk8 {len p : Nat} {tx : Nat → Nat} {t8 t9 : Nat → Int32} (hT : TX len tx t8 t9) (hp : p ≤ len) : f_X5_skipBlanks (nI len) t8 (nI p) = some (nI (sk tx len p)) := sk8_L hT FU p hp (FU_lt (by have := hT.1; omega))
/-- the byte here, or -1 -/
def hr (tx : Nat → Nat) (len p : Nat) : Int32 := if len ≤ p then -1 else nI (tx p)
theorem he9_L {len : Nat} {tx : Nat → Nat} {t8 t9 : Nat → Int32} (hT : TX len tx t8 t9) : ∀ n p, p ≤ len → len - p < n → f_X9_here_L0 (nI len) t9 n (nI p) = some (hr tx len (sk tx len p), nI (sk tx len p)) := by
  obtain ⟨hlen, ht⟩ := hT
  intro n
  induction n with
  | zero => intro p _ h; omega
  | succ n ih =>
    intro p hp hn
    rw [f_X9_here_L0.eq_2]
    by_cases e : p = len
    · subst e
      simp only [if_pos (nI_le (Nat.le_refl p) (show p < 2 ^ 31 by omega))]
      rw [sk_end]
      unfold hr
      rw [if_pos (Nat.le_refl _)]
    · obtain ⟨a, b, c⟩ := ht p (by omega)
      have e32 : (32 : Int32) = nI 32 := rfl
      simp only [if_neg (nI_ge (show p < len by omega) (by omega)), if_pos (ixb_nI (show p < 500 by omega) (by decide)), nI_clamp (show p < 2 ^ 31 by omega), b]
      rw [e32, sk_step (by omega), nI_1]
      by_cases h : tx p = 32
      · have h' : nI (tx p) = nI 32 := by rw [h]
        rw [if_pos h', if_pos h]
        exact ih (p + 1) (by omega) (by omega)
      · rw [if_neg (fun q => h (nI_inj (by omega) (by omega) q)), if_neg h]
        unfold hr
        rw [if_neg (by omega)]
theorem he9 {len p : Nat} {tx : Nat → Nat} {t8 t9 : Nat → Int32} (hT : TX len tx t8 t9) (hp : p ≤ len) : f_X9_here (nI len) t9 (nI p) = some (hr tx len (sk tx len p), nI (sk tx len p)) := he9_L hT FU p hp (FU_lt (by have := hT.1; omega))
theorem im8 {len p : Nat} {tx : Nat → Nat} {t8 t9 : Nat → Int32} (hT : TX len tx t8 t9) (hp : p ≤ len) : f_X5_isMore (nI len) t8 (nI p) = some (if sk tx len p < len then 1 else 0, nI (sk tx len p)) := by
  have hb := sk_b (tx := tx) hp
  have := hT.1
  unfold f_X5_isMore
  rw [sk8 hT hp, bs]
  by_cases h : sk tx len p < len
  · rw [if_neg (nI_ge h (by omega)), if_pos h]
  · rw [if_pos (nI_le (by omega) (by omega)), if_neg h]
/-- the end of the word that begins at p -/
def wend (tx : Nat → Nat) (len p : Nat) : Nat := rg tx 97 122 len p
def nend (tx : Nat → Nat) (len p : Nat) : Nat := rg tx 48 57 len p
theorem nw8_L {len : Nat} {tx : Nat → Nat} {t8 t9 : Nat → Int32} {st : Int32} (hT : TX len tx t8 t9) : ∀ n p, p ≤ len → len - p < n → f_X5_nextWord_L12 (nI len) t8 n (nI p) st = some (nI (wend tx len p), st) := by
  obtain ⟨hlen, ht⟩ := hT
  intro n
  induction n with
  | zero => intro p _ h; omega
  | succ n ih =>
    intro p hp hn
    rw [f_X5_nextWord_L12.eq_2]
    unfold wend
    by_cases e : p = len
    · subst e
      rw [if_pos (nI_le (Nat.le_refl _) (by omega)), rg_end]
    · obtain ⟨a, b, c⟩ := ht p (by omega)
      have e97 : (97 : Int32) = nI 97 := rfl
      have e122 : (122 : Int32) = nI 122 := rfl
      simp only [if_neg (nI_ge (show p < len by omega) (by omega)), if_pos (ixb_nI (show p < 500 by omega) (by decide)), nI_clamp (show p < 2 ^ 31 by omega), c]
      rw [e97, e122, rg_step (by omega), nI_1]
      by_cases h1 : sb (tx p) < nI 97
      · have := (sb_lt a (by decide)).mp h1
        rw [if_pos h1, if_neg (by omega)]
      · have h4 : ¬ (tx p < 97 ∨ 128 ≤ tx p) := fun q => h1 ((sb_lt a (by decide)).mpr q)
        rw [if_neg h1]
        by_cases h2 : nI 122 < sb (tx p)
        · have := (sb_gt a (by decide)).mp h2
          rw [if_pos h2, if_neg (by omega)]
        · have h3 : ¬ (122 < tx p ∧ tx p < 128) := fun q => h2 ((sb_gt a (by decide)).mpr q)
          rw [if_neg h2, if_pos (by omega)]
          exact ih (p + 1) (by omega) (by omega)
theorem nw8 {len p : Nat} {tx : Nat → Nat} {t8 t9 : Nat → Int32} {st : Int32} (hT : TX len tx t8 t9) (hp : p ≤ len) : f_X5_nextWord (nI len) t8 (nI p) st = some (nI (wend tx len (sk tx len p)), nI (sk tx len p)) := by
  have hb := sk_b (tx := tx) hp
  have := hT.1
  unfold f_X5_nextWord
  rw [sk8 hT hp, bs]
  exact nw8_L hT FU _ hb.2 (FU_lt (by omega))
/-- what a word of m letters from p on is as a number, as the reference says it -/
def sdn (tx : Nat → Nat) (p : Nat) : Nat → Nat
  | 0 => 0
  | m + 1 => if sdn tx p m ≤ 1000000000000 then 27 * sdn tx p m + tx (p + m) - 96 else 2000000000000
theorem in64b {v lo hi : Nat} {X Y : Int64} (h : v < 2 ^ 31) (hX : X = lN lo) (hY : Y = lN hi) (hlo : lo < 2 ^ 31) (hhi : hi < 2 ^ 31) : f_X9_in (nI v).toInt64 X Y = some (if lo ≤ v ∧ v ≤ hi then 1 else 0) := by
  rw [hX, hY, ← nI_l hlo, ← nI_l hhi, in64]
  by_cases h1 : v < lo
  · rw [if_pos (nI_lt h1 hlo), if_neg (by omega)]
  · rw [if_neg (nI_nlt (by omega) h)]
    by_cases h2 : hi < v
    · rw [if_pos (nI_lt h2 h), if_neg (by omega)]
    · rw [if_neg (nI_nlt (by omega) hhi), if_pos (by omega)]
theorem rw9_L {len s : Nat} {tx : Nat → Nat} {t8 t9 : Nat → Int32} {at0 : Int32} (hT : TX len tx t8 t9) : ∀ n m, s + m ≤ len → len - (s + m) < n → sdn tx s m < 2 ^ 60 → f_X9_readWord_L18 (nI len) t9 n at0 (lN (sdn tx s m)) (nI (s + m)) = some (at0, lN (sdn tx s (wend tx len (s + m) - s)), nI (wend tx len (s + m))) := by
  obtain ⟨hlen, ht⟩ := hT
  intro n
  induction n with
  | zero => intro m _ h; omega
  | succ n ih =>
    intro m hp hn hs
    rw [f_X9_readWord_L18.eq_2]
    unfold wend
    by_cases e : s + m = len
    · have e1 : len - s = m := by omega
      rw [e, if_pos (nI_le (Nat.le_refl _) (by omega)), rg_end, e1]
    · obtain ⟨a, b, c⟩ := ht (s + m) (by omega)
      simp only [if_neg (nI_ge (show s + m < len by omega) (by omega)), if_pos (ixb_nI (show s + m < 500 by omega) (by decide)), nI_clamp (show s + m < 2 ^ 31 by omega), b]
      rw [in64b (v := tx (s + m)) (X := 97) (Y := 122) (lo := 97) (hi := 122) (by omega) rfl rfl (by decide) (by decide), bs, rg_step (by omega)]
      by_cases h : 97 ≤ tx (s + m) ∧ tx (s + m) ≤ 122
      · rw [if_pos h, if_neg (by decide), if_pos h]
        have ih := ih (m + 1) (by omega) (by omega) (by rw [sdn]; split <;> omega)
        rw [sdn, ← Nat.add_assoc] at ih
        unfold wend at ih
        rw [nI_1]
        have e12 : (1000000000000 : Int64) = lN 1000000000000 := rfl
        by_cases hg : sdn tx s m ≤ 1000000000000
        · have hg' : lg_cmp (lN (sdn tx s m)) 1000000000000 ≤ 0 := (lg_cmp_le _ _).mpr (by rw [e12]; exact (pk_lLE (by omega) (by decide)).mpr hg)
          have ev : 27 * lN (sdn tx s m) + (nI (tx (s + m))).toInt64 - 96 = lN (27 * sdn tx s m + tx (s + m) - 96) := by
            have x1 : 27 * lN (sdn tx s m) = lN (27 * sdn tx s m) := lN_mul 27 _
            have x2 : lN (27 * sdn tx s m + tx (s + m)) - 96 = lN (27 * sdn tx s m + tx (s + m) - 96) := lN_sub (b := 96) (by omega)
            rw [x1, nI_l (by omega), lN_add, x2]
          rw [if_pos hg', ev]
          rw [if_pos hg] at ih
          exact ih
        · have hg' : ¬ lg_cmp (lN (sdn tx s m)) 1000000000000 ≤ 0 := fun q => hg ((pk_lLE (by omega) (by decide)).mp ((lg_cmp_le _ _).mp q))
          rw [if_neg hg']
          rw [if_neg hg] at ih
          exact ih
      · rw [if_neg h, if_pos rfl, if_neg h]
        have e1 : s + m - s = m := by omega
        rw [e1]
theorem rw9 {len p : Nat} {tx : Nat → Nat} {t8 t9 : Nat → Int32} {sd : Int64} {we : Int32} (hT : TX len tx t8 t9) (hp : p ≤ len) : f_X9_readWord (nI len) t9 (nI p) sd we = some (nI (sk tx len p), lN (sdn tx (sk tx len p) (wend tx len (sk tx len p) - sk tx len p)), nI (wend tx len (sk tx len p))) := by
  have hb := sk_b (tx := tx) hp
  have := hT.1
  unfold f_X9_readWord
  rw [he9 hT hp]
  simp only [bs]
  exact rw9_L (at0 := nI (sk tx len p)) (s := sk tx len p) hT FU 0 (by omega) (FU_lt (by omega)) (by rw [sdn]; decide)
/-- w is read backwards: its last letter first -/
def cd : List Nat → Nat
  | [] => 0
  | c :: cs => 27 * cd cs + (c - 96)
def mt (tx : Nat → Nat) (p : Nat) : List Nat → Prop
  | [] => True
  | c :: cs => tx (p + cs.length) = c ∧ mt tx p cs
theorem sdn_cd {tx : Nat → Nat} {p : Nat} : ∀ (w : List Nat) (m : Nat), (∀ c ∈ w, 97 ≤ c ∧ c ≤ 122) → cd w ≤ 1000000000 → (∀ j, p ≤ j → j < p + m → 97 ≤ tx j ∧ tx j ≤ 122) → (sdn tx p m = cd w ↔ (m = w.length ∧ mt tx p w)) := by
  intro w
  induction w with
  | nil =>
    intro m _ _ hl
    rw [cd]
    cases m with
    | zero => exact ⟨fun _ => ⟨rfl, trivial⟩, fun _ => rfl⟩
    | succ m =>
      have := hl (p + m) (by omega) (by omega)
      rw [sdn]
      constructor
      · intro h
        split at h <;> omega
      · rintro ⟨h, -⟩
        exact absurd h (by simp)
  | cons c cs ih =>
    intro m hw hc hl
    have hc1 := hw c (List.mem_cons_self ..)
    rw [cd] at hc
    cases m with
    | zero =>
      rw [sdn, cd]
      constructor
      · intro h; omega
      · rintro ⟨h, -⟩
        exact absurd h (by simp)
    | succ m =>
      have ih := ih m (fun x hx => hw x (List.mem_cons_of_mem _ hx)) (by omega) (fun j h1 h2 => hl j h1 (by omega))
      have h1 := hl (p + m) (by omega) (by omega)
      rw [sdn, cd, mt]
      constructor
      · intro h
        by_cases hg : sdn tx p m ≤ 1000000000000
        · rw [if_pos hg] at h
          have q1 : sdn tx p m = cd cs := by omega
          have q2 : tx (p + m) = c := by omega
          obtain ⟨a, b⟩ := ih.mp q1
          rw [← a]
          exact ⟨by simp [a], q2, b⟩
        · rw [if_neg hg] at h; omega
      · rintro ⟨h, q2, b⟩
        have a : m = cs.length := by simpa using h
        have q1 := ih.mpr ⟨a, b⟩
        rw [← a] at q2
        rw [if_pos (by omega), q1, q2]
        omega
