/-! figures, signs and kinds of the text -/
/-- the first fault stays -/
def fN (fn : Int32) (e : Nat) : Int32 := if fn = 0 then nI e else fn
def fB (fn fb : Int32) (e s : Nat) : Int32 := if fn = 0 then (if e = 0 then fb else nI s) else fb
theorem fN_0 (e : Nat) : fN 0 e = nI e := if_pos rfl
theorem fN_k {fn : Int32} (h : ¬ fn = 0) (e : Nat) : fN fn e = fn := if_neg h
theorem fB_k {fn fb : Int32} (h : ¬ fn = 0) (e s : Nat) : fB fn fb e s = fb := if_neg h
theorem fB_0 (fb : Int32) (s : Nat) : fB 0 fb 0 s = fb := by
  unfold fB
  rw [if_pos rfl, if_pos rfl]
theorem fB_e {fb : Int32} {e s : Nat} (h : ¬ e = 0) : fB 0 fb e s = nI s := by
  unfold fB
  rw [if_pos rfl, if_neg h]
theorem fN_z (fn : Int32) : fN fn 0 = fn := by
  unfold fN
  by_cases h : fn = 0
  · rw [if_pos h, h]; rfl
  · rw [if_neg h]
theorem fB_z (fn fb : Int32) (s : Nat) : fB fn fb 0 s = fb := by
  unfold fB
  by_cases h : fn = 0
  · rw [if_pos h, if_pos rfl]
  · rw [if_neg h]
theorem fail_eq (s e : Nat) (fn fb : Int32) (he : ¬ e = 0) : f_X5_fail (nI s) fn fb (nI e) = some (fN fn e, fB fn fb e s) := by
  unfold f_X5_fail fN fB
  by_cases h : fn = 0
  · rw [if_pos h, if_pos h, if_pos h, if_neg he]
  · rw [if_neg h, if_neg h, if_neg h]
/-- the number of m figures from p on -/
def dv (tx : Nat → Nat) (p : Nat) : Nat → Nat
  | 0 => 0
  | m + 1 => 10 * dv tx p m + (tx (p + m) - 48)
theorem dv_lt {tx : Nat → Nat} {p : Nat} : ∀ m, (∀ j, p ≤ j → j < p + m → 48 ≤ tx j ∧ tx j ≤ 57) → dv tx p m < 10 ^ m := by
  intro m
  induction m with
  | zero => intro _; show 0 < 1; decide
  | succ m ih =>
    intro h
    have ih := ih (fun j h1 h2 => h j h1 (by omega))
    have h1 := h (p + m) (by omega) (by omega)
    rw [dv, Nat.pow_succ]
    omega
theorem nn8_L {len s : Nat} {tx : Nat → Nat} {t8 t9 : Nat → Int32} {v1 v2 fn fb : Int32} (hT : TX len tx t8 t9) (K0 : Int32 → Int32 → Int32 → Int32 → Int32 → Int32 → Int32 → Option (Int32 × Int32 × Int32 × Int32 × Int32)) : ∀ n m, s + m ≤ len → len - (s + m) < n → f_X5_nextNumber_L14 (nI len) t8 K0 n v1 v2 (nI (dv tx s (min m 3))) (nI (s + m)) (nI s) fn fb = K0 v1 v2 (nI (dv tx s (min (nend tx len (s + m) - s) 3))) (nI (nend tx len (s + m))) (nI s) fn fb := by
  obtain ⟨hlen, ht⟩ := hT
  intro n
  induction n with
  | zero => intro m _ h; omega
  | succ n ih =>
    intro m hp hn
    rw [f_X5_nextNumber_L14.eq_2]
    unfold nend
    by_cases e : s + m = len
    · have e1 : len - s = m := by omega
      rw [e, if_pos (nI_le (Nat.le_refl _) (by omega)), rg_end, e1]
    · obtain ⟨a, b, c⟩ := ht (s + m) (by omega)
      have e48 : (48 : Int32) = nI 48 := rfl
      have e57 : (57 : Int32) = nI 57 := rfl
      have e3 : (3 : Int32) = nI 3 := rfl
      have esub : nI (s + m) - nI s = nI m := by rw [pk_sub (by omega)]; congr 1; omega
      simp only [if_neg (nI_ge (show s + m < len by omega) (by omega)), if_pos (ixb_nI (show s + m < 500 by omega) (by decide)), nI_clamp (show s + m < 2 ^ 31 by omega), c, esub]
      rw [e57, e3, rg_step (by omega), nI_1]
      have ih := ih (m + 1) (by omega) (by omega)
      rw [← Nat.add_assoc] at ih
      unfold nend at ih
      by_cases h1 : sb (tx (s + m)) < 48
      · have := (sb_lt (c := 48) a (by decide)).mp h1
        have e1 : s + m - s = m := by omega
        rw [if_pos h1, if_neg (by omega), e1]
      · have h4 : ¬ (tx (s + m) < 48 ∨ 128 ≤ tx (s + m)) := fun q => h1 ((sb_lt (c := 48) a (by decide)).mpr q)
        rw [if_neg h1]
        by_cases h2 : nI 57 < sb (tx (s + m))
        · have := (sb_gt a (by decide)).mp h2
          have e1 : s + m - s = m := by omega
          rw [if_pos h2, if_neg (by omega), e1]
        · have h3 : ¬ (57 < tx (s + m) ∧ tx (s + m) < 128) := fun q => h2 ((sb_gt a (by decide)).mpr q)
          rw [if_neg h2, if_pos (show 48 ≤ tx (s + m) ∧ tx (s + m) ≤ 57 by omega)]
          by_cases h5 : 3 ≤ m
          · have em : min (m + 1) 3 = min m 3 := by omega
            rw [if_pos (nI_le h5 (by omega))]
            rw [em] at ih
            exact ih
          · have em : min m 3 = m := by omega
            have em1 : min (m + 1) 3 = m + 1 := by omega
            have esb : sb (tx (s + m)) = nI (tx (s + m)) := if_pos (by omega)
            have e10 : nI (dv tx s m) * 10 = nI (10 * dv tx s m) := by rw [Nat.mul_comm]; exact pk_mul _ 10
            have ev : nI (dv tx s m) * 10 + sb (tx (s + m)) - 48 = nI (dv tx s (m + 1)) := by
              rw [esb, e10, nI_add, e48, pk_sub (by omega), dv]
              congr 1; omega
            rw [if_neg (nI_ge (by omega) (by omega)), em, ev]
            rw [em1] at ih
            exact ih
/-- what is wrong with the number at p: 0, 1 or 2 -/
def nerr (tx : Nat → Nat) (len p : Nat) (lo hi : Int32) : Nat := if nend tx len (sk tx len p) = sk tx len p then 1 else if 3 < nend tx len (sk tx len p) - sk tx len p then 2 else if nI (dv tx (sk tx len p) (nend tx len (sk tx len p) - sk tx len p)) < lo then 2 else if nI (dv tx (sk tx len p) (nend tx len (sk tx len p) - sk tx len p)) ≤ hi then 0 else 2
/-- the number at p -/
def nval (tx : Nat → Nat) (len p : Nat) : Nat := dv tx (sk tx len p) (min (nend tx len (sk tx len p) - sk tx len p) 3)
def nfin (tx : Nat → Nat) (len p : Nat) : Nat := nend tx len (sk tx len p)
theorem nfin_b {tx : Nat → Nat} {len p : Nat} (hp : p ≤ len) : p ≤ nfin tx len p ∧ nfin tx len p ≤ len := by
  have h1 := sk_b (tx := tx) hp
  have h2 := rg_b (tx := tx) (a := 48) (b := 57) h1.2
  unfold nfin nend
  omega
theorem nn8 {len p : Nat} {tx : Nat → Nat} {t8 t9 : Nat → Int32} {st fn fb lo hi : Int32} (hT : TX len tx t8 t9) (hp : p ≤ len) : f_X5_nextNumber (nI len) t8 (nI p) st fn fb lo hi = some (nI (nval tx len p), nI (nfin tx len p), nI (sk tx len p), fN fn (nerr tx len p lo hi), fB fn fb (nerr tx len p lo hi) (sk tx len p)) := by
  have hlen := hT.1
  have h1 := sk_b (tx := tx) hp
  have h2 := rg_b (tx := tx) (a := 48) (b := 57) h1.2
  unfold f_X5_nextNumber
  rw [sk8 hT hp, bs]
  have key := fun K0 => nn8_L (v1 := lo) (v2 := hi) (fn := fn) (fb := fb) hT K0 FU 0 (by omega : sk tx len p + 0 ≤ len) (FU_lt (by omega))
  have e0 : nI (dv tx (sk tx len p) (min 0 3)) = 0 := rfl
  rw [e0, Nat.add_zero] at key
  rw [key]
  unfold nval nfin nerr
  unfold nend at *
  generalize sk tx len p = s at *
  generalize rg tx 48 57 len s = e at *
  have e1 : (1 : Int32) = nI 1 := rfl
  have e2 : (2 : Int32) = nI 2 := rfl
  have e3 : (3 : Int32) = nI 3 := rfl
  by_cases he : e = s
  · subst he
    rw [if_pos rfl, if_pos rfl, e1, fail_eq _ _ _ _ (by decide)]
    rfl
  · rw [if_neg (fun q => he (nI_inj (by omega) (by omega) q)), if_neg he, pk_sub h2.1, e3]
    by_cases h3 : 3 < e - s
    · rw [if_pos (nI_lt h3 (by omega)), if_pos h3, e2, fail_eq _ _ _ _ (by decide)]
      rfl
    · have em : min (e - s) 3 = e - s := by omega
      rw [if_neg (nI_nlt (by omega) (by omega)), if_neg h3, em]
      by_cases h4 : nI (dv tx s (e - s)) < lo
      · rw [if_pos h4, if_pos h4, e2, fail_eq _ _ _ _ (by decide)]
        rfl
      · rw [if_neg h4, if_neg h4]
        by_cases h5 : nI (dv tx s (e - s)) ≤ hi
        · rw [if_pos h5, if_pos h5, fN_z, fB_z]
        · rw [if_neg h5, if_neg h5, e2, fail_eq _ _ _ _ (by decide)]
          rfl
theorem tn9_L {len s : Nat} {tx : Nat → Nat} {t8 t9 : Nat → Int32} {v1 v2 fp na : Int32} (hT : TX len tx t8 t9) (K0 : Int32 → Int32 → Int32 → Int32 → Int32 → Int32 → Option (Int32 × Int32 × Int32 × Int32 × Int32)) : ∀ n m x, s + m ≤ len → len - (s + m) < n → (∀ j, s ≤ j → j < s + m → 48 ≤ tx j ∧ tx j ≤ 57) → x < 200000 → (m ≤ 3 → x = dv tx s m) → ∃ x', f_X9_takeNumber_L42 (nI len) t9 K0 n v1 v2 fp (nI (s + m)) (nI x) na = K0 v1 v2 fp (nI (nend tx len (s + m))) (nI x') na ∧ (nend tx len (s + m) - s ≤ 3 → x' = dv tx s (nend tx len (s + m) - s)) := by
  obtain ⟨hlen, ht⟩ := hT
  intro n
  induction n with
  | zero => intro m x _ h; omega
  | succ n ih =>
    intro m x hp hn hd hx hxm
    rw [f_X9_takeNumber_L42.eq_2]
    unfold nend
    by_cases e : s + m = len
    · have e1 : len - s = m := by omega
      rw [e, if_pos (nI_le (Nat.le_refl _) (by omega)), rg_end, e1]
      exact ⟨x, rfl, hxm⟩
    · obtain ⟨a, b, c⟩ := ht (s + m) (by omega)
      simp only [if_neg (nI_ge (show s + m < len by omega) (by omega)), if_pos (ixb_nI (show s + m < 500 by omega) (by decide)), nI_clamp (show s + m < 2 ^ 31 by omega), b]
      rw [in64b (v := tx (s + m)) (X := 48) (Y := 57) (lo := 48) (hi := 57) (by omega) rfl rfl (by decide) (by decide), bs, rg_step (by omega)]
      by_cases h : 48 ≤ tx (s + m) ∧ tx (s + m) ≤ 57
      · rw [if_pos h, if_neg (by decide), if_pos h, nI_1]
        have hd' : ∀ j, s ≤ j → j < s + (m + 1) → 48 ≤ tx j ∧ tx j ≤ 57 := by
          intro j h1 h2
          by_cases ej : j = s + m
          · subst ej; exact h
          · exact hd j h1 (by omega)
        have e4 : (10000 : Int32) = nI 10000 := rfl
        rw [e4]
        by_cases hg : x ≤ 10000
        · have ev : 10 * nI x + nI (tx (s + m)) - 48 = nI (10 * x + (tx (s + m) - 48)) := by
            have x1 : 10 * nI x = nI (10 * x) := pk_mul 10 x
            have x2 : nI (10 * x + tx (s + m)) - 48 = nI (10 * x + tx (s + m) - 48) := pk_sub (b := 48) (by omega)
            rw [x1, nI_add, x2]
            congr 1; omega
          rw [if_pos (nI_le hg (by omega)), ev]
          exact ih (m + 1) _ (by omega) (by omega) hd' (by omega) (fun q => by rw [dv, hxm (by omega)])
        · rw [if_neg (nI_ge (by omega) (by omega))]
          refine ih (m + 1) x (by omega) (by omega) hd' hx (fun q => ?_)
          have h1 := dv_lt m hd
          have h2 := hxm (by omega)
          have h3 : 10 ^ m ≤ 10 ^ 3 := Nat.pow_le_pow_right (by decide) (by omega)
          omega
      · have e1 : s + m - s = m := by omega
        rw [if_neg h, if_pos rfl, if_neg h, e1]
        exact ⟨x, rfl, hxm⟩
theorem tn9 {len p : Nat} {tx : Nat → Nat} {t8 t9 : Nat → Int32} {fp num na lo hi : Int32} (hT : TX len tx t8 t9) (hp : p ≤ len) : ∃ fp' at' num' na', f_X9_takeNumber (nI len) t9 fp (nI p) num na lo hi = some (nI (nerr tx len p lo hi), fp', at', num', na') ∧ (nerr tx len p lo hi = 0 → fp' = fp ∧ at' = nI (nfin tx len p) ∧ num' = nI (nval tx len p) ∧ na' = nI (sk tx len p)) ∧ (¬ nerr tx len p lo hi = 0 → fp' = nI (sk tx len p)) := by
  obtain ⟨hlen, ht⟩ := id hT
  have h1 := sk_b (tx := tx) hp
  have h2 := rg_b (tx := tx) (a := 48) (b := 57) h1.2
  unfold f_X9_takeNumber f_X9_fails
  rw [he9 hT hp]
  simp only [bs]
  unfold nval nfin nerr
  have key := fun K0 => tn9_L (v1 := lo) (v2 := hi) (fp := fp) (na := nI (sk tx len p)) hT K0 FU 0 0 (by omega : sk tx len p + 0 ≤ len) (FU_lt (by omega)) (fun j h1 h2 => by omega) (by decide) (fun _ => rfl)
  rw [Nat.add_zero] at key
  unfold nend at *
  generalize sk tx len p = s at *
  by_cases hs : s = len
  · subst hs
    unfold hr
    have ein : f_X9_in (-1 : Int32).toInt64 48 57 = some 0 := by decide
    rw [if_pos (Nat.le_refl _), ein, bs, if_pos rfl, rg_end, if_pos rfl]
    exact ⟨_, _, _, _, rfl, fun q => absurd q (by decide), fun _ => rfl⟩
  · obtain ⟨a, b, c⟩ := ht s (by omega)
    unfold hr
    rw [if_neg (by omega), in64b (v := tx s) (X := 48) (Y := 57) (lo := 48) (hi := 57) (by omega) rfl rfl (by decide) (by decide), bs]
    by_cases h : 48 ≤ tx s ∧ tx s ≤ 57
    · have hlt : s < rg tx 48 57 len s := by
        rw [rg_step (by omega), if_pos h]
        have := rg_b (tx := tx) (a := 48) (b := 57) (show s + 1 ≤ len by omega)
        omega
      rw [if_pos h, if_neg (by decide)]
      obtain ⟨x', k1, k2⟩ := key (fun (v1_14 : Int32) (v2_15 : Int32) (z_16 : Int32) (z_17 : Int32) (z_18 : Int32) (z_19 : Int32) =>
      if 3 < (z_17 - z_19) then
        some (2, z_19, z_17, z_18, z_19)
      else
        (f_X9_in ((z_18 : Int32).toInt64) ((v1_14 : Int32).toInt64) ((v2_15 : Int32).toInt64)).bind fun r_24 =>
        if r_24 = 0 then
          some (2, z_19, z_17, z_18, z_19)
        else
          some (0, z_16, z_17, z_18, z_19))
      have ez : nI 0 = 0 := rfl
      rw [ez] at k1
      rw [k1]
      generalize rg tx 48 57 len s = e at *
      have e3 : (3 : Int32) = nI 3 := rfl
      have e2 : nI 2 = 2 := rfl
      rw [pk_sub h2.1, e3, if_neg (show ¬ e = s by omega)]
      by_cases h3 : 3 < e - s
      · rw [if_pos (nI_lt h3 (by omega)), if_pos h3]
        exact ⟨_, _, _, _, rfl, fun q => absurd q (by decide), fun _ => rfl⟩
      · have em : min (e - s) 3 = e - s := by omega
        rw [if_neg (nI_nlt (by omega) (by omega)), if_neg h3, em, k2 (by omega), in64, bs]
        by_cases h4 : nI (dv tx s (e - s)) < lo
        · rw [if_pos h4, if_pos h4, if_pos rfl]
          exact ⟨_, _, _, _, rfl, fun q => absurd q (by decide), fun _ => rfl⟩
        · rw [if_neg h4, if_neg h4]
          by_cases h5 : nI (dv tx s (e - s)) ≤ hi
          · rw [if_pos h5, if_neg (le_nlt h5), if_neg (by decide)]
            exact ⟨_, _, _, _, rfl, fun _ => ⟨rfl, rfl, rfl, rfl⟩, fun q => absurd rfl q⟩
          · rw [if_neg h5, if_pos (nle_lt h5), if_pos rfl]
            exact ⟨_, _, _, _, rfl, fun q => absurd q (by decide), fun _ => rfl⟩
    · have heq : rg tx 48 57 len s = s := by rw [rg_step (by omega), if_neg h]
      rw [if_neg h, if_pos rfl, heq, if_pos rfl]
      exact ⟨_, _, _, _, rfl, fun q => absurd q (by decide), fun _ => rfl⟩
/-- a sign: what is wrong, and where it ends -/
def serr (tx : Nat → Nat) (len p c : Nat) : Nat := if hr tx len (sk tx len p) = nI c then 0 else 1
def sfin (tx : Nat → Nat) (len p c : Nat) : Nat := if hr tx len (sk tx len p) = nI c then sk tx len p + 1 else sk tx len p
theorem hr_lt {tx : Nat → Nat} {len p c : Nat} (hc : c < 128) (h : hr tx len p = nI c) : p < len := by
  unfold hr at h
  by_cases hp : len ≤ p
  · rw [if_pos hp] at h
    exact absurd h.symm (nI_ne_m1 (by omega))
  · omega
theorem sfin_b {tx : Nat → Nat} {len p c : Nat} (hp : p ≤ len) (hc : c < 128) : p ≤ sfin tx len p c ∧ sfin tx len p c ≤ len := by
  have h1 := sk_b (tx := tx) hp
  unfold sfin
  split
  · rename_i h
    have := hr_lt hc h
    omega
  · omega
theorem ns8 {len p c : Nat} {tx : Nat → Nat} {t8 t9 : Nat → Int32} {st fn fb : Int32} (hT : TX len tx t8 t9) (hp : p ≤ len) (hc : c < 128) : f_X5_nextSign (nI len) t8 (nI p) st fn fb (nI c) = some (nI (sfin tx len p c), nI (sk tx len p), fN fn (serr tx len p c), fB fn fb (serr tx len p c) (sk tx len p)) := by
  obtain ⟨hlen, ht⟩ := id hT
  have h1 := sk_b (tx := tx) hp
  unfold f_X5_nextSign serr sfin
  rw [sk8 hT hp, bs]
  generalize sk tx len p = s at *
  have e1 : (1 : Int32) = nI 1 := rfl
  unfold hr
  by_cases hs : s = len
  · subst hs
    have hm : ¬ (-1 : Int32) = nI c := fun q => nI_ne_m1 (by omega) q.symm
    rw [if_pos (nI_le (Nat.le_refl _) (by omega)), if_pos (Nat.le_refl _), if_neg hm, if_neg hm, e1, fail_eq _ _ _ _ (by decide)]
    rfl
  · obtain ⟨a, b, cc⟩ := ht s (by omega)
    rw [if_neg (nI_ge (by omega) (by omega)), if_pos (ixb_nI (by omega) (by decide)), nI_clamp (by omega), cc, if_neg (show ¬ len ≤ s by omega)]
    by_cases h : tx s = c
    · have hq : nI (tx s) = nI c := by rw [h]
      rw [if_pos ((sb_eq a hc).mpr h), if_pos hq, if_pos hq, fN_z, fB_z, nI_1]
    · have hq : ¬ nI (tx s) = nI c := fun q => h (nI_inj (by omega) (by omega) q)
      rw [if_neg (fun q => h ((sb_eq a hc).mp q)), if_neg hq, if_neg hq, e1, fail_eq _ _ _ _ (by decide)]
      rfl
/-- the word at p, as a number -/
def kc (tx : Nat → Nat) (len p : Nat) : Nat := sdn tx (sk tx len p) (wend tx len (sk tx len p) - sk tx len p)
def wfin (tx : Nat → Nat) (len p : Nat) : Nat := wend tx len (sk tx len p)
theorem wfin_b {tx : Nat → Nat} {len p : Nat} (hp : p ≤ len) : p ≤ wfin tx len p ∧ wfin tx len p ≤ len := by
  have h1 := sk_b (tx := tx) hp
  have h2 := rg_b (tx := tx) (a := 97) (b := 122) h1.2
  unfold wfin wend
  omega
def kval (tx : Nat → Nat) (len p : Nat) : Nat := if kc tx len p = cd [101, 109, 97, 110] then 0 else if kc tx len p = cd [100, 101, 101, 100] then 1 else if kc tx len p = cd [107, 110, 105, 108] then 2 else if kc tx len p = cd [110, 114, 117, 116] then 3 else 0
def kerr (tx : Nat → Nat) (len p : Nat) : Nat := if kc tx len p = cd [101, 109, 97, 110] then 0 else if kc tx len p = cd [100, 101, 101, 100] then 0 else if kc tx len p = cd [107, 110, 105, 108] then 0 else if kc tx len p = cd [110, 114, 117, 116] then 0 else 1
theorem kval_lt (tx : Nat → Nat) (len p : Nat) : kval tx len p < 4 := by
  unfold kval
  repeat' split
  all_goals decide
theorem nk8 {len p : Nat} {tx : Nat → Nat} {t8 t9 : Nat → Int32} {st fn fb : Int32} (hT : TX len tx t8 t9) (hp : p ≤ len) : f_X5_nextKind (nI len) t8 (nI p) st fn fb = some (nI (kval tx len p), nI (wfin tx len p), nI (sk tx len p), fN fn (kerr tx len p), fB fn fb (kerr tx len p) (sk tx len p)) := by
  have h1 := sk_b (tx := tx) hp
  unfold f_X5_nextKind kval kerr wfin
  rw [nw8 hT hp]
  simp only [bs]
  rw [sp_name hT h1.2, sp_deed hT h1.2, sp_link hT h1.2, sp_turn hT h1.2]
  simp only [bs]
  unfold kc
  have e1 : (1 : Int32) = nI 1 := rfl
  by_cases a : sdn tx (sk tx len p) (wend tx len (sk tx len p) - sk tx len p) = cd [101, 109, 97, 110]
  · simp only [if_pos a, fN_z, fB_z, c10, if_false]; rfl
  · simp only [if_neg a, c00, if_true]
    by_cases b : sdn tx (sk tx len p) (wend tx len (sk tx len p) - sk tx len p) = cd [100, 101, 101, 100]
    · simp only [if_pos b, fN_z, fB_z, c10, if_false]; rfl
    · simp only [if_neg b, c00, if_true]
      by_cases c : sdn tx (sk tx len p) (wend tx len (sk tx len p) - sk tx len p) = cd [107, 110, 105, 108]
      · simp only [if_pos c, fN_z, fB_z, c10, if_false]; rfl
      · simp only [if_neg c, c00, if_true]
        by_cases d : sdn tx (sk tx len p) (wend tx len (sk tx len p) - sk tx len p) = cd [110, 114, 117, 116]
        · simp only [if_pos d, fN_z, fB_z, c10, if_false]; rfl
        · simp only [if_neg d, c00, if_true]
          rw [e1, fail_eq _ _ _ _ (by decide)]
          rfl
theorem sdn_lt {tx : Nat → Nat} {p : Nat} : ∀ m, (∀ j, p ≤ j → j < p + m → 97 ≤ tx j ∧ tx j ≤ 122) → sdn tx p m < 2 ^ 60 := by
  intro m
  induction m with
  | zero => intro _; show 0 < 2 ^ 60; decide
  | succ m ih =>
    intro h
    have ih := ih (fun j h1 h2 => h j h1 (by omega))
    have h1 := h (p + m) (by omega) (by omega)
    rw [sdn]
    split <;> omega
theorem kc_lt {tx : Nat → Nat} {len p : Nat} (hp : p ≤ len) : kc tx len p < 2 ^ 60 := by
  have h1 := sk_b (tx := tx) hp
  have hb : sk tx len p ≤ wend tx len (sk tx len p) ∧ wend tx len (sk tx len p) ≤ len := rg_b h1.2
  exact sdn_lt _ (fun j h1 h2 => rg_in (len := len) h1 (by unfold wend at h2 hb; omega))
theorem lc_eq2 {a b : Nat} (ha : a < 2 ^ 60) (hb : b < 2 ^ 60) : (lg_cmp (lN a) (lN b) = 0) ↔ a = b := by
  rw [lg_cmp_eq, pk_lEQ (by omega) (by omega)]
theorem cod_name : f_X9_code 110 97 109 101 = some (lN (cd [101, 109, 97, 110])) := by decide
theorem cod_deed : f_X9_code 100 101 101 100 = some (lN (cd [100, 101, 101, 100])) := by decide
theorem cod_link : f_X9_code 108 105 110 107 = some (lN (cd [107, 110, 105, 108])) := by decide
theorem cod_turn : f_X9_code 116 117 114 110 = some (lN (cd [110, 114, 117, 116])) := by decide
theorem tk9 {len p at' nr : Nat} {tx : Nat → Nat} {t8 t9 row : Nat → Int32} {fp we : Int32} {sd : Int64} (hT : TX len tx t8 t9) (hp : p ≤ len) (hat : at' < nr) (hnr : nr < 2 ^ 31) : f_X9_takeKind (nI len) nr t9 fp (nI p) sd we row (nI at') = if kerr tx len p = 0 then some (0, fp, nI (wfin tx len p), lN (kc tx len p), nI (wfin tx len p), upd row at' (nI (kval tx len p))) else some (1, nI (sk tx len p), nI (sk tx len p), lN (kc tx len p), nI (wfin tx len p), row) := by
  have hk := kc_lt (tx := tx) hp
  unfold f_X9_takeKind f_X9_fails
  rw [rw9 hT hp]
  have hkc : sdn tx (sk tx len p) (wend tx len (sk tx len p) - sk tx len p) = kc tx len p := rfl
  have hwf : wend tx len (sk tx len p) = wfin tx len p := rfl
  rw [hkc, hwf]
  simp only [bs]
  rw [cod_name, cod_deed, cod_link, cod_turn]
  simp only [bs, if_pos (ixb_nI hat hnr), nI_clamp (show at' < 2 ^ 31 by omega)]
  simp only [lc_eq2 hk (show cd [101, 109, 97, 110] < 2 ^ 60 by decide), lc_eq2 hk (show cd [100, 101, 101, 100] < 2 ^ 60 by decide), lc_eq2 hk (show cd [107, 110, 105, 108] < 2 ^ 60 by decide), lc_eq2 hk (show cd [110, 114, 117, 116] < 2 ^ 60 by decide)]
  unfold kval kerr
  by_cases a : kc tx len p = cd [101, 109, 97, 110]
  · simp only [if_pos a, if_true]; rfl
  · simp only [if_neg a]
    by_cases b : kc tx len p = cd [100, 101, 101, 100]
    · simp only [if_pos b, if_true]; rfl
    · simp only [if_neg b]
      by_cases c : kc tx len p = cd [107, 110, 105, 108]
      · simp only [if_pos c, if_true]; rfl
      · simp only [if_neg c]
        by_cases d : kc tx len p = cd [110, 114, 117, 116]
        · simp only [if_pos d, if_true]; rfl
        · simp only [if_neg d]
          rfl
