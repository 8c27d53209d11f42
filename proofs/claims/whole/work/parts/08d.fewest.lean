/-! the fewest changes: the class's rings and the reference's are one search -/
theorem nd_len : ∀ (Z : Nat) (M : List Nat), M.Nodup → (∀ x ∈ M, x < Z) → M.length ≤ Z := by
  intro Z
  induction Z with
  | zero =>
    intro M _ h
    cases M with
    | nil => exact Nat.le_refl _
    | cons a t => exact absurd (h a (List.mem_cons_self ..)) (Nat.not_lt_zero a)
  | succ Z ih =>
    intro M hn h
    have hn' : (M.erase Z).Nodup := hn.erase Z
    have h' : ∀ x ∈ M.erase Z, x < Z := by
      intro x hx
      have := (hn.mem_erase_iff).mp hx
      have h2 := h x this.2
      have h3 := this.1
      omega
    have := ih (M.erase Z) hn' h'
    by_cases hm : Z ∈ M
    · rw [List.length_erase_of_mem hm] at this
      omega
    · rw [List.erase_of_not_mem hm] at this
      omega
/-- those of a row that are not reached yet, behind the others -/
def bx (M : List Nat) : List Nat → List Nat
  | [] => M
  | z :: zs => if z ∈ M then bx M zs else bx (M ++ [z]) zs
theorem bx_ext : ∀ (xs M : List Nat), ∃ e, bx M xs = M ++ e := by
  intro xs
  induction xs with
  | nil => intro M; exact ⟨[], (List.append_nil M).symm⟩
  | cons z zs ih =>
    intro M
    rw [bx]
    split
    · exact ih M
    · obtain ⟨e, h⟩ := ih (M ++ [z])
      exact ⟨z :: e, by rw [h, List.append_assoc]; rfl⟩
theorem bx_mem : ∀ (xs M : List Nat) (x : Nat), x ∈ bx M xs ↔ x ∈ M ∨ x ∈ xs := by
  intro xs
  induction xs with
  | nil => intro M x; rw [bx]; simp
  | cons z zs ih =>
    intro M x
    rw [bx]
    split
    · rename_i h
      rw [ih]
      constructor
      · rintro (q | q)
        · exact Or.inl q
        · exact Or.inr (List.mem_cons_of_mem _ q)
      · rintro (q | q)
        · exact Or.inl q
        · rcases List.mem_cons.mp q with rfl | q
          · exact Or.inl h
          · exact Or.inr q
    · rw [ih]
      simp only [List.mem_append, List.mem_cons, List.not_mem_nil, or_false]
      constructor
      · rintro ((q | q) | q)
        · exact Or.inl q
        · exact Or.inr (Or.inl q)
        · exact Or.inr (Or.inr q)
      · rintro (q | q | q)
        · exact Or.inl (Or.inl q)
        · exact Or.inl (Or.inr q)
        · exact Or.inr q
theorem nd_add {M : List Nat} {z : Nat} (h : M.Nodup) (hz : ¬ z ∈ M) : (M ++ [z]).Nodup := by
  rw [List.nodup_append]
  refine ⟨h, by simp, ?_⟩
  intro a ha b hb
  have : b = z := by simpa using hb
  subst this
  intro e
  subst e
  exact hz ha
/-- how many steps, or -1 -/
def SS (Z : Nat) (M : List Nat) (D : Nat → Nat) (s : Nat → Int32) : Prop := ∀ x, x < Z → s x = if x ∈ M then nI (D x) else -1
def S8 (Z : Nat) (M : List Nat) (D : Nat → Nat) (S : Nat → Bool) (s : Nat → Int32) : Prop := ∀ x, x < Z → s x = if x ∈ M ∧ S x = true then nI (D x) else -1
theorem m1_neg : ¬ (0 : Int32) ≤ -1 := by decide
theorem nI_ne_m1 {k : Nat} (h : k < 2 ^ 31) : ¬ nI k = -1 := by
  intro e
  have := congrArg Int32.toInt e
  rw [nI_toInt h] at this
  have h2 : (-1 : Int32).toInt = -1 := by decide
  omega
theorem mx_L {Z T l v : Nat} {pl wn le law v1 v2 v3 v4 : Int32} {st : Nat → Int32} {D : Nat → Nat} (hZ : Z ≤ 4096) (hT : T ≤ 31) (hl : l < Z) (hD : ∀ x, D x < 10000) (hv : D l + 1 = v) (K0 : Int32 → Int32 → Int32 → Int32 → Int32 → Int32 → (Nat → Int32) → (Nat → Int32) → (Nat → Int32) → Option (Int32 × Int32 × (Nat → Int32) × (Nat → Int32) × (Nat → Int32))) (f : Nat → Int32) : ∀ (zs ys : List Nat) (n : Nat), (ys ++ zs).length = T → zs.length < n → Rp f (ys ++ zs) → (∀ z ∈ zs, z < Z) → ∀ (M : List Nat) (s q : Nat → Int32), M.Nodup → (∀ x ∈ M, x < Z) → SS Z M D s → Rp q M → (∀ x, ¬ x ∈ M → D x = v) → l ∈ M → ∃ s' q', f_X9_fewest_L135 pl wn le law st K0 n v1 v2 v3 v4 (nI M.length) (nI l) 1 (nI ys.length) (nI T) s q f = K0 v1 v2 v3 v4 (nI (bx M zs).length) (nI T) s' q' f ∧ (bx M zs).Nodup ∧ (∀ x ∈ bx M zs, x < Z) ∧ SS Z (bx M zs) D s' ∧ Rp q' (bx M zs) := by
  intro zs
  induction zs with
  | nil =>
    intro ys n hx hn hR hz M s q hnd hM hS hq hDv hlM
    obtain ⟨n, rfl⟩ : ∃ m, n = m + 1 := ⟨n - 1, by simp at hn; omega⟩
    rw [f_X9_fewest_L135.eq_2, if_pos (nI_le (by simp at hx; omega) (by simp at hx; omega)), bx]
    exact ⟨s, q, rfl, hnd, hM, hS, hq⟩
  | cons z zs ih =>
    intro ys n hx hn hR hz M s q hnd hM hS hq hDv hlM
    obtain ⟨n, rfl⟩ : ∃ m, n = m + 1 := ⟨n - 1, by simp at hn; omega⟩
    have hl2 := len_lt ys zs z
    have hz0 := hz z (List.mem_cons_self ..)
    have hz2 := fun x (hx : x ∈ zs) => hz x (List.mem_cons_of_mem _ hx)
    have hx' : ((ys ++ [z]) ++ zs).length = T := by rw [← app1]; exact hx
    have hR' : Rp f ((ys ++ [z]) ++ zs) := by rw [← app1]; exact hR
    have ih := ih (ys ++ [z]) n hx' (by simp at hn; omega) hR' hz2
    have hML := nd_len Z M hnd hM
    rw [f_X9_fewest_L135.eq_2, if_neg (nI_ge (by omega) (by omega)), if_neg (by decide), len1 ys z]
    simp only [nI_clamp (show ys.length < 2 ^ 31 by omega), Rp_at hR, if_pos (ixb_nI (show ys.length < 40 by omega) (by decide)), if_pos (ixb_nI (show z < 4096 by omega) (by decide)), if_pos (ixb_nI (show l < 4096 by omega) (by decide)), nI_clamp (show z < 2 ^ 31 by omega), nI_clamp (show l < 2 ^ 31 by omega)]
    have hDz := hD z
    rw [hS z hz0, bx]
    by_cases hm : z ∈ M
    · rw [if_pos hm, if_pos (nI_pos' (by omega)), if_pos hm]
      exact ih M s q hnd hM hS hq hDv hlM
    · have hnd' := nd_add hnd hm
      have hM' : ∀ x ∈ M ++ [z], x < Z := by
        intro x hx
        rcases List.mem_append.mp hx with h | h
        · exact hM x h
        · have : x = z := by simpa using h
          omega
      have hML' := nd_len Z _ hnd' hM'
      rw [List.length_append] at hML'
      have hML' : M.length + 1 ≤ Z := hML'
      have ev : nI (D l) + 1 = nI v := by rw [nI_1, hv]
      rw [if_neg hm, if_neg m1_neg, if_neg hm, if_pos (ixb_nI (show M.length < 4096 by omega) (by decide)), nI_clamp (by omega), hS l hl, if_pos hlM, ev, len1 M z]
      refine ih (M ++ [z]) _ _ hnd' hM' ?_ (Rp_add hq) (fun x h => hDv x (fun q => h (List.mem_append_left _ q))) (List.mem_append_left _ hlM)
      intro x hxZ
      by_cases e : x = z
      · subst e
        rw [pk_us, if_pos (by simp), hDv x hm]
      · rw [pk_un e, hS x hxZ]
        have : x ∈ M ++ [z] ↔ x ∈ M := by simp [e]
        simp only [this]
theorem rc_eq {Z cap z k : Nat} {s q : Nat → Int32} {v : Int32} (hz : z < Z) (hc : Z ≤ cap) (hc2 : cap ≤ 4096) (hk : s z = -1 → k < cap) : f_X4_reach cap cap s (nI k) q (nI z) v = if s z = -1 then some (upd s z v, nI (k + 1), upd q k (nI z)) else some (s, nI k, q) := by
  unfold f_X4_reach
  rw [if_neg (nI_pos (by omega)), if_neg (nI_ge (by omega) (by omega)), if_pos (ixb_nI (by omega) (by omega)), nI_clamp (by omega)]
  by_cases h : s z = -1
  · rw [if_pos h, if_pos h, if_pos (ixb_nI (by omega) (by omega)), add_eq (hk h) (by omega)]
    rfl
  · rw [if_neg h, if_neg h]
theorem cx_L {Z T cap ns v fr : Nat} {le wn law v3 any v5 : Int32} {sc sense : Nat → Int32} {D : Nat → Nat} {S : Nat → Bool} (hZ : Z ≤ cap) (hcap : cap ≤ 4096) (hns : Z ≤ ns) (hns2 : ns ≤ 4096) (hT : T ≤ 31) (hD : ∀ x, D x < 10000) (hS0 : ∀ x, x < Z → (S x = true ↔ (x = fr ∨ ¬ any = 0 ∨ sense x = 1))) (hSn : Sn Z sense) (K0 : Int32 → Int32 → Int32 → Int32 → (Nat → Int32) → Int32 → (Nat → Int32) → Int32 → (Nat → Int32) → Option (Int32 × (Nat → Int32) × Int32 × (Nat → Int32) × Int32 × (Nat → Int32))) (f : Nat → Int32) : ∀ (zs ys : List Nat) (n : Nat), (ys ++ zs).length = T → zs.length < n → Rp f (ys ++ zs) → (∀ z ∈ zs, z < Z) → ∀ (M : List Nat) (s q : Nat → Int32), M.Nodup → (∀ x ∈ M, x < Z) → S8 Z M D S s → Rp q (M.filter S) → (∀ x, ¬ x ∈ M → D x = v) → fr ∈ M → ∃ s' q', f_X4_shortest_L109 cap cap (nI Z) le wn sc 31 ns sense K0 n law v3 any v5 (nI v) (nI ys.length) s (nI (M.filter S).length) q (nI T) f = K0 law v3 any v5 s' (nI ((bx M zs).filter S).length) q' (nI T) f ∧ S8 Z (bx M zs) D S s' ∧ Rp q' ((bx M zs).filter S) := by
  intro zs
  induction zs with
  | nil =>
    intro ys n hx hn hR hz M s q hnd hM hS hq hDv hfr
    obtain ⟨n, rfl⟩ : ∃ m, n = m + 1 := ⟨n - 1, by simp at hn; omega⟩
    rw [f_X4_shortest_L109.eq_2, if_pos (nI_le (by simp at hx; omega) (by simp at hx; omega)), bx]
    exact ⟨s, q, rfl, hS, hq⟩
  | cons z zs ih =>
    intro ys n hx hn hR hz M s q hnd hM hS hq hDv hfr
    obtain ⟨n, rfl⟩ : ∃ m, n = m + 1 := ⟨n - 1, by simp at hn; omega⟩
    have hl2 := len_lt ys zs z
    have hz0 := hz z (List.mem_cons_self ..)
    have hz2 := fun x (hx : x ∈ zs) => hz x (List.mem_cons_of_mem _ hx)
    have hx' : ((ys ++ [z]) ++ zs).length = T := by rw [← app1]; exact hx
    have hR' : Rp f ((ys ++ [z]) ++ zs) := by rw [← app1]; exact hR
    have ih := ih (ys ++ [z]) n hx' (by simp at hn; omega) hR' hz2
    have hML := nd_len Z M hnd hM
    have hQL : (M.filter S).length ≤ M.length := List.length_filter_le ..
    have hg1 : f_X6_get (nI T) 31 f (nI ys.length) = some (nI z) := by
      rw [← hx]; exact get_at hR (by omega) (by decide)
    have hDz := hD z
    have hnM : ¬ z ∈ M → M.length + 1 ≤ Z := by
      intro hm
      have hM' : ∀ x ∈ M ++ [z], x < Z := by
        intro x hx
        rcases List.mem_append.mp hx with h | h
        · exact hM x h
        · have : x = z := by simpa using h
          omega
      have := nd_len Z _ (nd_add hnd hm) hM'
      rw [List.length_append] at this
      exact this
    have hsz : s z = -1 → S z = true → ¬ z ∈ M := by
      intro h1 h2 hm
      rw [hS z hz0, if_pos ⟨hm, h2⟩] at h1
      exact nI_ne_m1 (by omega) h1
    -- what is done with z where it is taken
    have take : S z = true → ∃ s2 k2 q2, f_X4_reach cap cap s (nI (M.filter S).length) q (nI z) (nI v) = some (s2, k2, q2) ∧ ∃ s' q', f_X4_shortest_L109 cap cap (nI Z) le wn sc 31 ns sense K0 n law v3 any v5 (nI v) (nI (ys ++ [z]).length) s2 k2 q2 (nI T) f = K0 law v3 any v5 s' (nI ((bx M (z :: zs)).filter S).length) q' (nI T) f ∧ S8 Z (bx M (z :: zs)) D S s' ∧ Rp q' ((bx M (z :: zs)).filter S) := by
      intro hSz
      rw [rc_eq hz0 hZ hcap (fun h => by have := hnM (hsz h hSz); omega)]
      by_cases hm : z ∈ M
      · rw [bx, if_pos hm, if_neg (fun h => hsz h hSz hm)]
        exact ⟨_, _, _, rfl, ih M s q hnd hM hS hq hDv hfr⟩
      · have e1 : s z = -1 := by rw [hS z hz0, if_neg (fun q => hm q.1)]
        rw [bx, if_neg hm, if_pos e1]
        have hM' : ∀ x ∈ M ++ [z], x < Z := by
          intro x hx
          rcases List.mem_append.mp hx with h | h
          · exact hM x h
          · have : x = z := by simpa using h
            omega
        have ef : (M ++ [z]).filter S = M.filter S ++ [z] := by
          rw [List.filter_append, List.filter_cons_of_pos hSz]; rfl
        have := ih (M ++ [z]) (upd s z (nI v)) (upd q (M.filter S).length (nI z)) (nd_add hnd hm) hM' (by
          intro x hxZ
          by_cases e : x = z
          · subst e
            rw [pk_us, if_pos ⟨by simp, hSz⟩, hDv x hm]
          · rw [pk_un e, hS x hxZ]
            have : x ∈ M ++ [z] ↔ x ∈ M := by simp [e]
            simp only [this]) (by rw [ef]; exact Rp_add hq) (fun x h => hDv x (fun q => h (List.mem_append_left _ q))) (List.mem_append_left _ hfr)
        have e := len1 (M.filter S) z
        rw [nI_1] at e
        rw [ef, ← e] at this
        exact ⟨_, _, _, rfl, this⟩
    rw [f_X4_shortest_L109.eq_2, if_neg (nI_ge (by omega) (by omega)), len1 ys z, hg1]
    simp only [bs]
    by_cases ha : any = 0
    · rw [if_pos ha, sn_eq hns (by omega) hz0, bs]
      by_cases h1 : sense z = 1
      · rw [if_pos h1, if_neg (by decide)]
        obtain ⟨s2, k2, q2, e, t⟩ := take ((hS0 z hz0).mpr (Or.inr (Or.inr h1)))
        rw [e]
        exact t
      · rw [if_neg h1, if_pos rfl, bx]
        by_cases hm : z ∈ M
        · rw [if_pos hm]
          exact ih M s q hnd hM hS hq hDv hfr
        · rw [if_neg hm]
          have hSz : ¬ S z = true := by
            intro h
            rcases (hS0 z hz0).mp h with h | h | h
            · subst h; exact hm hfr
            · exact h ha
            · exact h1 h
          have hM' : ∀ x ∈ M ++ [z], x < Z := by
            intro x hx
            rcases List.mem_append.mp hx with h | h
            · exact hM x h
            · have : x = z := by simpa using h
              omega
          have ef : (M ++ [z]).filter S = M.filter S := by
            rw [List.filter_append, List.filter_cons_of_neg hSz]; simp
          have := ih (M ++ [z]) s q (nd_add hnd hm) hM' (by
            intro x hxZ
            rw [hS x hxZ]
            by_cases e : x = z
            · subst e
              rw [if_neg (fun q => hSz q.2), if_neg (fun q => hSz q.2)]
            · have : x ∈ M ++ [z] ↔ x ∈ M := by simp [e]
              simp only [this]) (by rw [ef]; exact hq) (fun x h => hDv x (fun q => h (List.mem_append_left _ q))) (List.mem_append_left _ hfr)
          rw [ef] at this
          exact this
    · rw [if_neg ha]
      obtain ⟨s2, k2, q2, e, t⟩ := take ((hS0 z hz0).mpr (Or.inr (Or.inl ha)))
      rw [e]
      exact t
