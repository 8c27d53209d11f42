/-! the fewest changes: both searches step by step -/
/-- through which LETTERS one may go -/
def thr (fr : Nat) (any : Int32) (st : Nat → Int32) (x : Nat) : Bool := decide (x = fr) || decide (¬ any = 0) || decide (¬ st x = 0)
theorem thr_iff {fr : Nat} {any : Int32} {st : Nat → Int32} {x : Nat} : thr fr any st x = true ↔ (x = fr ∨ ¬ any = 0 ∨ ¬ st x = 0) := by
  unfold thr
  simp [or_assoc]
theorem l65 {Z i l fr to : Nat} {pl wn le law any c last : Int32} {n : Nat} {st s q f : Nat → Int32} (hZ : Z ≤ 4096) (hl : l < Z) (hfr : fr < Z) (hto : to < Z) (hi : i < 4096) (hq : q i = nI l) (hlast : ¬ last ≤ nI i) : f_X9_fewest_L65 pl wn le law st (n + 1) (nI fr) (nI to) any (nI i) last c s q f = if l = to then some (s l, c, s, q, f) else (f_X9_findChanges pl wn law st c f (nI l) 1).bind fun (z, g) => f_X9_fewest_L135 pl wn le law st (fun (a : Int32) (b : Int32) (x : Int32) (d : Int32) (e : Int32) (z_40 : Int32) (z_41 : Nat → Int32) (z_42 : Nat → Int32) (z_43 : Nat → Int32) => f_X9_fewest_L65 pl wn le law st n a b x d e z_40 z_41 z_42 z_43) FU (nI fr) (nI to) any (nI i + 1) last (nI l) (if thr fr any st l = true then 1 else 0) 0 z s q g := by
  rw [f_X9_fewest_L65.eq_2, if_neg hlast, if_pos (ixb_nI hi (by decide))]
  simp only [nI_clamp (show i < 2 ^ 31 by omega), hq, if_pos (ixb_nI (show l < 4096 by omega) (by decide)), nI_clamp (show l < 2 ^ 31 by omega), nI_eq (show l < 2 ^ 31 by omega) (show fr < 2 ^ 31 by omega), nI_eq (show l < 2 ^ 31 by omega) (show to < 2 ^ 31 by omega)]
  by_cases h1 : l = fr
  · have ht : thr fr any st l = true := thr_iff.mpr (Or.inl h1)
    rw [if_pos h1, if_pos ht]
  · rw [if_neg h1]
    by_cases h2 : any = 0
    · rw [if_pos h2]
      by_cases h3 : st l = 0
      · have ht : ¬ thr fr any st l = true := fun q => by
          rcases thr_iff.mp q with q | q | q
          · exact h1 q
          · exact q h2
          · exact q h3
        rw [if_pos h3, if_neg ht]
      · have ht : thr fr any st l = true := thr_iff.mpr (Or.inr (Or.inr h3))
        rw [if_neg h3, if_pos ht]
    · have ht : thr fr any st l = true := thr_iff.mpr (Or.inr (Or.inl h2))
      rw [if_neg h2, if_pos ht]
theorem l135_0 {pl wn le law v1 v2 v3 v4 v5 v6 v8 c : Int32} {st s q f : Nat → Int32} (K0 : Int32 → Int32 → Int32 → Int32 → Int32 → Int32 → (Nat → Int32) → (Nat → Int32) → (Nat → Int32) → Option (Int32 × Int32 × (Nat → Int32) × (Nat → Int32) × (Nat → Int32))) : f_X9_fewest_L135 pl wn le law st K0 FU v1 v2 v3 v4 v5 v6 0 v8 c s q f = K0 v1 v2 v3 v4 v5 c s q f := by
  have hf : FU = 9999 + 1 := rfl
  rw [hf, f_X9_fewest_L135.eq_2]
  split
  · rfl
  · rw [if_pos rfl]
theorem bf_fin {N L Z ns fr to : Nat} {law any : Int32} {sc sense st : Nat → Int32} (hC : CT N L Z ns sc sense st) (hfr : fr < Z) (hto : to < Z) : ∀ (n : Nat) (ys zs : List Nat) (D : Nat → Nat) (s q f : Nat → Int32) (c : Int32), Z - ys.length < n → (ys ++ zs).Nodup → (∀ x ∈ ys ++ zs, x < Z) → to ∈ zs → (∀ x, D x ≤ ys.length) → SS Z (ys ++ zs) D s → Rp q (ys ++ zs) → ∃ a b d e, f_X9_fewest_L65 (nI L) (nI N) (nI Z) law st n (nI fr) (nI to) any (nI ys.length) (nI (ys ++ zs).length) c s q f = some (nI (D to), a, b, d, e) := by
  have hZ := hC.Z_le
  intro n
  induction n with
  | zero => intro ys zs D s q f c h; omega
  | succ n ih =>
    intro ys zs D s q f c hn hnd hM ht hD hS hq
    cases zs with
    | nil => exact absurd ht (List.not_mem_nil)
    | cons l zs =>
      have hlen := len_lt ys zs l
      have hML := nd_len Z _ hnd hM
      have hl : l < Z := hM l (by simp)
      rw [l65 hZ hl hfr hto (by omega) (Rp_at hq) (nI_ge hlen (by omega))]
      by_cases e : l = to
      · subst e
        rw [if_pos rfl, hS l hl, if_pos (by simp)]
        exact ⟨_, _, _, _, rfl⟩
      · rw [if_neg e]
        obtain ⟨g9, e9, r9⟩ := fc_ct (law := law) (any := 1) (f := f) (cnt := c) hC hl
        obtain ⟨hxl, hxm⟩ := ch_ct (law := law) (any := 1) hC hl
        rw [e9]
        generalize chL N L law (okF st 1) l = xs at *
        simp only [bs]
        have ht2 : to ∈ zs := by
          rcases List.mem_cons.mp ht with h | h
          · exact absurd h.symm e
          · exact h
        by_cases hth : thr fr any st l = true
        · rw [if_pos hth]
          -- the row is gone through
          have key := mx_L (Z := Z) (l := l) (v := D l + 1) (pl := nI L) (wn := nI N) (le := nI Z) (law := law) (v1 := nI fr) (v2 := nI to) (v3 := any) (v4 := nI ys.length + 1) (st := st) (D := fun x => if x ∈ ys ++ l :: zs then D x else D l + 1) hZ hxl hl (fun x => by
              have h1 := hD x
              have h2 := hD l
              split <;> omega) (by rw [if_pos (by simp)]) (fun (a : Int32) (b : Int32) (x : Int32) (d : Int32) (e : Int32) (z_40 : Int32) (z_41 : Nat → Int32) (z_42 : Nat → Int32) (z_43 : Nat → Int32) => f_X9_fewest_L65 (nI L) (nI N) (nI Z) law st n a b x d e z_40 z_41 z_42 z_43) g9 xs [] FU rfl (FU_lt (by omega)) r9 (fun z hz => (hxm z hz).1) (ys ++ l :: zs) s q hnd hM (fun x hx => by
              rw [hS x hx]
              split
              · rename_i h; exact congrArg nI (if_pos h).symm
              · rfl) hq (fun x hx => if_neg hx) (by simp)
          have h00 : nI ([] : List Nat).length = 0 := rfl
          rw [h00] at key
          obtain ⟨s', q', k1, k2, k3, k4, k5⟩ := key
          rw [k1]
          obtain ⟨ext, he⟩ := bx_ext xs (ys ++ l :: zs)
          have he' : bx (ys ++ l :: zs) xs = (ys ++ [l]) ++ (zs ++ ext) := by rw [he]; simp
          rw [he'] at k2 k3 k4 k5 ⊢
          rw [len1 ys l]
          obtain ⟨a, b, d, e', r⟩ := ih (ys ++ [l]) (zs ++ ext) _ s' q' g9 (nI xs.length) (by simp; omega) k2 k3 (List.mem_append_left _ ht2) (fun x => by
              have h1 := hD x
              have h2 := hD l
              simp only [List.length_append]
              have : [l].length = 1 := rfl
              split <;> omega) k4 k5
          refine ⟨a, b, d, e', ?_⟩
          rw [r, if_pos (by simp [ht2])]
        · rw [if_neg hth, l135_0]
          have hS' : SS Z ((ys ++ [l]) ++ zs) D s := by rw [← app1]; exact hS
          have hq' : Rp q ((ys ++ [l]) ++ zs) := by rw [← app1]; exact hq
          rw [app1] at hnd hM ⊢
          rw [len1 ys l]
          exact ih (ys ++ [l]) zs D s q g9 (nI xs.length) (by simp; omega) hnd hM ht2 (fun x => by have := hD x; simp; omega) hS' hq'
theorem bf_sim {N L Z ns cap fr to : Nat} {law any : Int32} {sc sense st : Nat → Int32} (hC : CT N L Z ns sc sense st) (hcap : Z ≤ cap) (hcap2 : cap ≤ 4096) (hfr : fr < Z) (hto : to < Z) : ∀ (n : Nat) (ys zs : List Nat) (D : Nat → Nat) (s q f s8 q8 f8 : Nat → Int32) (c c8 : Int32) (n8 : Nat), Z - ys.length < n → Z - (ys.filter (thr fr any st)).length < n8 → (ys ++ zs).Nodup → (∀ x ∈ ys ++ zs, x < Z) → fr ∈ ys ++ zs → ¬ to ∈ ys ++ zs → (∀ x, D x ≤ ys.length) → SS Z (ys ++ zs) D s → S8 Z (ys ++ zs) D (thr fr any st) s8 → Rp q (ys ++ zs) → Rp q8 ((ys ++ zs).filter (thr fr any st)) → ∃ r a b d e a8 b8 d8 e8 g8, f_X4_shortest_L31 cap cap (nI Z) (nI L) (nI N) sc 31 ns sense n8 law (nI to) any (nI (ys.filter (thr fr any st)).length) s8 (nI ((ys ++ zs).filter (thr fr any st)).length) q8 c8 f8 = some (r, a8, b8, d8, e8, g8) ∧ f_X9_fewest_L65 (nI L) (nI N) (nI Z) law st n (nI fr) (nI to) any (nI ys.length) (nI (ys ++ zs).length) c s q f = some (r, a, b, d, e) := by
  have hZ := hC.Z_le
  obtain ⟨-, -, -, -, hns, hns2, hst⟩ := id hC
  intro n
  induction n with
  | zero => intro ys zs D s q f s8 q8 f8 c c8 n8 h; omega
  | succ n ih =>
    intro ys zs D s q f s8 q8 f8 c c8 n8 hn hn8 hnd hM hfm htm hD hS hS8 hq hq8
    have hML := nd_len Z _ hnd hM
    obtain ⟨n8, rfl⟩ : ∃ m, n8 = m + 1 := ⟨n8 - 1, by omega⟩
    cases zs with
    | nil =>
      rw [List.append_nil] at *
      rw [f_X9_fewest_L65.eq_2, if_pos (nI_le (Nat.le_refl _) (by omega)), f_X4_shortest_L31.eq_2]
      split
      · exact ⟨_, _, _, _, _, _, _, _, _, _, rfl, rfl⟩
      · have hQL : (ys.filter (thr fr any st)).length ≤ ys.length := List.length_filter_le ..
        rw [if_pos (nI_le (Nat.le_refl _) (by omega))]
        exact ⟨_, _, _, _, _, _, _, _, _, _, rfl, rfl⟩
    | cons l zs =>
      have hlen := len_lt ys zs l
      have hl : l < Z := hM l (by simp)
      have hlt : ¬ l = to := fun e => htm (by rw [← e]; simp)
      rw [l65 hZ hl hfr hto (by omega) (Rp_at hq) (nI_ge hlen (by omega)), if_neg hlt]
      obtain ⟨g9, e9, r9⟩ := fc_ct (law := law) (any := 1) (f := f) (cnt := c) hC hl
      obtain ⟨hxl, hxm⟩ := ch_ct (law := law) (any := 1) hC hl
      obtain ⟨y8, x8, rr8⟩ := lc_ct (law := law) (any := 1) (f := f8) (cnt := c8) (nl := 31) hC hl (by omega) (by omega)
      rw [e9]
      generalize chL N L law (okF st 1) l = xs at *
      simp only [bs]
      by_cases hth : thr fr any st l = true
      · rw [if_pos hth]
        -- the class takes the same LETTER
        have ef : (ys ++ l :: zs).filter (thr fr any st) = ys.filter (thr fr any st) ++ l :: zs.filter (thr fr any st) := by
          rw [List.filter_append, List.filter_cons_of_pos hth]
        have hQL : (ys.filter (thr fr any st)).length ≤ ys.length := List.length_filter_le ..
        have hQL2 : ((ys ++ l :: zs).filter (thr fr any st)).length ≤ (ys ++ l :: zs).length := List.length_filter_le ..
        have hk := len_lt (ys.filter (thr fr any st)) (zs.filter (thr fr any st)) l
        rw [← ef] at hk
        have hget : f_X6_get (nI ((ys ++ l :: zs).filter (thr fr any st)).length) cap q8 (nI (ys.filter (thr fr any st)).length) = some (nI l) := by
          rw [ef]
          exact get_at (by rw [← ef]; exact hq8) (by rw [← ef]; omega) (by omega)
        have hs8l : s8 l = nI (D l) := by rw [hS8 l hl, if_pos ⟨by simp, hth⟩]
        rw [f_X4_shortest_L31.eq_2, if_neg (nI_ge (by omega) (by omega)), if_neg (nI_ge hk (by omega)), hget, bs, if_pos (ixb_nI (by omega) (by omega)), nI_clamp (by omega), x8]
        simp only [bs]
        rw [has_eq hxl (by decide) (by omega) (by omega) rr8 (fun z hz => by have := (hxm z hz).1; omega), bs, hs8l, nI_1]
        have mkey := mx_L (Z := Z) (l := l) (v := D l + 1) (pl := nI L) (wn := nI N) (le := nI Z) (law := law) (v1 := nI fr) (v2 := nI to) (v3 := any) (v4 := nI ys.length + 1) (st := st) (D := fun x => if x ∈ ys ++ l :: zs then D x else D l + 1) hZ hxl hl (fun x => by
              have h1 := hD x
              have h2 := hD l
              split <;> omega) (by rw [if_pos (by simp)]) (fun (a : Int32) (b : Int32) (x : Int32) (d : Int32) (e : Int32) (z_40 : Int32) (z_41 : Nat → Int32) (z_42 : Nat → Int32) (z_43 : Nat → Int32) => f_X9_fewest_L65 (nI L) (nI N) (nI Z) law st n a b x d e z_40 z_41 z_42 z_43) g9 xs [] FU rfl (FU_lt (by omega)) r9 (fun z hz => (hxm z hz).1) (ys ++ l :: zs) s q hnd hM (fun x hx => by
              rw [hS x hx]
              split
              · rename_i h; exact congrArg nI (if_pos h).symm
              · rfl) hq (fun x hx => if_neg hx) (by simp)
        have h00 : nI ([] : List Nat).length = 0 := rfl
        rw [h00] at mkey
        obtain ⟨s', q', k1, k2, k3, k4, k5⟩ := mkey
        rw [k1]
        have hDb : ∀ x, (fun x => if x ∈ ys ++ l :: zs then D x else D l + 1) x ≤ (ys ++ [l]).length := fun x => by
          have h1 := hD x
          have h2 := hD l
          simp only [List.length_append]
          have : [l].length = 1 := rfl
          split <;> omega
        by_cases hto2 : to ∈ xs
        · rw [if_pos hto2, if_neg (by decide)]
          obtain ⟨ext, he⟩ := bx_ext xs (ys ++ l :: zs)
          have htx : to ∈ bx (ys ++ l :: zs) xs := (bx_mem xs _ to).mpr (Or.inr hto2)
          have hte : to ∈ zs ++ ext := by
            rw [he] at htx
            rcases List.mem_append.mp htx with h | h
            · exact absurd h htm
            · exact List.mem_append_right _ h
          have he' : bx (ys ++ l :: zs) xs = (ys ++ [l]) ++ (zs ++ ext) := by rw [he]; simp
          rw [he'] at k2 k3 k4 k5 ⊢
          rw [len1 ys l]
          obtain ⟨a, b, d, e', r⟩ := bf_fin (law := law) (any := any) hC hfr hto n (ys ++ [l]) (zs ++ ext) _ s' q' g9 (nI xs.length) (by simp; omega) k2 k3 hte hDb k4 k5
          refine ⟨nI (D l + 1), a, b, d, e', _, _, _, _, _, rfl, ?_⟩
          rw [r, if_neg htm]
        · rw [if_neg hto2, if_pos rfl]
          have ckey := cx_L (Z := Z) (cap := cap) (ns := ns) (v := D l + 1) (fr := fr) (le := nI L) (wn := nI N) (law := law) (v3 := nI to) (any := any) (v5 := nI (ys.filter (thr fr any st)).length) (sc := sc) (sense := sense) (D := fun x => if x ∈ ys ++ l :: zs then D x else D l + 1) (S := thr fr any st) hcap hcap2 hns hns2 hxl (fun x => by
              have h1 := hD x
              have h2 := hD l
              split <;> omega) (fun x hx => by
              rw [thr_iff, ← (hst x hx).1]
              have : (¬ sense x = 0) ↔ sense x = 1 := by
                rcases (hst x hx).2 with h | h <;> rw [h] <;> decide
              rw [this]) (fun x hx => (hst x hx).2) (fun (v1_40 : Int32) (v3_41 : Int32) (v4_42 : Int32) (v5_43 : Int32) (z_44 : Nat → Int32) (z_45 : Int32) (z_46 : Nat → Int32) (z_47 : Int32) (z_48 : Nat → Int32) =>
            f_X4_shortest_L31 cap cap (nI Z) (nI L) (nI N) sc 31 ns sense n8 v1_40 v3_41 v4_42 (v5_43 + 1) z_44 z_45 z_46 z_47 z_48) y8 xs [] FU rfl (FU_lt (by omega)) rr8 (fun z hz => (hxm z hz).1) (ys ++ l :: zs) s8 q8 hnd hM (fun x hx => by
              rw [hS8 x hx]
              split
              · rename_i h; exact congrArg nI (if_pos h.1).symm
              · rfl) hq8 (fun x hx => if_neg hx) hfm
          rw [h00] at ckey
          obtain ⟨s8', q8', j1, j2, j3⟩ := ckey
          rw [j1]
          have htx : ¬ to ∈ bx (ys ++ l :: zs) xs := fun h => by
            rcases (bx_mem xs _ to).mp h with h | h
            · exact htm h
            · exact hto2 h
          have hfx : fr ∈ bx (ys ++ l :: zs) xs := (bx_mem xs _ fr).mpr (Or.inl hfm)
          obtain ⟨ext, he⟩ := bx_ext xs (ys ++ l :: zs)
          have he' : bx (ys ++ l :: zs) xs = (ys ++ [l]) ++ (zs ++ ext) := by rw [he]; simp
          rw [he'] at k2 k3 k4 k5 j2 j3 htx hfx ⊢
          have e1 := len1 ys l
          have e2 : nI (ys.filter (thr fr any st)).length + 1 = nI ((ys ++ [l]).filter (thr fr any st)).length := by
            rw [List.filter_append, List.filter_cons_of_pos hth, nI_1, List.length_append]; rfl
          rw [e1, e2]
          have e3 : ((ys ++ [l]).filter (thr fr any st)).length = (ys.filter (thr fr any st)).length + 1 := by
            rw [List.filter_append, List.filter_cons_of_pos hth, List.length_append]; rfl
          exact ih (ys ++ [l]) (zs ++ ext) _ s' q' g9 s8' q8' y8 (nI xs.length) (nI xs.length) n8 (by simp; omega) (by omega) k2 k3 hfx htx hDb k4 j2 k5 j3
      · rw [if_neg hth, l135_0]
        have ef : (ys ++ [l]).filter (thr fr any st) = ys.filter (thr fr any st) := by
          rw [List.filter_append, List.filter_cons_of_neg hth]; simp
        have hS' : SS Z ((ys ++ [l]) ++ zs) D s := by rw [← app1]; exact hS
        have hS8' : S8 Z ((ys ++ [l]) ++ zs) D (thr fr any st) s8 := by rw [← app1]; exact hS8
        have hq' : Rp q ((ys ++ [l]) ++ zs) := by rw [← app1]; exact hq
        have hq8' : Rp q8 (((ys ++ [l]) ++ zs).filter (thr fr any st)) := by rw [← app1]; exact hq8
        rw [app1] at hnd hM hfm htm ⊢
        have := ih (ys ++ [l]) zs D s q g9 s8 q8 f8 (nI xs.length) c8 (n8 + 1) (by simp; omega) (by rw [ef]; exact hn8) hnd hM hfm htm (fun x => by have := hD x; simp; omega) hS' hS8' hq' hq8'
        rw [ef] at this
        rw [len1 ys l]
        exact this
theorem fw_L22 {Z : Nat} {pl wn law v1 v2 v3 c : Int32} {st q f : Nat → Int32} (hZ : Z ≤ 4096) (K0 : Int32 → Int32 → Int32 → Int32 → (Nat → Int32) → (Nat → Int32) → (Nat → Int32) → Option (Int32 × Int32 × (Nat → Int32) × (Nat → Int32) × (Nat → Int32))) : ∀ n m, m ≤ Z → m < n → ∀ s : Nat → Int32, (∀ x, x < Z - m → s x = -1) → ∃ s', f_X9_fewest_L22 pl wn (nI Z) law st K0 n v1 v2 v3 (nI (Z - m)) c s q f = K0 v1 v2 v3 c s' q f ∧ ∀ x, x < Z → s' x = -1 := by
  intro n
  induction n with
  | zero => intro m _ h; omega
  | succ n ih =>
    intro m hm hn s hs
    rw [f_X9_fewest_L22.eq_2]
    cases m with
    | zero =>
      rw [if_pos (nI_le (by omega) (by omega))]
      exact ⟨s, rfl, fun x hx => hs x (by omega)⟩
    | succ m =>
      have hx : Z - (m + 1) + 1 = Z - m := by omega
      rw [if_neg (nI_ge (by omega) (by omega)), if_pos (ixb_nI (by omega) (by decide)), nI_clamp (by omega), nI_1, hx]
      refine ih m (by omega) (by omega) _ (fun x hx => ?_)
      by_cases e : x = Z - (m + 1)
      · subst e; rw [pk_us]
      · rw [pk_un e]; exact hs x (by omega)
theorem o_fewest {N L Z ns cap : Nat} {law p3 : Int32} {sc sense st s8 q8 f8 s9 q9 f9 : Nat → Int32} {k8 c8 c9 : Int32} (hC : CT N L Z ns sc sense st) (hcap : Z ≤ cap) (hcap2 : cap ≤ 4096) (p1 p2 : Int32) : ∃ r a8 b8 d8 e8 g8 a b d e, f_X8_fewest (nI Z) law cap cap (nI L) (nI N) sc 31 ns sense s8 k8 q8 c8 f8 p1 p2 p3 = some (r, a8, b8, d8, e8, g8) ∧ f_X9_fewest (nI L) (nI N) (nI Z) law st c9 s9 q9 f9 p1 p2 p3 = some (r, a, b, d, e) := by
  have hZ := hC.Z_le
  unfold f_X8_fewest f_X9_fewest
  rcases pk_ix p1 (n := Z) (by omega) with h2 | h2 | ⟨fr, hfr, rfl⟩
  · rw [il8_no (Or.inl h2), il9_no (by omega) (Or.inl h2)]
    simp only [bs, c00, if_true]
    exact ⟨_, _, _, _, _, _, _, _, _, _, rfl, rfl⟩
  · rw [il8_no (Or.inr h2), il9_no (by omega) (Or.inr h2)]
    simp only [bs, c00, if_true]
    exact ⟨_, _, _, _, _, _, _, _, _, _, rfl, rfl⟩
  rw [il8_yes (by omega) hfr, il9_yes (by omega) hfr]
  simp only [bs, c10, if_false]
  rcases pk_ix p2 (n := Z) (by omega) with h2 | h2 | ⟨to, hto, rfl⟩
  · rw [il8_no (Or.inl h2), il9_no (by omega) (Or.inl h2)]
    simp only [bs, c00, if_true]
    exact ⟨_, _, _, _, _, _, _, _, _, _, rfl, rfl⟩
  · rw [il8_no (Or.inr h2), il9_no (by omega) (Or.inr h2)]
    simp only [bs, c00, if_true]
    exact ⟨_, _, _, _, _, _, _, _, _, _, rfl, rfl⟩
  rw [il8_yes (by omega) hto, il9_yes (by omega) hto]
  simp only [bs, c10, if_false]
  obtain ⟨s', e9, hs'⟩ := fw_L22 (pl := nI L) (wn := nI N) (law := law) (v1 := nI fr) (v2 := nI to) (v3 := p3) (c := c9) (st := st) (q := q9) (f := f9) hZ (fun (v1_9 : Int32) (v2_10 : Int32) (v3_11 : Int32) (z_12 : Int32) (z_13 : Nat → Int32) (z_14 : Nat → Int32) (z_15 : Nat → Int32) =>
        if ixb v1_9 4096 = true then
        if ixb 0 4096 = true then
        f_X9_fewest_L65 (nI L) (nI N) (nI Z) law st FU v1_9 v2_10 v3_11 0 1 z_12 (upd z_13 (v1_9 : Int32).toNatClampNeg 0) (upd z_14 (0 : Int32).toNatClampNeg v1_9) z_15
        else none
        else none) FU Z (Nat.le_refl _) (FU_lt (by omega)) s9 (fun x hx => by omega)
  have e0 : nI (Z - Z) = 0 := by rw [Nat.sub_self]; rfl
  rw [e0] at e9
  have ec0 : (0 : Int32).toNatClampNeg = 0 := by decide
  rw [e9, if_pos (ixb_nI (by omega) (by decide)), if_pos (by decide), nI_clamp (by omega), ec0]
  unfold f_X4_shortest f_X6_empty
  have hf : FU = 9999 + 1 := rfl
  by_cases hft : fr = to
  · subst hft
    have h1 : (0 : Int32) = nI 0 := rfl
    have h2 : ¬ (1 : Int32) ≤ nI 0 := by decide
    rw [if_pos rfl, hf]
    have hst := l65 (Z := Z) (i := 0) (l := fr) (fr := fr) (to := fr) (pl := nI L) (wn := nI N) (le := nI Z) (law := law) (any := p3) (c := c9) (last := 1) (n := 9999) (st := st) (s := upd s' fr 0) (q := upd q9 0 (nI fr)) (f := f9) hZ hfr hfr hfr (by omega) pk_us h2
    rw [if_pos rfl, pk_us] at hst
    exact ⟨_, _, _, _, _, _, _, _, _, _, rfl, hst⟩
  · rw [if_neg (fun e => hft (nI_inj (by omega) (by omega) e))]
    obtain ⟨t8, ef, ht8⟩ := fl_eq (nn := cap) (v := -1) (f := s8) (by omega)
    have hr := rc_eq (Z := Z) (cap := cap) (z := fr) (k := 0) (s := t8) (q := q8) (v := 0) hfr hcap hcap2 (fun _ => by omega)
    rw [if_pos (ht8 fr (by omega))] at hr
    have h1 : nI 0 = 0 := rfl
    rw [h1] at hr
    rw [ef]
    simp only [bs]
    rw [hr]
    simp only [bs]
    have hth : thr fr p3 st fr = true := thr_iff.mpr (Or.inl rfl)
    have ef1 : [fr].filter (thr fr p3 st) = [fr] := by rw [List.filter_cons_of_pos hth]; rfl
    obtain ⟨r, a, b, d, e, a8, b8, d8, e8, g8, z8, z9⟩ := bf_sim (law := law) (any := p3) hC hcap hcap2 hfr hto FU [] [fr] (fun _ => 0) (upd s' fr 0) (upd q9 0 (nI fr)) f9 (upd t8 fr 0) (upd q8 0 (nI fr)) f8 c9 c8 FU (by simp; exact FU_lt (by omega)) (by simp; exact FU_lt (by omega)) (by simp) (by simpa using hfr) (by simp) (by simpa using fun e => hft e.symm) (fun x => Nat.zero_le _) (by
        intro x hx
        by_cases e : x = fr
        · subst e; rw [pk_us, if_pos (by simp)]; rfl
        · rw [pk_un e, hs' x hx, if_neg (by simpa using e)]) (by
        intro x hx
        by_cases e : x = fr
        · subst e; rw [pk_us, if_pos ⟨by simp, hth⟩]; rfl
        · rw [pk_un e, ht8 x (by omega), if_neg (fun q => e (by simpa using q.1))]) (by
        exact Rp_add (Rp_nil _)) (by
        rw [List.nil_append, ef1]
        exact Rp_add (Rp_nil _))
    rw [List.nil_append, ef1] at z8
    rw [List.nil_append] at z9
    have hl0 : nI ([].filter (thr fr p3 st)).length = 0 := rfl
    have hl1 : nI ([] : List Nat).length = 0 := rfl
    have hl2 : nI [fr].length = 1 := rfl
    have hl3 : nI (0 + 1) = 1 := rfl
    rw [hl0, hl2] at z8
    rw [hl1, hl2] at z9
    rw [hl3, z8, z9]
    exact ⟨_, _, _, _, _, _, _, _, _, _, rfl, rfl⟩
