/-! rows walked from a place on; change, send, log, judge -/
theorem Rp_at {f : Nat → Int32} {ys zs : List Nat} {z : Nat} (h : Rp f (ys ++ z :: zs)) : f ys.length = nI z := by
  rw [h ys.length (by simp), List.getD_eq_getElem?_getD, List.getElem?_append_right (Nat.le_refl _), Nat.sub_self]
  rfl
theorem app1 (ys zs : List Nat) (z : Nat) : ys ++ z :: zs = (ys ++ [z]) ++ zs := by simp
theorem len1 (ys : List Nat) (z : Nat) : nI ys.length + 1 = nI (ys ++ [z]).length := by rw [nI_1, List.length_append]; rfl
theorem len_lt (ys zs : List Nat) (z : Nat) : ys.length < (ys ++ z :: zs).length := by simp
theorem get_at {nl : Nat} {f : Nat → Int32} {ys zs : List Nat} {z : Nat} (hR : Rp f (ys ++ z :: zs)) (hx : (ys ++ z :: zs).length ≤ nl) (hnl : nl < 2 ^ 31) : f_X6_get (nI (ys ++ z :: zs).length) nl f (nI ys.length) = some (nI z) := by
  have hl := len_lt ys zs z
  unfold f_X6_get
  rw [if_neg (nI_pos (by omega)), if_neg (nI_ge hl (by omega)), if_pos (ixb_nI (by omega) hnl), nI_clamp (by omega), Rp_at hR]
theorem has_L {nl c : Nat} {f : Nat → Int32} {T : Nat} (hT : T ≤ nl) (hnl : nl < 2 ^ 31) (hc : c < 2 ^ 31) : ∀ (zs ys : List Nat) (n : Nat), (ys ++ zs).length = T → zs.length < n → Rp f (ys ++ zs) → (∀ z ∈ zs, z < 2 ^ 31) → f_X6_has_L2 (nI T) nl f n (nI c) (nI ys.length) = some (if c ∈ zs then 1 else 0) := by
  intro zs
  induction zs with
  | nil =>
    intro ys n hx hn hR hz
    obtain ⟨n, rfl⟩ : ∃ m, n = m + 1 := ⟨n - 1, by simp at hn; omega⟩
    rw [f_X6_has_L2.eq_2, if_pos (nI_le (by simp at hx; omega) (by simp at hx; omega))]
    rfl
  | cons z zs ih =>
    intro ys n hx hn hR hz
    obtain ⟨n, rfl⟩ : ∃ m, n = m + 1 := ⟨n - 1, by simp at hn; omega⟩
    have hl := len_lt ys zs z
    rw [f_X6_has_L2.eq_2, if_neg (nI_ge (by omega) (by omega)), if_pos (ixb_nI (by omega) hnl), nI_clamp (by omega), Rp_at hR]
    by_cases e : z = c
    · subst e
      rw [if_pos rfl, if_pos (List.mem_cons_self ..)]
    · rw [if_neg (fun q => e (nI_inj (hz z (List.mem_cons_self ..)) hc q)), len1 ys z, ih (ys ++ [z]) n (by rw [← app1]; exact hx) (by simp at hn; omega) (by rw [← app1]; exact hR) (fun x hx => hz x (List.mem_cons_of_mem _ hx))]
      have : (c ∈ z :: zs) ↔ c ∈ zs := by
        rw [List.mem_cons]
        exact ⟨fun q => q.resolve_left (fun q => e q.symm), Or.inr⟩
      simp only [this]
theorem has_eq {nl c : Nat} {f : Nat → Int32} {xs : List Nat} (hx : xs.length ≤ nl) (hnl : nl < 2 ^ 31) (hc : c < 2 ^ 31) (hf : xs.length < 10000) (hR : Rp f xs) (hz : ∀ z ∈ xs, z < 2 ^ 31) : f_X6_has (nI xs.length) nl f (nI c) = some (if c ∈ xs then 1 else 0) := by
  unfold f_X6_has
  exact has_L hx hnl hc xs [] FU rfl hf hR hz
theorem po_L {c : Nat} {f : Nat → Int32} {T : Nat} (hT : T ≤ 40) (hc : c < 2 ^ 31) : ∀ (zs ys : List Nat) (n : Nat) (v : Int32), (ys ++ zs).length = T → zs.length < n → Rp f (ys ++ zs) → (∀ z ∈ zs, z < 2 ^ 31) → ∃ r, f_X9_placeOf_L4 (nI T) f n (nI c) v (nI ys.length) = some r ∧ (0 ≤ r ↔ (0 ≤ v ∨ c ∈ zs)) := by
  intro zs
  induction zs with
  | nil =>
    intro ys n v hx hn hR hz
    obtain ⟨n, rfl⟩ : ∃ m, n = m + 1 := ⟨n - 1, by simp at hn; omega⟩
    rw [f_X9_placeOf_L4.eq_2, if_pos (nI_le (by simp at hx; omega) (by simp at hx; omega))]
    exact ⟨_, rfl, by simp⟩
  | cons z zs ih =>
    intro ys n v hx hn hR hz
    obtain ⟨n, rfl⟩ : ∃ m, n = m + 1 := ⟨n - 1, by simp at hn; omega⟩
    have hl := len_lt ys zs z
    have hn2 : zs.length < n := by simp at hn; omega
    have hz2 := fun x (hx : x ∈ zs) => hz x (List.mem_cons_of_mem _ hx)
    rw [app1] at hx
    have ih := fun v => ih (ys ++ [z]) n v hx hn2 (by rw [← app1]; exact hR) hz2
    rw [f_X9_placeOf_L4.eq_2, if_neg (nI_ge (by rw [app1, hx] at hl; omega) (by omega)), if_pos (ixb_nI (by rw [app1, hx] at hl; omega) (by decide)), nI_clamp (by rw [app1, hx] at hl; omega), Rp_at hR, len1 ys z]
    by_cases e : z = c
    · subst e
      rw [if_pos rfl]
      by_cases h0 : 0 ≤ v
      · rw [if_pos h0]
        obtain ⟨r, e1, e2⟩ := ih v
        exact ⟨r, e1, by rw [e2]; simp [h0]⟩
      · rw [if_neg h0]
        obtain ⟨r, e1, e2⟩ := ih (nI ys.length)
        have : 0 ≤ nI ys.length := nI_pos' (by rw [app1, hx] at hl; omega)
        exact ⟨r, e1, by rw [e2]; simp [this]⟩
    · rw [if_neg (fun q => e (nI_inj (hz z (List.mem_cons_self ..)) hc q))]
      obtain ⟨r, e1, e2⟩ := ih v
      have : (c ∈ z :: zs) ↔ c ∈ zs := by
        rw [List.mem_cons]
        exact ⟨fun q => q.resolve_left (fun q => e q.symm), Or.inr⟩
      exact ⟨r, e1, by rw [e2, this]⟩
theorem po_eq {c : Nat} {f : Nat → Int32} {xs : List Nat} (hx : xs.length ≤ 40) (hc : c < 2 ^ 31) (hR : Rp f xs) (hz : ∀ z ∈ xs, z < 2 ^ 31) : ∃ r, f_X9_placeOf (nI xs.length) f (nI c) = some r ∧ (0 ≤ r ↔ c ∈ xs) := by
  unfold f_X9_placeOf
  obtain ⟨r, e1, e2⟩ := po_L hx hc xs [] FU (-1) rfl (FU_lt (by omega)) hR hz
  have : ¬ (0 : Int32) ≤ -1 := by decide
  exact ⟨r, e1, by rw [e2]; simp [this]⟩
/-- the reference asks for way 1 in two places -/
theorem fcw {α : Type} {pl w law cnt x way : Int32} {st f : Nat → Int32} {A : Int32 × (Nat → Int32) → Option α} : (if way = 1 then (f_X9_findChanges pl w law st cnt f x 1).bind A else (f_X9_findChanges pl w law st cnt f x 0).bind A) = (f_X9_findChanges pl w law st cnt f x (wy way)).bind A := by
  unfold wy
  split <;> rfl
theorem cog9 {f : Nat → Int32} {xs : List Nat} {x : Int32} {α : Type} (hR : Rp f xs) (hx : xs.length ≤ 40) (B : Int32 → α) : (if x = -1 then some (B (nI xs.length)) else (f_X9_in x.toInt64 0 (nI xs.length - 1).toInt64).bind fun r => if r = 0 then some (B (-1)) else if ixb x 40 = true then some (B (f x.toNatClampNeg)) else none) = some (B (cog xs x)) := by
  unfold cog
  by_cases h1 : x = -1
  · rw [if_pos h1, if_pos h1]
  · rw [if_neg h1, if_neg h1]
    rcases pk_ix x (n := xs.length) (by omega) with h | h | ⟨j, hj, rfl⟩
    · rw [inZ_no (by omega) (Or.inl h), bs, if_pos rfl, if_pos (Or.inl h)]
    · rw [inZ_no (by omega) (Or.inr h), bs, if_pos rfl, if_pos (Or.inr h)]
    · rw [inZ_yes (by omega) hj, bs, if_neg (by decide), if_pos (ixb_nI (by omega) (by decide)), nI_clamp (by omega), hR j hj, if_neg]
      rintro (e | e)
      · exact nI_pos (by omega) e
      · exact nI_ge hj (by omega) e
theorem o_change {N L Z ns : Nat} {sc sense st f8 f9 : Nat → Int32} (hC : CT N L Z ns sc sense st) (law way c8 c9 p1 p2 : Int32) : ∃ r c8' f8' c9' f9', f_X8_change (nI Z) law way (nI L) (nI N) sc 31 ns sense c8 f8 p1 p2 = some (r, c8', f8') ∧ f_X9_change (nI L) (nI N) (nI Z) law way st c9 f9 p1 p2 = some (r, c9', f9') := by
  have hZ := hC.Z_le
  unfold f_X8_change f_X9_change
  rcases pk_ix p1 (n := Z) (by omega) with h2 | h2 | ⟨j, hj, rfl⟩
  · rw [il8_no (Or.inl h2), il9_no (by omega) (Or.inl h2)]
    simp only [bs, c00, if_true]
    exact ⟨_, _, _, _, _, rfl, rfl⟩
  · rw [il8_no (Or.inr h2), il9_no (by omega) (Or.inr h2)]
    simp only [bs, c00, if_true]
    exact ⟨_, _, _, _, _, rfl, rfl⟩
  · rw [il8_yes (by omega) hj, il9_yes (by omega) hj]
    simp only [bs, c10, if_false]
    rw [fcw]
    obtain ⟨g8, e8, r8⟩ := lc8_eq (law := law) (way := way) (f := f8) (cnt := c8) (nl := 31) hC hj (by omega) (by omega)
    obtain ⟨g9, e9, r9⟩ := fc_ct (law := law) (any := wy way) (f := f9) (cnt := c9) hC hj
    have hlen := (ch_ct (law := law) (any := wy way) hC hj).1
    rw [e8, e9]
    simp only [bs]
    rw [cog_eq r8 hlen (by decide), bs]
    exact ⟨_, _, _, _, _, rfl, cog9 r9 (by omega) (fun r => (r, nI (chL N L law (okF st (wy way)) j).length, g9))⟩
theorem ic8_eq {N L Z ns a b : Nat} {sc sense st f8 : Nat → Int32} {law way c8 : Int32} (hC : CT N L Z ns sc sense st) (ha : a < Z) (hb : b < Z) : ∃ c8' f8', f_X8_isChange (nI Z) law way (nI L) (nI N) sc 31 ns sense c8 f8 (nI a) (nI b) = some (if b ∈ chL N L law (okF st (wy way)) a then 1 else 0, c8', f8') := by
  have hZ := hC.Z_le
  obtain ⟨hlen, hm⟩ := ch_ct (law := law) (any := wy way) hC ha
  obtain ⟨g8, e8, r8⟩ := lc8_eq (law := law) (way := way) (f := f8) (cnt := c8) (nl := 31) hC ha (by omega) (by omega)
  unfold f_X8_isChange
  rw [e8, bs]
  simp only []
  rw [has_eq hlen (by decide) (by omega) (by omega) r8 (fun z hz => by have := (hm z hz).1; omega), bs, if_pos (by split <;> decide)]
  exact ⟨_, _, rfl⟩
theorem fp9_eq {N L Z ns a b : Nat} {sc sense st f9 : Nat → Int32} {law way c9 : Int32} (hC : CT N L Z ns sc sense st) (ha : a < Z) (hb : b < Z) : ∃ c9' f9' r, f_X9_findChanges (nI L) (nI N) law st c9 f9 (nI a) (wy way) = some (c9', f9') ∧ f_X9_placeOf c9' f9' (nI b) = some r ∧ (0 ≤ r ↔ b ∈ chL N L law (okF st (wy way)) a) := by
  have hZ := hC.Z_le
  obtain ⟨hlen, hm⟩ := ch_ct (law := law) (any := wy way) hC ha
  obtain ⟨g9, e9, r9⟩ := fc_ct (law := law) (any := wy way) (f := f9) (cnt := c9) hC ha
  obtain ⟨r, q1, q2⟩ := po_eq (c := b) (by omega) (by omega) r9 (fun z hz => by have := (hm z hz).1; omega)
  exact ⟨_, _, r, e9, q1, q2⟩
/-- the log as both hold it -/
def LG (en who fr to : Nat → Int32) : Prop := ∀ i, i < 60 → en (3 * i) = who i ∧ en (3 * i + 1) = fr i ∧ en (3 * i + 2) = to i
/-- what the first k of the log hold -/
def LK (Z k : Nat) (who fr to : Nat → Int32) : Prop := k ≤ 60 ∧ ∀ i, i < k → (who i = 0 ∨ who i = 1) ∧ (∃ a, a < Z ∧ fr i = nI a) ∧ ∃ b, b < Z ∧ to i = nI b
theorem LG_upd {en who fr to : Nat → Int32} {a b c : Int32} {k : Nat} (h : LG en who fr to) : LG (upd (upd (upd en (3 * k) a) (3 * k + 1) b) (3 * k + 2) c) (upd who k a) (upd fr k b) (upd to k c) := by
  intro i hi
  by_cases e : i = k
  · subst e
    refine ⟨?_, ?_, ?_⟩
    · rw [pk_un (by omega), pk_un (by omega), pk_us, pk_us]
    · rw [pk_un (by omega), pk_us, pk_us]
    · rw [pk_us, pk_us]
  · obtain ⟨a, b, c⟩ := h i hi
    refine ⟨?_, ?_, ?_⟩
    · rw [pk_un (by omega), pk_un (by omega), pk_un (by omega), pk_un e, a]
    · rw [pk_un (by omega), pk_un (by omega), pk_un (by omega), pk_un e, b]
    · rw [pk_un (by omega), pk_un (by omega), pk_un (by omega), pk_un e, c]
theorem LK_upd {Z k : Nat} {who fr to : Nat → Int32} {a : Int32} {b c : Nat} (h : LK Z k who fr to) (hk : k < 60) (ha : a = 0 ∨ a = 1) (hb : b < Z) (hc : c < Z) : LK Z (k + 1) (upd who k a) (upd fr k (nI b)) (upd to k (nI c)) := by
  refine ⟨hk, fun i hi => ?_⟩
  by_cases e : i = k
  · subst e
    rw [pk_us, pk_us, pk_us]
    exact ⟨ha, ⟨b, hb, rfl⟩, c, hc, rfl⟩
  · rw [pk_un e, pk_un e, pk_un e]
    exact h.2 i (by omega)
theorem turn_ok {t : Int32} (h : t = 0 ∨ t = 1) : 1 - t = 0 ∨ 1 - t = 1 := by rcases h with rfl | rfl <;> decide
theorem ps_eq {Z k a b : Nat} {turn : Int32} {en who fr to : Nat → Int32} (hG : LG en who fr to) (hK : LK Z k who fr to) (ht : turn = 0 ∨ turn = 1) (ha : a < Z) (hb : b < Z) : ∃ k' en' who' fr' to', f_X0_pass (nI a) turn (nI k) en (nI b) = some (nI b, 1 - turn, nI k', en') ∧ f_X9_sendNow (nI a) turn (nI k) who fr to (nI b) = some (nI b, 1 - turn, nI k', who', fr', to') ∧ LG en' who' fr' to' ∧ LK Z k' who' fr' to' := by
  unfold f_X0_pass f_X9_sendNow
  have e60 : (60 : Int32) = nI 60 := rfl
  have hk := hK.1
  rw [e60]
  by_cases h : k = 60
  · subst h
    rw [if_pos (by decide), if_pos (by decide)]
    exact ⟨_, _, _, _, _, rfl, rfl, hG, hK⟩
  · have e3 : nI k * 3 = nI (3 * k) := by rw [Nat.mul_comm]; exact pk_mul k 3
    have e31 : nI (3 * k) + 2 = nI (3 * k + 2) := nI_add _ 2
    rw [if_neg (nI_ge (by omega) (by decide)), if_neg (nI_ge (by omega) (by decide)), e3, nI_1, e31, if_pos (ixb_nI (by omega) (by decide)), if_pos (ixb_nI (by omega) (by decide)), if_pos (ixb_nI (by omega) (by decide)), nI_clamp (by omega), nI_clamp (by omega), nI_clamp (by omega)]
    simp only [ixb_nI (show k < 60 by omega) (by decide), if_true, nI_1, nI_clamp (show k < 2 ^ 31 by omega)]
    exact ⟨k + 1, _, _, _, _, rfl, rfl, LG_upd hG, LK_upd hK (by omega) ht ha hb⟩
