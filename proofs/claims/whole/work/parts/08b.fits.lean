/-! fits -/
/-- what LETTER l would be worth to HOUSE h if the WORDS were worth row -/
def gwv (N L P h : Nat) (st kind row pair : Nat → Int32) (l : Nat) : Int32 := if st l = 0 then 0 else wgh N L l kind row (fun a b => psm pair P h a b P)
theorem c01 : ((0 : Int32) = 1) = False := eq_false (by decide)
theorem gw8_eq {N L Z ns F P h l : Nat} {sc sense st kd w0 w1 fm pr pw0 pw1 kind worths frame pair gw row : Nat → Int32} (hC : CT N L Z ns sc sense st) (hT : TG N L F P kd w0 w1 fm pr pw0 pw1 kind worths frame pair) (hh : h < 2) (hl : l < Z) (hr : ∀ w, w < N → gw w = row w) : f_X8_guessedWorth (nI h) (nI Z) ns sense (nI L) (nI N) gw pw0 pw1 sc kd (nI l) = some (gwv N L P h st kind row pair l) := by
  obtain ⟨q1, q2, q3, q4⟩ := hC.pos hl
  have hZ := hC.Z_le
  obtain ⟨hN, hL, -, -, hZns, hns, hst⟩ := hC
  obtain ⟨-, -, -, hP, hF, ⟨kk, hkk, hk⟩, hw, hpw, -⟩ := hT
  unfold f_X8_guessedWorth gwv
  obtain ⟨a, b⟩ := hst l hl
  rw [sn_eq hZns (by omega) hl, bs, ← a]
  rcases b with b | b
  · rw [b]
    simp only [c01, c00, if_true, if_false]
  · rw [b, if_pos rfl]
    have e0 : nI 0 = 0 := rfl
    have e1 : nI 1 = 1 := rfl
    simp only [c10, if_false]
    rcases (show h = 0 ∨ h = 1 by omega) with rfl | rfl
    · rw [e0, ih8_yes (Or.inl rfl), bs, if_neg (by decide), if_pos rfl, wg7_eq q4 q1 hN (by omega) hL (by omega), bs]
      exact congrArg some (wgh_congr q1 (fun w h => by rw [(hk w h).1, (hk w h).2]) hr (fun a b ha hb => (hpw a b (by omega) (by omega)).1))
    · rw [e1, ih8_yes (Or.inr rfl), bs, if_neg (by decide), if_neg (by decide), if_pos rfl, wg7_eq q4 q1 hN (by omega) hL (by omega), bs]
      exact congrArg some (wgh_congr q1 (fun w h => by rw [(hk w h).1, (hk w h).2]) hr (fun a b ha hb => (hpw a b (by omega) (by omega)).2))
theorem gw9_eq {N L Z ns F P h l g : Nat} {sc sense st kd w0 w1 fm pr pw0 pw1 kind worths frame pair mw mh row : Nat → Int32} (hC : CT N L Z ns sc sense st) (hT : TG N L F P kd w0 w1 fm pr pw0 pw1 kind worths frame pair) (hh : h < 2) (hl : l < Z) (hg : g < 6) (hmh : mh g = nI h) (hr : ∀ w, w < N → mw (8 * g + w) = row w) : f_X9_guessOf (nI L) (nI N) (nI P) st mw mh pair kind (nI g) (nI l) = some (gwv N L P h st kind row pair l) := by
  obtain ⟨q1, q2, q3, q4⟩ := hC.pos hl
  have hZ := hC.Z_le
  obtain ⟨hN, hL, -⟩ := hC
  obtain ⟨-, -, -, hP, -⟩ := hT
  unfold f_X9_guessOf gwv
  rw [if_pos (ixb_nI (by omega) (by decide)), nI_clamp (by omega)]
  by_cases h0 : st l = 0
  · rw [if_pos h0, if_pos h0]
  · have e8 : 8 * nI g = nI (8 * g) := pk_mul 8 g
    have e1 : (1 : Int32) = nI 1 := rfl
    rw [if_neg h0, if_neg h0, if_pos (ixb_nI hg (by decide)), nI_clamp (by omega), hmh, e8, e1, wb_eq (each := 1) (from' := 8 * g) q1 hN (by omega) hL (by omega) hP hh (fun w hw => by omega) (by decide), bs]
    exact congrArg some (wgh_congr q1 (fun _ _ => rfl) (fun w h => by rw [← hr w h]; congr 1; omega) (fun _ _ _ _ => rfl))
theorem ex8_L {hs sz len wn law way : Int32} {ns : Nat} {sense gw pw0 pw1 sc kd : Nat → Int32} {V : Nat → Int32} {Z T : Nat} {x : Int32} (hV : ∀ l, l < Z → f_X8_guessedWorth hs sz ns sense len wn gw pw0 pw1 sc kd (nI l) = some (V l)) (hT : T ≤ 31) (f : Nat → Int32) : ∀ (zs ys : List Nat) (n : Nat), (ys ++ zs).length = T → zs.length < n → Rp f (ys ++ zs) → (∀ z ∈ zs, z < Z) → f_X8_explains_L29 hs sz ns sense len wn gw pw0 pw1 sc kd law way 31 n x (nI ys.length) (nI T) f = some (if ∀ z ∈ zs, V z ≤ x then 1 else 0, nI T, f) := by
  intro zs
  induction zs with
  | nil =>
    intro ys n hx hn hR hz
    obtain ⟨n, rfl⟩ : ∃ m, n = m + 1 := ⟨n - 1, by simp at hn; omega⟩
    rw [f_X8_explains_L29.eq_2, if_pos (nI_le (by simp at hx; omega) (by simp at hx; omega)), if_pos (fun z hz => absurd hz (List.not_mem_nil))]
  | cons z zs ih =>
    intro ys n hx hn hR hz
    obtain ⟨n, rfl⟩ : ∃ m, n = m + 1 := ⟨n - 1, by simp at hn; omega⟩
    have hl := len_lt ys zs z
    have hz0 := hz z (List.mem_cons_self ..)
    have hz2 := fun x (hx : x ∈ zs) => hz x (List.mem_cons_of_mem _ hx)
    have hg1 : f_X6_get (nI T) 31 f (nI ys.length) = some (nI z) := by
      rw [← hx]; exact get_at hR (by omega) (by decide)
    have hx' : ((ys ++ [z]) ++ zs).length = T := by rw [← app1]; exact hx
    have hR' : Rp f ((ys ++ [z]) ++ zs) := by rw [← app1]; exact hR
    rw [f_X8_explains_L29.eq_2, if_neg (nI_ge (by omega) (by omega)), hg1, bs, hV z hz0, bs, len1 ys z]
    by_cases h : V z ≤ x
    · rw [if_pos h, ih (ys ++ [z]) n hx' (by simp at hn; omega) hR' hz2]
      have : (∀ y ∈ z :: zs, V y ≤ x) ↔ ∀ y ∈ zs, V y ≤ x := by
        constructor
        · exact fun q y hy => q y (List.mem_cons_of_mem _ hy)
        · intro q y hy
          rcases List.mem_cons.mp hy with rfl | hy
          · exact h
          · exact q y hy
      simp only [this]
    · rw [if_neg h, if_neg (fun q => h (q z (List.mem_cons_self ..)))]
theorem ex8_eq {N L Z ns a b : Nat} {hs law way c8 : Int32} {sc sense st gw pw0 pw1 kd f8 : Nat → Int32} {V : Nat → Int32} (hC : CT N L Z ns sc sense st) (hV : ∀ l, l < Z → f_X8_guessedWorth hs (nI Z) ns sense (nI L) (nI N) gw pw0 pw1 sc kd (nI l) = some (V l)) (ha : a < Z) (hb : b < Z) : ∃ c8' f8', f_X8_explains hs (nI Z) ns sense (nI L) (nI N) gw pw0 pw1 sc kd law way 31 c8 f8 (nI a) (nI b) = some (if V a ≤ V b ∧ ∀ z ∈ chL N L law (okF st (wy way)) a, V z ≤ V b then 1 else 0, c8', f8') := by
  unfold f_X8_explains
  rw [hV a ha, hV b hb]
  simp only [bs]
  by_cases h : V a ≤ V b
  · obtain ⟨hlen, hm⟩ := ch_ct (law := law) (any := wy way) hC ha
    obtain ⟨g8, e8, r8⟩ := lc8_eq (law := law) (way := way) (f := f8) (cnt := c8) (nl := 31) hC ha (by omega) (by omega)
    rw [if_pos h, e8]
    generalize chL N L law (okF st (wy way)) a = xs at *
    simp only [bs]
    have k := ex8_L (law := law) (way := way) (x := V b) hV hlen g8 xs [] FU rfl (FU_lt (by omega)) r8 (fun z hz => (hm z hz).1)
    have h00 : nI ([] : List Nat).length = 0 := rfl
    rw [h00] at k
    rw [k]
    have : (V a ≤ V b ∧ ∀ z ∈ xs, V z ≤ V b) ↔ ∀ z ∈ xs, V z ≤ V b := ⟨fun q => q.2, fun q => ⟨h, q⟩⟩
    simp only [this]
    exact ⟨_, _, rfl⟩
  · rw [if_neg h, if_neg (fun q => h q.1)]
    exact ⟨_, _, rfl⟩
theorem ft9_L108 {Z g T : Nat} {pl wn pp law way lg gc v3 x : Int32} {who mh fr st to mw pair kind : Nat → Int32} {V : Nat → Int32} (hV : ∀ l, l < Z → f_X9_guessOf pl wn pp st mw mh pair kind (nI g) (nI l) = some (V l)) (hT : T ≤ 31) (K0 : Int32 → Int32 → Int32 → Int32 → (Nat → Int32) → Option (Int32 × Int32 × (Nat → Int32))) (f : Nat → Int32) : ∀ (zs ys : List Nat) (n : Nat), (ys ++ zs).length = T → zs.length < n → Rp f (ys ++ zs) → (∀ z ∈ zs, z < Z) → ∀ v2, f_X9_fits_L108 pl wn pp law way lg gc who mh fr st to mw pair kind K0 n (nI g) v2 v3 x (nI ys.length) (nI T) f = K0 (nI g) (if ∀ z ∈ zs, V z ≤ x then v2 else 0) v3 (nI T) f := by
  intro zs
  induction zs with
  | nil =>
    intro ys n hx hn hR hz v2
    obtain ⟨n, rfl⟩ : ∃ m, n = m + 1 := ⟨n - 1, by simp at hn; omega⟩
    rw [f_X9_fits_L108.eq_2, if_pos (nI_le (by simp at hx; omega) (by simp at hx; omega)), if_pos (fun z hz => absurd hz (List.not_mem_nil))]
  | cons z zs ih =>
    intro ys n hx hn hR hz v2
    obtain ⟨n, rfl⟩ : ∃ m, n = m + 1 := ⟨n - 1, by simp at hn; omega⟩
    have hl := len_lt ys zs z
    have hz0 := hz z (List.mem_cons_self ..)
    have hz2 := fun x (hx : x ∈ zs) => hz x (List.mem_cons_of_mem _ hx)
    have hx' : ((ys ++ [z]) ++ zs).length = T := by rw [← app1]; exact hx
    have hR' : Rp f ((ys ++ [z]) ++ zs) := by rw [← app1]; exact hR
    have ih := ih (ys ++ [z]) n hx' (by simp at hn; omega) hR' hz2
    rw [f_X9_fits_L108.eq_2, if_neg (nI_ge (by omega) (by omega)), if_pos (ixb_nI (by omega) (by decide)), nI_clamp (by omega), Rp_at hR, hV z hz0, bs, len1 ys z, ih, ih]
    by_cases h : V z ≤ x
    · have : (∀ y ∈ z :: zs, V y ≤ x) ↔ ∀ y ∈ zs, V y ≤ x := by
        constructor
        · exact fun q y hy => q y (List.mem_cons_of_mem _ hy)
        · intro q y hy
          rcases List.mem_cons.mp hy with rfl | hy
          · exact h
          · exact q y hy
      rw [if_pos h]
      simp only [this]
    · have h0 : (if ∀ y ∈ zs, V y ≤ x then (0 : Int32) else 0) = 0 := by split <;> rfl
      have h1 : (if ∀ y ∈ z :: zs, V y ≤ x then v2 else 0) = 0 := if_neg (fun q => h (q z (List.mem_cons_self ..)))
      rw [if_neg h, h0, h1]
theorem ft_L {N L Z ns h g k : Nat} {gc h1 h2 h3 h4 h5 law way pp : Int32} {sc sense st kd pw0 pw1 kind pair en who fr to gw g1 g2 g3 g4 g5 mh mw : Nat → Int32} {V : Nat → Int32} (hC : CT N L Z ns sc sense st) (hV8 : ∀ l, l < Z → f_X8_guessedWorth (nI h) (nI Z) ns sense (nI L) (nI N) gw pw0 pw1 sc kd (nI l) = some (V l)) (hV9 : ∀ l, l < Z → f_X9_guessOf (nI L) (nI N) pp st mw mh pair kind (nI g) (nI l) = some (V l)) (hg : g < 6) (hh : h < 2) (hmh : mh g = nI h) (hG : LG en who fr to) (hK : LK Z k who fr to) : ∀ n m, m ≤ k → m < n → ∀ (v2 c8 c9 : Int32) (f8 f9 : Nat → Int32), (v2 = 0 ∨ v2 = 1) → ∃ r c8' f8' c9' f9', f_X8_fits_L20 gc (nI h) h1 h2 h3 h4 h5 (nI k) law way en (nI Z) ns sense (nI L) (nI N) gw pw0 pw1 sc kd 31 g1 g2 g3 g4 g5 n (nI (k - m)) c8 f8 = some (r, c8', f8') ∧ f_X9_fits_L24 (nI L) (nI N) pp law way (nI k) gc who mh fr st to mw pair kind n (nI g) v2 (nI (k - m)) c9 f9 = some (if v2 = 0 then 0 else r, c9', f9') := by
  have hk := hK.1
  intro n
  induction n with
  | zero => intro m _ h; omega
  | succ n ih =>
    intro m hm hn v2 c8 c9 f8 f9 hv
    rw [f_X8_fits_L20.eq_2, f_X9_fits_L24.eq_2]
    cases m with
    | zero =>
      rw [if_pos (nI_le (by omega) (by omega)), if_pos (nI_le (by omega) (by omega))]
      refine ⟨1, _, _, c9, f9, rfl, ?_⟩
      rcases hv with rfl | rfl <;> rfl
    | succ m =>
      have hx : k - (m + 1) + 1 = k - m := by omega
      have hi : k - (m + 1) < k := by omega
      have ih := ih m (by omega) (by omega)
      rw [← hx, ← nI_1] at ih
      generalize k - (m + 1) = i at *
      obtain ⟨hw, ⟨a, ha, ea⟩, b, hb, eb⟩ := hK.2 i hi
      have e0 : f_X0_entry (nI k) en (nI i) 0 = some (who i) := en_eq (w := 0) hG hK hi (by omega)
      have e1 : f_X0_entry (nI k) en (nI i) 1 = some (nI a) := by rw [← ea]; exact en_eq (w := 1) hG hK hi (by omega)
      have e2 : f_X0_entry (nI k) en (nI i) 2 = some (nI b) := by rw [← eb]; exact en_eq (w := 2) hG hK hi (by omega)
      rw [if_neg (nI_ge hi (by omega)), if_neg (nI_ge hi (by omega)), e0, bs]
      simp only [if_pos (ixb_nI (show i < 60 by omega) (by decide)), if_pos (ixb_nI hg (by decide)), nI_clamp (show i < 2 ^ 31 by omega), nI_clamp (show g < 2 ^ 31 by omega)]
      rw [hmh, ea, eb]
      by_cases hwho : who i = nI h
      · rw [if_pos hwho, if_pos hwho, fcw]
        rw [e1, e2]
        simp only [bs]
        obtain ⟨x8, y8, e8⟩ := ex8_eq (law := law) (way := way) (c8 := c8) (f8 := f8) hC hV8 ha hb
        obtain ⟨hlen, hmm⟩ := ch_ct (law := law) (any := wy way) hC ha
        obtain ⟨g9, e9, r9⟩ := fc_ct (law := law) (any := wy way) (f := f9) (cnt := c9) hC ha
        rw [e8, e9]
        generalize chL N L law (okF st (wy way)) a = xs at *
        simp only [bs]
        rw [hV9 a ha, hV9 b hb]
        simp only [bs]
        have k9 := fun K0 v2 => ft9_L108 (law := law) (way := way) (lg := nI k) (gc := gc) (who := who) (fr := fr) (to := to) (v3 := nI i) (x := V b) hV9 hlen K0 g9 xs [] FU rfl (FU_lt (by omega)) r9 (fun z hz => (hmm z hz).1) v2
        have h00 : nI ([] : List Nat).length = 0 := rfl
        rw [h00] at k9
        rw [k9, k9]
        by_cases hA : V a ≤ V b
        · rw [if_pos hA]
          by_cases hB : ∀ z ∈ xs, V z ≤ V b
          · have hE : (if V a ≤ V b ∧ ∀ z ∈ xs, V z ≤ V b then (1 : Int32) else 0) = 1 := if_pos ⟨hA, hB⟩
            rw [hE, if_pos hB, if_neg (by decide)]
            exact ih v2 _ _ _ _ hv
          · have hE : (if V a ≤ V b ∧ ∀ z ∈ xs, V z ≤ V b then (1 : Int32) else 0) = 0 := if_neg (fun q => hB q.2)
            rw [hE, if_neg hB, if_pos rfl]
            obtain ⟨r, x, y, x9, y9, -, q⟩ := ih 0 x8 (nI xs.length) y8 g9 (Or.inl rfl)
            refine ⟨0, _, _, x9, y9, rfl, ?_⟩
            rw [if_pos rfl] at q
            have : (if v2 = 0 then (0 : Int32) else 0) = 0 := by split <;> rfl
            rw [this]
            exact q
        · have h0 : (if ∀ z ∈ xs, V z ≤ V b then (0 : Int32) else 0) = 0 := by split <;> rfl
          have hE : (if V a ≤ V b ∧ ∀ z ∈ xs, V z ≤ V b then (1 : Int32) else 0) = 0 := if_neg (fun q => hA q.1)
          rw [hE, if_neg hA, if_pos rfl, h0]
          obtain ⟨r, x, y, x9, y9, -, q⟩ := ih 0 x8 (nI xs.length) y8 g9 (Or.inl rfl)
          refine ⟨0, _, _, x9, y9, rfl, ?_⟩
          rw [if_pos rfl] at q
          have : (if v2 = 0 then (0 : Int32) else 0) = 0 := by split <;> rfl
          rw [this]
          exact q
      · rw [if_neg hwho, if_neg hwho]
        exact ih v2 _ _ _ _ hv
theorem ft_b (i_t_guessCount : Int32) (i_t_guesses0_house : Int32) (i_t_guesses1_house : Int32) (i_t_guesses2_house : Int32) (i_t_guesses3_house : Int32) (i_t_guesses4_house : Int32) (i_t_guesses5_house : Int32) (i_t_now_sent : Int32) (i_t_now_law : Int32) (i_t_now_way : Int32) (f_t_now_entries : Nat → Int32) (i_t_letters_size : Int32) (n_t_letters_sense : Nat) (f_t_letters_sense : Nat → Int32) (i_t_spoken_length : Int32) (i_t_spoken_words : Int32) (f_t_guesses0_worths : Nat → Int32) (f_t_spoken_pairWorths0 : Nat → Int32) (f_t_spoken_pairWorths1 : Nat → Int32) (f_t_spoken_scales : Nat → Int32) (f_t_spoken_kinds : Nat → Int32) (n_t_changes_letters : Nat) (f_t_guesses1_worths : Nat → Int32) (f_t_guesses2_worths : Nat → Int32) (f_t_guesses3_worths : Nat → Int32) (f_t_guesses4_worths : Nat → Int32) (f_t_guesses5_worths : Nat → Int32) : ∀ (n : Nat) (v c : Int32) (f : Nat → Int32), f_X8_fits_L20b i_t_guessCount i_t_guesses0_house i_t_guesses1_house i_t_guesses2_house i_t_guesses3_house i_t_guesses4_house i_t_guesses5_house i_t_now_sent i_t_now_law i_t_now_way f_t_now_entries i_t_letters_size n_t_letters_sense f_t_letters_sense i_t_spoken_length i_t_spoken_words f_t_guesses0_worths f_t_spoken_pairWorths0 f_t_spoken_pairWorths1 f_t_spoken_scales f_t_spoken_kinds n_t_changes_letters f_t_guesses1_worths f_t_guesses2_worths f_t_guesses3_worths f_t_guesses4_worths f_t_guesses5_worths n v c f = f_X8_fits_L20 i_t_guessCount i_t_guesses1_house i_t_guesses1_house i_t_guesses2_house i_t_guesses3_house i_t_guesses4_house i_t_guesses5_house i_t_now_sent i_t_now_law i_t_now_way f_t_now_entries i_t_letters_size n_t_letters_sense f_t_letters_sense i_t_spoken_length i_t_spoken_words f_t_guesses1_worths f_t_spoken_pairWorths0 f_t_spoken_pairWorths1 f_t_spoken_scales f_t_spoken_kinds n_t_changes_letters f_t_guesses1_worths f_t_guesses2_worths f_t_guesses3_worths f_t_guesses4_worths f_t_guesses5_worths n v c f := by
  intro n
  induction n with
  | zero => intro v c f; rfl
  | succ n ih =>
    intro v c f
    rw [f_X8_fits_L20b.eq_2, f_X8_fits_L20.eq_2]
    simp only [ih]
theorem ft_c (i_t_guessCount : Int32) (i_t_guesses0_house : Int32) (i_t_guesses1_house : Int32) (i_t_guesses2_house : Int32) (i_t_guesses3_house : Int32) (i_t_guesses4_house : Int32) (i_t_guesses5_house : Int32) (i_t_now_sent : Int32) (i_t_now_law : Int32) (i_t_now_way : Int32) (f_t_now_entries : Nat → Int32) (i_t_letters_size : Int32) (n_t_letters_sense : Nat) (f_t_letters_sense : Nat → Int32) (i_t_spoken_length : Int32) (i_t_spoken_words : Int32) (f_t_guesses0_worths : Nat → Int32) (f_t_spoken_pairWorths0 : Nat → Int32) (f_t_spoken_pairWorths1 : Nat → Int32) (f_t_spoken_scales : Nat → Int32) (f_t_spoken_kinds : Nat → Int32) (n_t_changes_letters : Nat) (f_t_guesses1_worths : Nat → Int32) (f_t_guesses2_worths : Nat → Int32) (f_t_guesses3_worths : Nat → Int32) (f_t_guesses4_worths : Nat → Int32) (f_t_guesses5_worths : Nat → Int32) : ∀ (n : Nat) (v c : Int32) (f : Nat → Int32), f_X8_fits_L20c i_t_guessCount i_t_guesses0_house i_t_guesses1_house i_t_guesses2_house i_t_guesses3_house i_t_guesses4_house i_t_guesses5_house i_t_now_sent i_t_now_law i_t_now_way f_t_now_entries i_t_letters_size n_t_letters_sense f_t_letters_sense i_t_spoken_length i_t_spoken_words f_t_guesses0_worths f_t_spoken_pairWorths0 f_t_spoken_pairWorths1 f_t_spoken_scales f_t_spoken_kinds n_t_changes_letters f_t_guesses1_worths f_t_guesses2_worths f_t_guesses3_worths f_t_guesses4_worths f_t_guesses5_worths n v c f = f_X8_fits_L20 i_t_guessCount i_t_guesses2_house i_t_guesses1_house i_t_guesses2_house i_t_guesses3_house i_t_guesses4_house i_t_guesses5_house i_t_now_sent i_t_now_law i_t_now_way f_t_now_entries i_t_letters_size n_t_letters_sense f_t_letters_sense i_t_spoken_length i_t_spoken_words f_t_guesses2_worths f_t_spoken_pairWorths0 f_t_spoken_pairWorths1 f_t_spoken_scales f_t_spoken_kinds n_t_changes_letters f_t_guesses1_worths f_t_guesses2_worths f_t_guesses3_worths f_t_guesses4_worths f_t_guesses5_worths n v c f := by
  intro n
  induction n with
  | zero => intro v c f; rfl
  | succ n ih =>
    intro v c f
    rw [f_X8_fits_L20c.eq_2, f_X8_fits_L20.eq_2]
    simp only [ih]
theorem ft_d (i_t_guessCount : Int32) (i_t_guesses0_house : Int32) (i_t_guesses1_house : Int32) (i_t_guesses2_house : Int32) (i_t_guesses3_house : Int32) (i_t_guesses4_house : Int32) (i_t_guesses5_house : Int32) (i_t_now_sent : Int32) (i_t_now_law : Int32) (i_t_now_way : Int32) (f_t_now_entries : Nat → Int32) (i_t_letters_size : Int32) (n_t_letters_sense : Nat) (f_t_letters_sense : Nat → Int32) (i_t_spoken_length : Int32) (i_t_spoken_words : Int32) (f_t_guesses0_worths : Nat → Int32) (f_t_spoken_pairWorths0 : Nat → Int32) (f_t_spoken_pairWorths1 : Nat → Int32) (f_t_spoken_scales : Nat → Int32) (f_t_spoken_kinds : Nat → Int32) (n_t_changes_letters : Nat) (f_t_guesses1_worths : Nat → Int32) (f_t_guesses2_worths : Nat → Int32) (f_t_guesses3_worths : Nat → Int32) (f_t_guesses4_worths : Nat → Int32) (f_t_guesses5_worths : Nat → Int32) : ∀ (n : Nat) (v c : Int32) (f : Nat → Int32), f_X8_fits_L20d i_t_guessCount i_t_guesses0_house i_t_guesses1_house i_t_guesses2_house i_t_guesses3_house i_t_guesses4_house i_t_guesses5_house i_t_now_sent i_t_now_law i_t_now_way f_t_now_entries i_t_letters_size n_t_letters_sense f_t_letters_sense i_t_spoken_length i_t_spoken_words f_t_guesses0_worths f_t_spoken_pairWorths0 f_t_spoken_pairWorths1 f_t_spoken_scales f_t_spoken_kinds n_t_changes_letters f_t_guesses1_worths f_t_guesses2_worths f_t_guesses3_worths f_t_guesses4_worths f_t_guesses5_worths n v c f = f_X8_fits_L20 i_t_guessCount i_t_guesses3_house i_t_guesses1_house i_t_guesses2_house i_t_guesses3_house i_t_guesses4_house i_t_guesses5_house i_t_now_sent i_t_now_law i_t_now_way f_t_now_entries i_t_letters_size n_t_letters_sense f_t_letters_sense i_t_spoken_length i_t_spoken_words f_t_guesses3_worths f_t_spoken_pairWorths0 f_t_spoken_pairWorths1 f_t_spoken_scales f_t_spoken_kinds n_t_changes_letters f_t_guesses1_worths f_t_guesses2_worths f_t_guesses3_worths f_t_guesses4_worths f_t_guesses5_worths n v c f := by
  intro n
  induction n with
  | zero => intro v c f; rfl
  | succ n ih =>
    intro v c f
    rw [f_X8_fits_L20d.eq_2, f_X8_fits_L20.eq_2]
    simp only [ih]
theorem ft_e (i_t_guessCount : Int32) (i_t_guesses0_house : Int32) (i_t_guesses1_house : Int32) (i_t_guesses2_house : Int32) (i_t_guesses3_house : Int32) (i_t_guesses4_house : Int32) (i_t_guesses5_house : Int32) (i_t_now_sent : Int32) (i_t_now_law : Int32) (i_t_now_way : Int32) (f_t_now_entries : Nat → Int32) (i_t_letters_size : Int32) (n_t_letters_sense : Nat) (f_t_letters_sense : Nat → Int32) (i_t_spoken_length : Int32) (i_t_spoken_words : Int32) (f_t_guesses0_worths : Nat → Int32) (f_t_spoken_pairWorths0 : Nat → Int32) (f_t_spoken_pairWorths1 : Nat → Int32) (f_t_spoken_scales : Nat → Int32) (f_t_spoken_kinds : Nat → Int32) (n_t_changes_letters : Nat) (f_t_guesses1_worths : Nat → Int32) (f_t_guesses2_worths : Nat → Int32) (f_t_guesses3_worths : Nat → Int32) (f_t_guesses4_worths : Nat → Int32) (f_t_guesses5_worths : Nat → Int32) : ∀ (n : Nat) (v c : Int32) (f : Nat → Int32), f_X8_fits_L20e i_t_guessCount i_t_guesses0_house i_t_guesses1_house i_t_guesses2_house i_t_guesses3_house i_t_guesses4_house i_t_guesses5_house i_t_now_sent i_t_now_law i_t_now_way f_t_now_entries i_t_letters_size n_t_letters_sense f_t_letters_sense i_t_spoken_length i_t_spoken_words f_t_guesses0_worths f_t_spoken_pairWorths0 f_t_spoken_pairWorths1 f_t_spoken_scales f_t_spoken_kinds n_t_changes_letters f_t_guesses1_worths f_t_guesses2_worths f_t_guesses3_worths f_t_guesses4_worths f_t_guesses5_worths n v c f = f_X8_fits_L20 i_t_guessCount i_t_guesses4_house i_t_guesses1_house i_t_guesses2_house i_t_guesses3_house i_t_guesses4_house i_t_guesses5_house i_t_now_sent i_t_now_law i_t_now_way f_t_now_entries i_t_letters_size n_t_letters_sense f_t_letters_sense i_t_spoken_length i_t_spoken_words f_t_guesses4_worths f_t_spoken_pairWorths0 f_t_spoken_pairWorths1 f_t_spoken_scales f_t_spoken_kinds n_t_changes_letters f_t_guesses1_worths f_t_guesses2_worths f_t_guesses3_worths f_t_guesses4_worths f_t_guesses5_worths n v c f := by
  intro n
  induction n with
  | zero => intro v c f; rfl
  | succ n ih =>
    intro v c f
    rw [f_X8_fits_L20e.eq_2, f_X8_fits_L20.eq_2]
    simp only [ih]
theorem ft_f (i_t_guessCount : Int32) (i_t_guesses0_house : Int32) (i_t_guesses1_house : Int32) (i_t_guesses2_house : Int32) (i_t_guesses3_house : Int32) (i_t_guesses4_house : Int32) (i_t_guesses5_house : Int32) (i_t_now_sent : Int32) (i_t_now_law : Int32) (i_t_now_way : Int32) (f_t_now_entries : Nat → Int32) (i_t_letters_size : Int32) (n_t_letters_sense : Nat) (f_t_letters_sense : Nat → Int32) (i_t_spoken_length : Int32) (i_t_spoken_words : Int32) (f_t_guesses0_worths : Nat → Int32) (f_t_spoken_pairWorths0 : Nat → Int32) (f_t_spoken_pairWorths1 : Nat → Int32) (f_t_spoken_scales : Nat → Int32) (f_t_spoken_kinds : Nat → Int32) (n_t_changes_letters : Nat) (f_t_guesses1_worths : Nat → Int32) (f_t_guesses2_worths : Nat → Int32) (f_t_guesses3_worths : Nat → Int32) (f_t_guesses4_worths : Nat → Int32) (f_t_guesses5_worths : Nat → Int32) : ∀ (n : Nat) (v c : Int32) (f : Nat → Int32), f_X8_fits_L20f i_t_guessCount i_t_guesses0_house i_t_guesses1_house i_t_guesses2_house i_t_guesses3_house i_t_guesses4_house i_t_guesses5_house i_t_now_sent i_t_now_law i_t_now_way f_t_now_entries i_t_letters_size n_t_letters_sense f_t_letters_sense i_t_spoken_length i_t_spoken_words f_t_guesses0_worths f_t_spoken_pairWorths0 f_t_spoken_pairWorths1 f_t_spoken_scales f_t_spoken_kinds n_t_changes_letters f_t_guesses1_worths f_t_guesses2_worths f_t_guesses3_worths f_t_guesses4_worths f_t_guesses5_worths n v c f = f_X8_fits_L20 i_t_guessCount i_t_guesses5_house i_t_guesses1_house i_t_guesses2_house i_t_guesses3_house i_t_guesses4_house i_t_guesses5_house i_t_now_sent i_t_now_law i_t_now_way f_t_now_entries i_t_letters_size n_t_letters_sense f_t_letters_sense i_t_spoken_length i_t_spoken_words f_t_guesses5_worths f_t_spoken_pairWorths0 f_t_spoken_pairWorths1 f_t_spoken_scales f_t_spoken_kinds n_t_changes_letters f_t_guesses1_worths f_t_guesses2_worths f_t_guesses3_worths f_t_guesses4_worths f_t_guesses5_worths n v c f := by
  intro n
  induction n with
  | zero => intro v c f; rfl
  | succ n ih =>
    intro v c f
    rw [f_X8_fits_L20f.eq_2, f_X8_fits_L20.eq_2]
    simp only [ih]
theorem o_fits {N L Z ns F P k q : Nat} {h0 h1 h2 h3 h4 h5 law way c8 c9 : Int32} {sc sense st kd w0 w1 fm pr pw0 pw1 kind worths frame pair en who fr to g0 g1 g2 g3 g4 g5 mh mw f8 f9 : Nat → Int32} (hC : CT N L Z ns sc sense st) (hT : TG N L F P kd w0 w1 fm pr pw0 pw1 kind worths frame pair) (hG : LG en who fr to) (hK : LK Z k who fr to) (hS : GS q h0 h1 h2 h3 h4 h5 g0 g1 g2 g3 g4 g5 mh mw) (p1 : Int32) : ∃ r c8' f8' c9' f9', f_X8_fits (nI q) h0 h1 h2 h3 h4 h5 (nI k) law way en (nI Z) ns sense (nI L) (nI N) g0 pw0 pw1 sc kd 31 g1 g2 g3 g4 g5 c8 f8 p1 = some (r, c8', f8') ∧ f_X9_fits (nI L) (nI N) (nI P) law way (nI k) (nI q) who mh fr st to mw pair kind c9 f9 p1 = some (r, c9', f9') := by
  obtain ⟨hq, hs⟩ := hS
  have hk := hK.1
  have hN := hC.1
  unfold f_X8_fits f_X9_fits
  rcases pk_ix p1 (n := q) (by omega) with hp | hp | ⟨i, hi, rfl⟩
  · rw [ig8_no (Or.inl hp), inZ_no (by omega) (Or.inl hp)]
    simp only [bs, c00, if_true]
    exact ⟨_, _, _, _, _, rfl, rfl⟩
  · rw [ig8_no (Or.inr hp), inZ_no (by omega) (Or.inr hp)]
    simp only [bs, c00, if_true]
    exact ⟨_, _, _, _, _, rfl, rfl⟩
  rw [ig8_yes (by omega) hi, inZ_yes (by omega) hi]
  simp only [bs, c10, if_false]
  obtain ⟨⟨e, hm⟩, hw⟩ := hs i hi
  obtain ⟨h, hh, eh⟩ : ∃ h : Nat, h < 2 ∧ mh i = nI h := by
    rcases hm with hm | hm
    · exact ⟨0, by omega, hm⟩
    · exact ⟨1, by omega, hm⟩
  have key := fun (a1 a2 a3 a4 a5 : Int32) (b1 b2 b3 b4 b5 : Nat → Int32) => ft_L (k := k) (g := i) (gc := nI q) (h1 := a1) (h2 := a2) (h3 := a3) (h4 := a4) (h5 := a5) (law := law) (way := way) (gw := s6 g0 g1 g2 g3 g4 g5 i) (g1 := b1) (g2 := b2) (g3 := b3) (g4 := b4) (g5 := b5) (kd := kd) (pw0 := pw0) (pw1 := pw1) hC (fun l hl => gw8_eq (row := fun w => mw (8 * i + w)) hC hT hh hl (fun w h => hw w (by omega))) (fun l hl => gw9_eq (row := fun w => mw (8 * i + w)) hC hT hh hl (by omega) eh (fun w h => rfl)) (by omega) hh eh hG hK FU k (Nat.le_refl _) (FU_lt (by omega)) 1 c8 c9 f8 f9 (Or.inr rfl)
  have e0 : nI (k - k) = 0 := by rw [Nat.sub_self]; rfl
  rw [e0, ← eh, ← e] at key
  simp only [c10, if_false] at key
  rcases (show i = 0 ∨ i = 1 ∨ i = 2 ∨ i = 3 ∨ i = 4 ∨ i = 5 by omega) with rfl | rfl | rfl | rfl | rfl | rfl
  · rw [if_pos (by decide)]
    exact key h1 h2 h3 h4 h5 g1 g2 g3 g4 g5
  · rw [if_neg (by decide), if_pos (by decide), ft_b]
    exact key h1 h2 h3 h4 h5 g1 g2 g3 g4 g5
  · rw [if_neg (by decide), if_neg (by decide), if_pos (by decide), ft_c]
    exact key h1 h2 h3 h4 h5 g1 g2 g3 g4 g5
  · rw [if_neg (by decide), if_neg (by decide), if_neg (by decide), if_pos (by decide), ft_d]
    exact key h1 h2 h3 h4 h5 g1 g2 g3 g4 g5
  · rw [if_neg (by decide), if_neg (by decide), if_neg (by decide), if_neg (by decide), if_pos (by decide), ft_e]
    exact key h1 h2 h3 h4 h5 g1 g2 g3 g4 g5
  · rw [if_neg (by decide), if_neg (by decide), if_neg (by decide), if_neg (by decide), if_neg (by decide), if_pos (by decide), ft_f]
    exact key h1 h2 h3 h4 h5 g1 g2 g3 g4 g5
