/-! tongue: the text read whole; the tongue copied -/
theorem clr_eq {l w f p : Int32} {fm pr pw0 pw1 : Nat → Int32} : ∃ fm' pr' pw0' pw1', f_X7_clear l w f p fm pr pw0 pw1 = some (0, 0, 0, 0, fm', pr', pw0', pw1') ∧ (∀ j, j < 256 → fm' j = 0) ∧ (∀ j, j < 64 → pr' j = 0) ∧ (∀ j, j < 64 → pw0' j = 0) ∧ (∀ j, j < 64 → pw1' j = 0) := by
  obtain ⟨f1, e1, a1⟩ := fl_eq (nn := 256) (v := 0) (f := fm) (by decide)
  obtain ⟨f2, e2, a2⟩ := fl_eq (nn := 64) (v := 0) (f := pr) (by decide)
  obtain ⟨f3, e3, a3⟩ := fl_eq (nn := 64) (v := 0) (f := pw0) (by decide)
  obtain ⟨f4, e4, a4⟩ := fl_eq (nn := 64) (v := 0) (f := pw1) (by decide)
  refine ⟨f1, f2, f3, f4, ?_, a1, a2, a3, a4⟩
  unfold f_X7_clear
  rw [e1, bs, e2, bs]
  show f_X7_clear_L38 (9997 + 1 + 1 + 1) _ _ _ _ _ _ _ _ _ = _
  rw [f_X7_clear_L38.eq_2, if_neg (by decide), if_pos rfl, e3, bs, f_X7_clear_L38.eq_2, if_neg (by decide), if_neg (by decide), if_pos (by decide), e4, bs, f_X7_clear_L38.eq_2, if_pos (by decide)]
theorem TG_0 {L : Nat} {kd w0 w1 fm pr pw0 pw1 rk rw' rf rp : Nat → Int32} (hL : L ≤ 4) (h1 : ∀ j, j < 256 → fm j = 0) (h2 : ∀ j, j < 64 → pr j = 0) (h3 : ∀ j, j < 64 → pw0 j = 0) (h4 : ∀ j, j < 64 → pw1 j = 0) : TG 0 L 0 0 kd w0 w1 fm pr pw0 pw1 rk rw' rf rp := by
  refine ⟨by omega, hL, fun h => by omega, by omega, ⟨by omega, fun _ _ => 0, fun _ _ => (show 0 < 4 by decide), fun f p hf => by omega, fun c hc => ⟨Or.inl (h1 c hc), ?_⟩⟩, ⟨fun _ => 0, fun _ => (show 0 < 4 by decide), fun w hw => by omega⟩, fun w hw => by omega, fun a b ha hb => ⟨h3 _ (by omega), h4 _ (by omega)⟩, fun a b ha hb => ⟨Or.inl (h2 _ (by omega)), ?_⟩⟩
  · rw [h1 c hc]
    exact ⟨fun q => absurd q (by decide), fun ⟨f, hf, _⟩ => by omega⟩
  · rw [h2 _ (by omega)]
    exact ⟨fun q => absurd q (by decide), fun ⟨f, hf, _⟩ => by omega⟩
theorem rd_all {len : Nat} {tx : Nat → Nat} {t8 t9 rk rw' rf rp kd w0 w1 fm pr pw0 pw1 a b c d x y z w : Nat → Int32} {pl st fn0 fb0 sl sw sf sp v2 v3 v4 v5 v6 v7 v8 v9 v10 v11 v22 v23 we num na : Int32} {sd : Int64} (hT : TX len tx t8 t9) (K0 : Int32 → Int32 → Int32 → Int32 → Int32 → Int32 → Int32 → Int32 → Int32 → Int32 → Int32 → Int32 → Int32 → Int32 → Int64 → Int32 → Int32 → Int32 → Int32 → Int32 → Int32 → Int32 → Int32 → Int32 → (Nat → Int32) → (Nat → Int32) → (Nat → Int32) → (Nat → Int32) → (Nat → Int32) → (Nat → Int32) → (Nat → Int32) → (Nat → Int32) → (Nat → Int32) → (Nat → Int32) → (Nat → Int32) → (Nat → Int32) → Option (Int32 × Int32 × Int32 × Int32 × Int32 × Int32 × Int32 × Int32 × Int32 × Int32 × Int32 × Int32 × Int32 × Int32 × Int64 × Int32 × Int32 × Int32 × Int32 × Int32 × Int32 × Int32 × Int32 × Int32 × (Nat → Int32) × (Nat → Int32) × (Nat → Int32) × (Nat → Int32) × (Nat → Int32) × (Nat → Int32) × (Nat → Int32) × (Nat → Int32) × (Nat → Int32) × (Nat → Int32) × (Nat → Int32) × (Nat → Int32))) : ∃ p8 s8 fn' fb' L8 N8 F8 P8 fm' pr' pw0' pw1' kd' w0' w1' r fp' a' sd' we' num' na' L9 N9 F9 P9 rp' rf' rk' rw'', f_X5_read t8 (nI len) pl st fn0 fb0 sl sw sf sp fm pr pw0 pw1 kd w0 w1 = some (fn', 0, p8, s8, fn', fb', L8, N8, F8, P8, fm', pr', pw0', pw1', kd', w0', w1') ∧ f_X9_tongue_L32 t9 K0 FU 0 v2 v3 v4 v5 v6 v7 v8 v9 v10 v11 (nI len) (-1) 0 sd we num na 0 0 0 0 v22 v23 rp rf rk rw' a b c d x y z w = K0 r v2 v3 v4 v5 v6 v7 v8 v9 v10 v11 (nI len) fp' a' sd' we' num' na' L9 N9 F9 P9 v22 v23 rp' rf' rk' rw'' a b c d x y z w ∧ ((∃ e, 1 ≤ e ∧ e ≤ 4 ∧ r = nI e ∧ fn' = nI e ∧ fb' = fp') ∨ (r = 0 ∧ fn' = 0 ∧ fb' = -1 ∧ fp' = -1 ∧ ∃ N L F P, L8 = nI L ∧ L9 = nI L ∧ N8 = nI N ∧ F8 = nI F ∧ P8 = nI P ∧ N9 = nI N ∧ F9 = nI F ∧ P9 = nI P ∧ TG N L F P kd' w0' w1' fm' pr' pw0' pw1' rk' rw'' rf' rp')) := by
  have hlen := hT.1
  obtain ⟨fm1, pr1, pw01, pw11, e1, a1, a2, a3, a4⟩ := clr_eq (l := sl) (w := sw) (f := sf) (p := sp) (fm := fm) (pr := pr) (pw0 := pw0) (pw1 := pw1)
  have z0 : (0 : Int32) = nI 0 := rfl
  have b0 := sk_b (tx := tx) (Nat.zero_le len)
  have him := im8 (p := 0) hT (Nat.zero_le _)
  have hhe := he9 (p := 0) hT (Nat.zero_le _)
  rw [← z0] at him hhe
  unfold f_X5_read
  rw [e1]
  simp only [bs]
  rw [him]
  simp only [bs]
  by_cases hm : sk tx len 0 < len
  · rw [if_pos hm, if_neg (show ¬ (1 : Int32) = 0 by decide)]
    obtain ⟨p', s', fn', fb', L8, r, fp', a', sd', we', num', na', L9, c1, c2, c3, c4⟩ := hd_all (p := sk tx len 0) (st := st) (we := we) (num := num) (na := na) (l0 := 0) (sd := sd) (rk := rk) (rw' := rw') (rf := rf) (rp := rp) hT b0.2
    rw [c1]
    simp only [bs]
    show ∃ p8 s8 fn' fb' L8 N8 F8 P8 fm' pr' pw0' pw1' kd' w0' w1' r fp' a' sd' we' num' na' L9 N9 F9 P9 rp' rf' rk' rw'', _ ∧ f_X9_tongue_L32 t9 K0 (9999 + 1) 0 v2 v3 v4 v5 v6 v7 v8 v9 v10 v11 (nI len) (-1) 0 sd we num na 0 0 0 0 v22 v23 rp rf rk rw' a b c d x y z w = _ ∧ _
    rw [f_X9_tongue_L32.eq_2, if_pos (rfl : (0 : Int32) = 0), hhe]
    simp only [bs]
    rw [if_neg (fun q => (hr_more hT).mp q hm), c2]
    simp only [bs]
    rcases c4 with ⟨e, q1, q2, rfl, rfl, rfl⟩ | ⟨rfl, rfl, rfl, rfl, rfl, q6, L, q7, q8, rfl, rfl⟩
    · have hz := nIp (show ¬ e = 0 by omega) q2
      have hf : FU = 9999 + 1 := rfl
      have hf2 : (9999 : Nat) = 9998 + 1 := rfl
      rw [hf, r8_end hz, hf2, rd_end K0 hz]
      exact ⟨_, _, _, _, _, _, _, _, _, _, _, _, _, _, _, _, _, _, _, _, _, _, _, _, _, _, _, _, _, _, rfl, rfl, Or.inl ⟨e, q1, q2, rfl, rfl, rfl⟩⟩
    · obtain ⟨p8, s8, fn', fb', N8, F8, P8, fm', pr', pw0', pw1', kd', w0', w1', r, fp', a', sd', we', num', na', N9, F9, P9, rp', rf', rk', rw'', d1, d2, d3⟩ := rd_L (a := a) (b := b) (c := c) (d := d) (x := x) (y := y) (z := z) (w := w) (v2 := v2) (v3 := v3) (v4 := v4) (v5 := v5) (v6 := v6) (v7 := v7) (v8 := v8) (v9 := v9) (v10 := v10) (v11 := v11) (v22 := v22) (v23 := v23) hT q7 K0 (len + 1) 0 p' c3 (by omega) (Nat.zero_le _) FU 9999 (FU_lt (by omega)) (by omega) 0 0 0 s' we' num' na' sd' kd w0 w1 fm1 pr1 pw01 pw11 rk rw' rf rp (TG_0 q8 a1 a2 a3 a4)
      rw [← z0] at d1 d2
      refine ⟨_, _, _, _, _, _, _, _, _, _, _, _, _, _, _, _, _, _, _, _, _, _, _, _, _, _, _, _, _, _, d1, d2, ?_⟩
      rcases d3 with d3 | ⟨d3, d4, d5, d6, N, F, P, g1, g2, g3, g4, g5, g6, g7⟩
      · exact Or.inl d3
      · exact Or.inr ⟨d3, d4, d5, d6, N, L, F, P, rfl, rfl, g1, g2, g3, g4, g5, g6, g7⟩
  · rw [if_neg hm, if_pos (rfl : (0 : Int32) = 0)]
    show ∃ p8 s8 fn' fb' L8 N8 F8 P8 fm' pr' pw0' pw1' kd' w0' w1' r fp' a' sd' we' num' na' L9 N9 F9 P9 rp' rf' rk' rw'', f_X5_read_L33 t8 (9999 + 1) 0 (nI len) _ _ _ _ _ _ _ _ _ _ _ _ _ _ _ = _ ∧ f_X9_tongue_L32 t9 K0 (9999 + 1) 0 v2 v3 v4 v5 v6 v7 v8 v9 v10 v11 (nI len) (-1) 0 sd we num na 0 0 0 0 v22 v23 rp rf rk rw' a b c d x y z w = _ ∧ _
    have hskk : ¬ sk tx len (sk tx len 0) < len := by
      have := sk_b (tx := tx) b0.2
      omega
    rw [f_X9_tongue_L32.eq_2, if_pos (rfl : (0 : Int32) = 0), hhe, f_X5_read_L33.eq_2, if_neg (by decide), if_pos (rfl : (0 : Int32) = 0), im8 hT b0.2]
    simp only [bs]
    rw [if_neg hskk, if_pos (rfl : (0 : Int32) = 0), if_pos ((hr_more hT).mpr hm)]
    exact ⟨_, _, _, _, _, _, _, _, _, _, _, _, _, _, _, _, _, _, _, _, _, _, _, _, _, _, _, _, _, _, rfl, rfl, Or.inr ⟨rfl, rfl, rfl, rfl, 0, 0, 0, 0, rfl, rfl, rfl, rfl, rfl, rfl, rfl, rfl, TG_0 (by omega) a1 a2 a3 a4⟩⟩
/-- the copy: kind, worths, frame, pair out of what was read -/
def CPY (i : Nat) (kind worths frame pair rk rw' rf rp : Nat → Int32) : Prop := (∀ j, j < 8 → j < i → kind j = rk j) ∧ (∀ j, j < 16 → j < i → worths j = rw' j) ∧ (∀ j, j < 32 → j < i → frame j = rf j) ∧ ∀ j, j < 48 → j < i → pair j = rp j
theorem cp_upd {i M : Nat} {f g : Nat → Int32} (hM : 0 < M) (h : ∀ j, j < M → j < i → f j = g j) : ∀ j, j < M → j < i + 1 → upd f (i % M) (g (i % M)) j = g j := by
  intro j h1 h2
  by_cases e : j = i % M
  · rw [e, pk_us]
  · rw [pk_un e]
    refine h j h1 ?_
    by_cases e2 : j = i
    · subst e2; rw [Nat.mod_eq_of_lt h1] at e; exact absurd rfl e
    · omega
theorem cp_L {t9 rk rw' rf rp x y z w : Nat → Int32} {v2 v3 v4 v5 v6 v7 v8 v9 v10 v11 v12 v13 v14 v16 v17 v18 v19 v20 v21 v22 v23 v24 : Int32} {v15 : Int64} (K0 : Int32 → Int32 → Int32 → Int32 → Int32 → Int32 → Int32 → Int32 → Int32 → Int32 → Int32 → Int32 → Int32 → Int64 → Int32 → Int32 → Int32 → Int32 → Int32 → Int32 → Int32 → Int32 → Int32 → (Nat → Int32) → (Nat → Int32) → (Nat → Int32) → (Nat → Int32) → (Nat → Int32) → (Nat → Int32) → (Nat → Int32) → (Nat → Int32) → (Nat → Int32) → (Nat → Int32) → (Nat → Int32) → (Nat → Int32) → Option (Int32 × Int32 × Int32 × Int32 × Int32 × Int32 × Int32 × Int32 × Int32 × Int32 × Int32 × Int32 × Int32 × Int32 × Int64 × Int32 × Int32 × Int32 × Int32 × Int32 × Int32 × Int32 × Int32 × Int32 × (Nat → Int32) × (Nat → Int32) × (Nat → Int32) × (Nat → Int32) × (Nat → Int32) × (Nat → Int32) × (Nat → Int32) × (Nat → Int32) × (Nat → Int32) × (Nat → Int32) × (Nat → Int32) × (Nat → Int32))) : ∀ n m, m ≤ 48 → m < n → ∀ (kind worths frame pair : Nat → Int32), CPY (48 - m) kind worths frame pair rk rw' rf rp → ∃ kind' worths' frame' pair', f_X9_tongue_L99 t9 K0 n (nI (48 - m)) v2 v3 v4 v5 v6 v7 v8 v9 v10 v11 v12 v13 v14 v15 v16 v17 v18 v19 v20 v21 v22 v23 v24 rp rf rk rw' kind worths frame pair x y z w = K0 v2 v3 v4 v5 v6 v7 v8 v9 v10 v11 v12 v13 v14 v15 v16 v17 v18 v19 v20 v21 v22 v23 v24 rp rf rk rw' kind' worths' frame' pair' x y z w ∧ CPY 48 kind' worths' frame' pair' rk rw' rf rp := by
  intro n
  induction n with
  | zero => intro m _ h; omega
  | succ n ih =>
    intro m hm hn kind worths frame pair hC
    have e48 : (48 : Int32) = nI 48 := rfl
    have e8 : (8 : Int32) = nI 8 := rfl
    have e16 : (16 : Int32) = nI 16 := rfl
    have e32 : (32 : Int32) = nI 32 := rfl
    rw [f_X9_tongue_L99.eq_2, e48]
    cases m with
    | zero =>
      rw [if_pos (nI_le (by omega) (by omega))]
      exact ⟨_, _, _, _, rfl, hC⟩
    | succ m =>
      have hx : 48 - (m + 1) + 1 = 48 - m := by omega
      generalize hi : 48 - (m + 1) = i at *
      rw [if_neg (nI_ge (by omega) (by omega)), e8, e16, e32, pk_rem (by omega) (by omega) (by omega), pk_rem (by omega) (by omega) (by omega), pk_rem (by omega) (by omega) (by omega), nI_clamp (by omega), nI_clamp (by omega), nI_clamp (by omega), nI_clamp (by omega), nI_1, hx]
      simp only [if_pos (ixb_nI (show i % 8 < 8 by omega) (by decide)), if_pos (ixb_nI (show i % 16 < 16 by omega) (by decide)), if_pos (ixb_nI (show i % 32 < 32 by omega) (by decide)), if_pos (ixb_nI (show i < 48 by omega) (by decide))]
      refine ih m (by omega) (by omega) _ _ _ _ ?_
      rw [← hx]
      obtain ⟨c1, c2, c3, c4⟩ := hC
      refine ⟨cp_upd (by decide) c1, cp_upd (by decide) c2, cp_upd (by decide) c3, ?_⟩
      have := cp_upd (by decide) c4
      rw [Nat.mod_eq_of_lt (show i < 48 by omega)] at this
      exact this
theorem psm_congr {pair pair' : Nat → Int32} {P h a b : Nat} (hP : P ≤ 12) (hh : h < 2) (hq : ∀ j, j < 48 → pair' j = pair j) : ∀ m, m ≤ P → psm pair' P h a b m = psm pair P h a b m := by
  intro m
  induction m with
  | zero => intro _; rfl
  | succ m ih =>
    intro hm
    rw [psm, psm, ih (by omega), hq _ (by omega), hq _ (by omega), hq _ (by omega)]
theorem TG_copy {N L F P : Nat} {kd w0 w1 fm pr pw0 pw1 rk rw' rf rp kind worths frame pair : Nat → Int32} (h : TG N L F P kd w0 w1 fm pr pw0 pw1 rk rw' rf rp) (hC : CPY 48 kind worths frame pair rk rw' rf rp) : TG N L F P kd w0 w1 fm pr pw0 pw1 kind worths frame pair := by
  obtain ⟨h1, h2, h3, h4, ⟨h5, ff, h6, h7, h8⟩, ⟨kk, h9, h10⟩, h11, h12, h13⟩ := h
  obtain ⟨c1, c2, c3, c4⟩ := hC
  refine ⟨h1, h2, h3, h4, ⟨h5, ff, h6, fun f p hf hp => ?_, h8⟩, ⟨kk, h9, fun w hw => ⟨(h10 w hw).1, ?_⟩⟩, fun w hw => ?_, fun a b ha hb => ?_, fun a b ha hb => ⟨(h13 a b ha hb).1, ?_⟩⟩
  · rw [c3 _ (by omega) (by omega)]; exact h7 f p hf hp
  · rw [c1 _ (by omega) (by omega)]; exact (h10 w hw).2
  · rw [c2 _ (by omega) (by omega), c2 _ (by omega) (by omega)]; exact h11 w hw
  · rw [psm_congr h4 (by decide) (fun j hj => c4 j hj hj) P (Nat.le_refl _), psm_congr h4 (by decide) (fun j hj => c4 j hj hj) P (Nat.le_refl _)]; exact h12 a b ha hb
  · refine (h13 a b ha hb).2.trans ⟨fun ⟨p, q1, q2, q3⟩ => ⟨p, q1, ?_, ?_⟩, fun ⟨p, q1, q2, q3⟩ => ⟨p, q1, ?_, ?_⟩⟩
    · rw [c4 _ (by omega) (by omega)]; exact q2
    · rw [c4 _ (by omega) (by omega)]; exact q3
    · rw [← c4 _ (by omega) (by omega)]; exact q2
    · rw [← c4 _ (by omega) (by omega)]; exact q3
