/-! which LETTERS stand: isFramed of the class, isFramed of the reference -/
/-- the code of a row of kinds, the last m places -/
def fcd (L : Nat) (kk : Nat → Nat) : Nat → Nat
  | 0 => 0
  | m + 1 => kk (L - (m + 1)) + 4 * fcd L kk m
theorem fcd_lt (L : Nat) (kk : Nat → Nat) (hk : ∀ p, kk p < 4) : ∀ m, fcd L kk m < 4 ^ m := by
  intro m
  induction m with
  | zero => show 0 < 1; decide
  | succ m ih =>
    rw [fcd, Nat.pow_succ]
    have := hk (L - (m + 1))
    omega
theorem fcd_inj (L : Nat) (kk kk' : Nat → Nat) (hk : ∀ p, kk p < 4) (hk' : ∀ p, kk' p < 4) : ∀ m, m ≤ L → (fcd L kk m = fcd L kk' m ↔ ∀ p, L - m ≤ p → p < L → kk p = kk' p) := by
  intro m
  induction m with
  | zero =>
    intro _
    exact ⟨fun _ p h1 h2 => by omega, fun _ => rfl⟩
  | succ m ih =>
    intro hm
    rw [fcd, fcd]
    have a := hk (L - (m + 1))
    have b := hk' (L - (m + 1))
    have ih := ih (by omega)
    constructor
    · intro e p h1 h2
      have e1 : kk (L - (m + 1)) = kk' (L - (m + 1)) := by omega
      have e2 : fcd L kk m = fcd L kk' m := by omega
      by_cases hp : p = L - (m + 1)
      · rw [hp]; exact e1
      · exact ih.mp e2 p (by omega) h2
    · intro h
      have e1 := h (L - (m + 1)) (Nat.le_refl _) (by omega)
      have e2 := ih.mpr (fun p h1 h2 => h p (by omega) h2)
      omega
theorem if7_L {N L l : Nat} {sc kd fm : Nat → Int32} {kk : Nat → Nat} (hs : Sc N sc) (h1 : 1 ≤ N) (hN : N ≤ 8) (hL : L ≤ 4) (hl : l < 2 ^ 31) (hk : ∀ w, w < N → kd w = nI (kk w)) (K0 : Int32 → Option Int32) : ∀ n k m, k + m = L → k < n → f_X7_isFramed_L9 (nI L) (nI N) kd sc fm K0 n (nI l) (nI (fcd L (fun p => kk (wd N l p)) m)) (nI k - 1) = K0 (nI (fcd L (fun p => kk (wd N l p)) L)) := by
  intro n
  induction n with
  | zero => intro k m _ h; omega
  | succ n ih =>
    intro k m hm hn
    rw [f_X7_isFramed_L9.eq_2]
    cases k with
    | zero =>
      rw [if_pos (by decide)]
      rw [Nat.zero_add] at hm
      rw [hm]
    | succ k =>
      have hw := wd_lt (l := l) (k := k) h1
      rw [nI_pred, if_neg (nI_pos (by omega)), w7_eq hs h1 hN hL (by omega) hl, bs, if_pos (ixb_nI (by omega) (by decide)), nI_clamp (by omega), hk _ hw]
      have e4 : nI (fcd L (fun p => kk (wd N l p)) m) * 4 = nI (fcd L (fun p => kk (wd N l p)) m * 4) := pk_mul _ 4
      have hx : L - (m + 1) = k := by omega
      have e5 : fcd L (fun p => kk (wd N l p)) m * 4 + kk (wd N l k) = fcd L (fun p => kk (wd N l p)) (m + 1) := by
        rw [fcd, hx]; omega
      have em : nI k + (-1) = nI k - 1 := by grind
      rw [e4, nI_add, e5, em]
      exact ih k (m + 1) (by omega) (by omega)
theorem if7_eq {N L l : Nat} {sc kd fm : Nat → Int32} {kk : Nat → Nat} (hs : Sc N sc) (h1 : 1 ≤ N) (hN : N ≤ 8) (hL : L ≤ 4) (hl : l < 2 ^ 31) (hk : ∀ w, w < N → kd w = nI (kk w)) (hkk : ∀ w, kk w < 4) : f_X7_isFramed (nI L) (nI N) kd sc fm (nI l) = some (if fm (fcd L (fun p => kk (wd N l p)) L) = 1 then 1 else 0) := by
  unfold f_X7_isFramed
  have h := fun K0 => if7_L (fm := fm) hs h1 hN hL hl hk K0 FU L 0 (by omega) (FU_lt (by omega))
  have e0 : nI (fcd L (fun p => kk (wd N l p)) 0) = 0 := rfl
  rw [e0] at h
  have hlt := fcd_lt L (fun p => kk (wd N l p)) (fun p => hkk _) L
  have hlt2 : 4 ^ L ≤ 4 ^ 4 := Nat.pow_le_pow_right (by decide) hL
  have hlt3 : fcd L (fun p => kk (wd N l p)) L < 256 := by
    have : (4 : Nat) ^ 4 = 256 := by decide
    omega
  rw [h, pk_andN (by omega) 8 (by decide), Nat.mod_eq_of_lt (by omega), if_pos (ixb_nI hlt3 (by decide)), nI_clamp (by omega)]
  split <;> rfl
theorem if9_L15 {N L l f : Nat} {F : Int32} {fr kind : Nat → Int32} (h1 : 1 ≤ N) (hN : N ≤ 8) (hL : L ≤ 4) (hl : l < 2 ^ 31) (hf : f < 8) (K0 : Int32 → Int32 → Int32 → Option Int32) : ∀ n m, m ≤ L → m < n → ∀ v, (v = 0 ∨ v = 1) → ∃ v', f_X9_isFramed_L15 (nI L) (nI N) F fr kind K0 n (nI l) (nI f) v (nI (L - m)) = K0 (nI l) (nI f) v' ∧ (v' = 0 ∨ v' = 1) ∧ (v' = 1 ↔ (v = 1 ∧ ∀ p, L - m ≤ p → p < L → fr (4 * f + p) = kind (wd N l p))) := by
  intro n
  induction n with
  | zero => intro m _ h; omega
  | succ n ih =>
    intro m hm hn v hv
    rw [f_X9_isFramed_L15.eq_2]
    cases m with
    | zero =>
      rw [if_pos (nI_le (by omega) (by omega))]
      exact ⟨v, rfl, hv, fun e => ⟨e, fun p a b => by omega⟩, fun e => e.1⟩
    | succ m =>
      have hx : L - (m + 1) + 1 = L - m := by omega
      have hw := wd_lt (l := l) (k := L - (m + 1)) h1
      have ih := fun v hv => ih m (by omega) (by omega) v hv
      rw [if_neg (nI_ge (by omega) (by omega)), nI_1, hx]
      rcases hv with rfl | rfl
      · rw [if_pos rfl]
        obtain ⟨v', e, a, b⟩ := ih 0 (Or.inl rfl)
        exact ⟨v', e, a, fun q => absurd (b.mp q).1 (by decide), fun q => absurd q.1 (by decide)⟩
      · have e4 : 4 * nI f = nI (4 * f) := pk_mul 4 f
        rw [if_neg (by decide), e4, nI_add, if_pos (ixb_nI (by omega) (by decide)), w9_eq h1 hN (by omega) hl, bs, if_pos (ixb_nI (by omega) (by decide)), nI_clamp (by omega), nI_clamp (by omega)]
        by_cases hq : fr (4 * f + (L - (m + 1))) = kind (wd N l (L - (m + 1)))
        · rw [if_pos hq]
          obtain ⟨v', e, a, b⟩ := ih 1 (Or.inr rfl)
          refine ⟨v', e, a, fun q => ⟨rfl, fun p x y => ?_⟩, fun q => b.mpr ⟨rfl, fun p x y => q.2 p (by omega) y⟩⟩
          by_cases hp : p = L - (m + 1)
          · rw [hp]; exact hq
          · exact (b.mp q).2 p (by omega) y
        · rw [if_neg hq]
          obtain ⟨v', e, a, b⟩ := ih 0 (Or.inl rfl)
          exact ⟨v', e, a, fun q => absurd (b.mp q).1 (by decide), fun q => absurd (q.2 _ (Nat.le_refl _) (by omega)) hq⟩
theorem if9_L2 {N L l F : Nat} {fr kind : Nat → Int32} (h1 : 1 ≤ N) (hN : N ≤ 8) (hL : L ≤ 4) (hl : l < 2 ^ 31) (hF : F ≤ 8) : ∀ n m, m ≤ F → m < n → ∃ r, f_X9_isFramed_L2 (nI L) (nI N) (nI F) fr kind n (nI l) (nI (F - m)) = some r ∧ (r = 0 ∨ r = 1) ∧ (r = 1 ↔ ∃ f, F - m ≤ f ∧ f < F ∧ ∀ p, p < L → fr (4 * f + p) = kind (wd N l p)) := by
  intro n
  induction n with
  | zero => intro m _ h; omega
  | succ n ih =>
    intro m hm hn
    rw [f_X9_isFramed_L2.eq_2]
    cases m with
    | zero =>
      rw [if_pos (nI_le (by omega) (by omega))]
      exact ⟨0, rfl, Or.inl rfl, fun e => absurd e (by decide), fun ⟨f, a, b, _⟩ => by omega⟩
    | succ m =>
      have hx : F - (m + 1) + 1 = F - m := by omega
      rw [if_neg (nI_ge (by omega) (by omega))]
      have e0 : (0 : Int32) = nI (L - L) := by rw [Nat.sub_self]; rfl
      obtain ⟨v', e, a, b⟩ := if9_L15 (f := F - (m + 1)) (F := nI F) (fr := fr) (kind := kind) h1 hN hL hl (by omega) (fun (v1_9 : Int32) (v2_10 : Int32) (v3_11 : Int32) =>
        if v3_11 = 0 then
          f_X9_isFramed_L2 (nI L) (nI N) (nI F) fr kind n v1_9 (v2_10 + 1)
        else
          some 1) FU L (Nat.le_refl _) (FU_lt (by omega)) 1 (Or.inr rfl)
      rw [← e0] at e
      rw [e]
      rw [Nat.sub_self] at b
      rcases a with rfl | rfl
      · rw [if_pos rfl, nI_1, hx]
        obtain ⟨r, e, a, c⟩ := ih m (by omega) (by omega)
        refine ⟨r, e, a, fun q => ?_, fun ⟨f, x, y, z⟩ => ?_⟩
        · obtain ⟨f, x, y, z⟩ := c.mp q
          exact ⟨f, by omega, y, z⟩
        · by_cases hf : f = F - (m + 1)
          · subst hf
            exact absurd (b.mpr ⟨rfl, fun p _ y => z p y⟩) (by decide)
          · exact c.mpr ⟨f, by omega, y, z⟩
      · rw [if_neg (by decide)]
        exact ⟨1, rfl, Or.inr rfl, fun _ => ⟨F - (m + 1), Nat.le_refl _, by omega, fun p y => (b.mp rfl).2 p (by omega) y⟩, fun _ => rfl⟩
theorem if9_eq {N L l F : Nat} {fr kind : Nat → Int32} (h1 : 1 ≤ N) (hN : N ≤ 8) (hL : L ≤ 4) (hl : l < 2 ^ 31) (hF : F ≤ 8) : ∃ r, f_X9_isFramed (nI L) (nI N) (nI F) fr kind (nI l) = some r ∧ (r = 0 ∨ r = 1) ∧ (r = 1 ↔ ∃ f, f < F ∧ ∀ p, p < L → fr (4 * f + p) = kind (wd N l p)) := by
  unfold f_X9_isFramed
  obtain ⟨r, e, a, b⟩ := if9_L2 (fr := fr) (kind := kind) h1 hN hL hl hF FU F (Nat.le_refl _) (FU_lt (by omega))
  rw [Nat.sub_self] at e b
  refine ⟨r, e, a, fun q => ?_, fun ⟨f, y, z⟩ => b.mpr ⟨f, Nat.zero_le _, y, z⟩⟩
  obtain ⟨f, x, y, z⟩ := b.mp q
  exact ⟨f, y, z⟩
/-- the frames as both hold them: framed of the class, the rows of kinds of the reference -/
def FR (L F : Nat) (fm fr : Nat → Int32) : Prop := F ≤ 8 ∧ ∃ ff : Nat → Nat → Nat, (∀ f p, ff f p < 4) ∧ (∀ f p, f < F → p < L → fr (4 * f + p) = nI (ff f p)) ∧ ∀ c, c < 256 → (fm c = 0 ∨ fm c = 1) ∧ (fm c = 1 ↔ ∃ f, f < F ∧ fcd L (ff f) L = c)
theorem if_both {N L l F : Nat} {sc kd kind fm fr : Nat → Int32} {kk : Nat → Nat} (hs : Sc N sc) (h1 : 1 ≤ N) (hN : N ≤ 8) (hL : L ≤ 4) (hl : l < 2 ^ 31) (hk : ∀ w, w < N → kd w = nI (kk w) ∧ kind w = nI (kk w)) (hkk : ∀ w, kk w < 4) (hF : FR L F fm fr) : ∃ r, f_X7_isFramed (nI L) (nI N) kd sc fm (nI l) = some r ∧ f_X9_isFramed (nI L) (nI N) (nI F) fr kind (nI l) = some r ∧ (r = 0 ∨ r = 1) := by
  obtain ⟨hF8, ff, hff, hfr, hfm⟩ := hF
  obtain ⟨r, e9, a, b⟩ := if9_eq (fr := fr) (kind := kind) h1 hN hL hl hF8
  refine ⟨r, ?_, e9, a⟩
  rw [if7_eq hs h1 hN hL hl (fun w hw => (hk w hw).1) hkk]
  have hlt := fcd_lt L (fun p => kk (wd N l p)) (fun p => hkk _) L
  have hlt2 : 4 ^ L ≤ 4 ^ 4 := Nat.pow_le_pow_right (by decide) hL
  have hlt3 : fcd L (fun p => kk (wd N l p)) L < 256 := by
    have : (4 : Nat) ^ 4 = 256 := by decide
    omega
  obtain ⟨x, y⟩ := hfm _ hlt3
  have hiff : (∃ f, f < F ∧ fcd L (ff f) L = fcd L (fun p => kk (wd N l p)) L) ↔ ∃ f, f < F ∧ ∀ p, p < L → fr (4 * f + p) = kind (wd N l p) := by
    constructor
    · rintro ⟨f, h, e⟩
      refine ⟨f, h, fun p hp => ?_⟩
      have := (fcd_inj L (ff f) (fun p => kk (wd N l p)) (hff f) (fun p => hkk _) L (Nat.le_refl _)).mp e p (by omega) hp
      rw [hfr f p h hp, this, (hk _ (wd_lt h1)).2]
    · rintro ⟨f, h, e⟩
      refine ⟨f, h, (fcd_inj L (ff f) (fun p => kk (wd N l p)) (hff f) (fun p => hkk _) L (Nat.le_refl _)).mpr (fun p _ hp => ?_)⟩
      have := e p hp
      rw [hfr f p h hp, (hk _ (wd_lt h1)).2] at this
      have h1 := hff f p
      have h2 := hkk (wd N l p)
      exact nI_inj (by omega) (by omega) this
  rcases a with rfl | rfl
  · rw [if_neg]
    intro q
    exact absurd (b.mpr (hiff.mp (y.mp q))) (by decide)
  · rw [if_pos (y.mpr (hiff.mpr (b.mp rfl)))]
