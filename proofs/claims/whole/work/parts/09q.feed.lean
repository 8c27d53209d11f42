/-! feed: the bytes of a long -/
def byt (x : Int64) (k : Nat) : Nat := x.toBitVec.toNat / 2 ^ (8 * k) % 256
theorem byt_lt (x : Int64) (k : Nat) : byt x k < 256 := Nat.mod_lt _ (by decide)
theorem sh8 {k : Nat} (hk : k < 8) : ((((8 * nI k) : Int32).toInt64.toUInt64 &&& Int64.toUInt64 63).toNat % 64) = 8 * k := by
  rcases (show k = 0 ∨ k = 1 ∨ k = 2 ∨ k = 3 ∨ k = 4 ∨ k = 5 ∨ k = 6 ∨ k = 7 by omega) with rfl | rfl | rfl | rfl | rfl | rfl | rfl | rfl <;> decide +kernel
theorem sh9 {k : Nat} (hk : k < 8) : (((((8 * nI k) : Int32).toInt64 &&& 63).toBitVec).smod 64).toNat = 8 * k := by
  rcases (show k = 0 ∨ k = 1 ∨ k = 2 ∨ k = 3 ∨ k = 4 ∨ k = 5 ∨ k = 6 ∨ k = 7 by omega) with rfl | rfl | rfl | rfl | rfl | rfl | rfl | rfl <;> decide +kernel
theorem ssr_low (x : BitVec 64) {s : Nat} (hs : s ≤ 56) : x.sshiftRight s &&& 255#64 = x >>> s &&& 255#64 := by
  apply BitVec.eq_of_getLsbD_eq
  intro i hi
  rw [BitVec.getLsbD_and, BitVec.getLsbD_and, BitVec.getLsbD_sshiftRight, BitVec.getLsbD_ushiftRight]
  by_cases h : i < 8
  · have h1 : s + i < 64 := by omega
    have h2 : ¬ 64 ≤ i := by omega
    simp [h1, h2]
  · have h3 : (255#64).getLsbD i = false := by
      rw [BitVec.getLsbD_ofNat]
      have : (255 : Nat).testBit i = false := by
        have e : (255 : Nat) = 2 ^ 8 - 1 := by decide
        rw [e, Nat.testBit_two_pow_sub_one]
        exact decide_eq_false (by omega)
      rw [this, Bool.and_false]
    rw [h3, Bool.and_false, Bool.and_false]
theorem by9 (x : Int64) {k : Nat} (hk : k < 8) : (((x >>> (((8 * nI k) : Int32).toInt64 &&& 63)) &&& 255) : Int64).toInt32 = nI (byt x k) := by
  have hb := byt_lt x k
  have e1 : ((x >>> (((8 * nI k) : Int32).toInt64 &&& 63)) &&& 255).toBitVec.toNat = byt x k := by
    have e2 : ((x >>> (((8 * nI k) : Int32).toInt64 &&& 63)) &&& 255).toBitVec = x.toBitVec.sshiftRight (((((8 * nI k) : Int32).toInt64 &&& 63).toBitVec).smod 64).toNat &&& 255#64 := rfl
    rw [e2, sh9 hk, ssr_low _ (by omega), BitVec.toNat_and, BitVec.toNat_ushiftRight, Nat.shiftRight_eq_div_pow]
    exact Nat.and_two_pow_sub_one_eq_mod _ 8
  apply Int32.toInt_inj.mp
  rw [Int64.toInt_toInt32, nI_toInt (by omega)]
  have e3 : ((x >>> (((8 * nI k) : Int32).toInt64 &&& 63)) &&& 255).toInt = (byt x k : Int) := by
    show BitVec.toInt _ = _
    rw [BitVec.toInt_eq_toNat_of_lt (by rw [e1]; omega), e1]
  rw [e3]
  exact Int.bmod_eq_of_le (by omega) (by omega)
theorem by8 (x : Int64) {k : Nat} (hk : k < 8) : vp_nar .byte ((((((x.toUInt64 >>> (((8 * nI k) : Int32).toInt64.toUInt64 &&& Int64.toUInt64 63)).toInt64) : Int64).toInt32) : Int32).toInt8.toInt32) = sb (byt x k) := by
  have hb := byt_lt x k
  rw [pk_vb]
  apply Int32.toInt_inj.mp
  rw [Int8.toInt_toInt32, Int32.toInt_toInt8, Int64.toInt_toInt32, sb_toInt hb, Int.bmod_bmod_of_dvd (by decide)]
  have e1 : ((x.toUInt64 >>> (((8 * nI k) : Int32).toInt64.toUInt64 &&& Int64.toUInt64 63)).toInt64).toInt = Int.bmod (x.toBitVec.toNat / 2 ^ (8 * k) : Nat) (2 ^ 64) := by
    show BitVec.toInt _ = _
    rw [BitVec.toInt_eq_toNat_bmod]
    congr 2
    show (x.toUInt64 >>> (((8 * nI k) : Int32).toInt64.toUInt64 &&& Int64.toUInt64 63)).toNat = _
    rw [UInt64.toNat_shiftRight, sh8 hk, Nat.shiftRight_eq_div_pow]
    rfl
  rw [e1, Int.bmod_bmod_of_dvd (by decide), ← Int.emod_bmod]
  have e2 : ((x.toBitVec.toNat / 2 ^ (8 * k) : Nat) : Int) % ((2 ^ 8 : Nat) : Int) = (byt x k : Int) := by
    unfold byt
    omega
  rw [e2]
  generalize byt x k = b at hb
  rw [Int.bmod_def]
  split <;> split <;> omega
theorem TX_add {len : Nat} {tx : Nat → Nat} {t8 t9 : Nat → Int32} {b : Nat} (h : TX len tx t8 t9) (hl : len < 500) (hb : b < 256) : TX (len + 1) (fun j => if j = len then b else tx j) (upd t8 len (sb b)) (upd t9 len (nI b)) := by
  refine ⟨by omega, fun j hj => ?_⟩
  by_cases e : j = len
  · subst e
    rw [pk_us, pk_us]
    have e1 : (fun i => if i = j then b else tx i) j = b := if_pos rfl
    rw [e1]
    exact ⟨hb, rfl, rfl⟩
  · rw [pk_un e, pk_un e]
    simp only [if_neg e]
    exact h.2 j (by omega)
theorem fd_L {x : Int64} : ∀ n m, m ≤ 8 → m < n → ∀ (len : Nat) (tx : Nat → Nat) (t8 t9 : Nat → Int32), TX len tx t8 t9 → len + m ≤ 500 → ∃ t8' t9' tx', f_X5_take_L20 n x (nI m - 1) (nI len) t8 = some (nI (len + m), nI (len + m), t8') ∧ f_X9_feed_L35 n x (nI m - 1) (nI len) t9 = some (nI (len + m), nI (len + m), t9') ∧ TX (len + m) tx' t8' t9' := by
  intro n
  induction n with
  | zero => intro m _ h; omega
  | succ n ih =>
    intro m hm hn len tx t8 t9 hT hl
    rw [f_X5_take_L20.eq_2, f_X9_feed_L35.eq_2]
    cases m with
    | zero =>
      rw [if_pos (by decide), if_pos (by decide)]
      exact ⟨_, _, tx, rfl, rfl, hT⟩
    | succ m =>
      have e1 : nI (m + 1) - 1 = nI m := pk_sub (b := 1) (by omega)
      have e2 : nI m + (-1) = nI m - 1 := by grind
      rw [e1, if_neg (nI_pos (by omega)), if_neg (nI_pos (by omega)), if_pos (ixb_nI (by omega) (by decide)), if_pos (ixb_nI (by omega) (by decide)), nI_clamp (by omega), by8 x (by omega), by9 x (by omega), e2, nI_1]
      have := ih m (by omega) (by omega) (len + 1) _ _ _ (TX_add hT (by omega) (byt_lt x m)) (by omega)
      rw [show len + (m + 1) = len + 1 + m by omega]
      exact this
theorem o_feed {len : Nat} {tx : Nat → Nat} {t8 t9 : Nat → Int32} (hT : TX len tx t8 t9) (p1 : Int32) (p2 : Int64) : ∃ r len' tx' t8' t9', f_X8_feed (nI len) t8 p1 p2 = some (r, nI len', t8') ∧ f_X9_feed (nI len) t9 p1 p2 = some (r, nI len', t9') ∧ TX len' tx' t8' t9' := by
  have hlen := hT.1
  unfold f_X8_feed f_X9_feed
  have hcs : (∃ k, k ≤ 8 ∧ 1 ≤ k ∧ p1 = nI k) ∨ (p1 < 1 ∨ (¬ p1 < 1 ∧ ¬ p1 ≤ 8)) := by
    by_cases h1 : p1 < 1
    · exact Or.inr (Or.inl h1)
    · by_cases h8 : p1 ≤ 8
      · refine Or.inl ?_
        have h0 : ¬ p1 < 0 := fun q => h1 (Int32.lt_trans q (by decide))
        obtain ⟨j, hj, e⟩ := nI_of2 (M := 8) (n := 8) (by decide) h0 h8
        refine ⟨j, hj, ?_, e⟩
        rcases Nat.eq_zero_or_pos j with q | q
        · subst q; subst e; exact absurd (by decide) h1
        · exact q
      · exact Or.inr (Or.inr ⟨h1, h8⟩)
  have e1 : (1 : Int64) = (1 : Int32).toInt64 := by decide
  have e8 : (8 : Int64) = (8 : Int32).toInt64 := by decide
  have hin : ∀ q : Int32, f_X9_in q.toInt64 1 8 = some (if q < 1 then 0 else if 8 < q then 0 else 1) := by
    intro q
    unfold f_X9_in
    rw [e1, e8]
    by_cases h : q < 1
    · rw [if_pos ((lg_cmp_lt _ _).mpr ((w64_lt _ _).mpr h)), if_pos h]
    · rw [if_neg (fun e => h ((w64_lt _ _).mp ((lg_cmp_lt _ _).mp e))), if_neg h]
      by_cases h2 : 8 < q
      · rw [if_pos ((lg_cmp_gt _ _).mpr ((w64_lt _ _).mpr h2)), if_pos h2]
      · rw [if_neg (fun e => h2 ((w64_lt _ _).mp ((lg_cmp_gt _ _).mp e))), if_neg h2]
  rw [hin, bs]
  rcases hcs with ⟨k, h8, h1, rfl⟩ | h1 | ⟨h1, h8⟩
  · have a1 : ¬ nI k < 1 := by
      have : (1 : Int32) = nI 1 := rfl
      rw [this]; exact nI_nlt h1 (by omega)
    have a8 : nI k ≤ 8 := nI_le (b := 8) h8 (by decide)
    rw [if_neg a1, if_pos a8, if_neg a1, if_neg (le_nlt a8), if_neg (by decide), nI_add]
    unfold f_X5_take
    rw [nI_add]
    have e500 : (500 : Int32) = nI 500 := rfl
    rw [e500]
    by_cases hf : len + k ≤ 500
    · rw [if_pos (nI_le hf (by decide)), if_pos (nI_le hf (by decide))]
      obtain ⟨t8', t9', tx', c1, c2, c3⟩ := fd_L (x := p2) FU k h8 (FU_lt (by omega)) len tx t8 t9 hT hf
      rw [c1, c2]
      simp only [bs]
      exact ⟨_, _, _, _, _, rfl, rfl, c3⟩
    · rw [if_neg (nI_ge (by omega) (by omega)), if_neg (nI_ge (by omega) (by omega))]
      simp only [bs]
      exact ⟨_, len, _, _, _, rfl, rfl, hT⟩
  · rw [if_pos h1, if_pos h1, if_pos rfl]
    exact ⟨_, len, _, _, _, rfl, rfl, hT⟩
  · rw [if_neg h1, if_neg h8, if_neg h1, if_pos (nle_lt h8), if_pos rfl]
    exact ⟨_, len, _, _, _, rfl, rfl, hT⟩
