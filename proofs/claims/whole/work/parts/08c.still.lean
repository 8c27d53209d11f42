/-! LETTERS that neither would change -/
theorem nw_L25 {N L Z ns no nt T : Nat} {law way v1 own : Int32} {sc sense one other wo : Nat → Int32} {h : Int32} (hW : WT Z no nt one other wo) (hT : T ≤ 31) (K0 : Int32 → Int32 → Int32 → (Nat → Int32) → Option (Int32 × Int32 × (Nat → Int32))) (f : Nat → Int32) : ∀ (zs ys : List Nat) (n : Nat), (ys ++ zs).length = T → zs.length < n → Rp f (ys ++ zs) → (∀ z ∈ zs, z < Z) → f_X8_neitherWouldChange_L25 (nI Z) law way (nI L) (nI N) sc 31 ns sense nt other no one K0 n v1 h own (nI ys.length) (nI T) f = if ∀ z ∈ zs, wt wo h z ≤ own then K0 v1 h (nI T) f else some (0, nI T, f) := by
  intro zs
  induction zs with
  | nil =>
    intro ys n hx hn hR hz
    obtain ⟨n, rfl⟩ : ∃ m, n = m + 1 := ⟨n - 1, by simp at hn; omega⟩
    rw [f_X8_neitherWouldChange_L25.eq_2, if_pos (nI_le (by simp at hx; omega) (by simp at hx; omega)), if_pos (fun z hz => absurd hz (List.not_mem_nil))]
  | cons z zs ih =>
    intro ys n hx hn hR hz
    obtain ⟨n, rfl⟩ : ∃ m, n = m + 1 := ⟨n - 1, by simp at hn; omega⟩
    have hl := len_lt ys zs z
    have hz0 := hz z (List.mem_cons_self ..)
    have hz2 := fun x (hx : x ∈ zs) => hz x (List.mem_cons_of_mem _ hx)
    have hg1 : f_X6_get (nI T) 31 f (nI ys.length) = some (nI z) := by
      rw [← hx]; exact get_at hR (by omega) (by decide)
    have hx' : ((ys ++ [z]) ++ zs).length = T := by rw [← app1]; exact hx
    have hR' : Rp f ((ys ++ [z]) ++ zs) := by rw [← app1]; exact hR
    rw [f_X8_neitherWouldChange_L25.eq_2, if_neg (nI_ge (by omega) (by omega)), hg1, bs, wt8_eq hW hz0, bs, len1 ys z]
    by_cases hq : wt wo h z ≤ own
    · rw [if_pos hq, ih (ys ++ [z]) n hx' (by simp at hn; omega) hR' hz2]
      have : (∀ y ∈ z :: zs, wt wo h y ≤ own) ↔ ∀ y ∈ zs, wt wo h y ≤ own := by
        constructor
        · exact fun q y hy => q y (List.mem_cons_of_mem _ hy)
        · intro q y hy
          rcases List.mem_cons.mp hy with rfl | hy
          · exact hq
          · exact q y hy
      simp only [this]
    · rw [if_neg hq, if_neg (fun q => hq (q z (List.mem_cons_self ..)))]
/-- no HOUSE would have it otherwise -/
def nwB (wo : Nat → Int32) (xs : List Nat) (l : Nat) : Bool := decide (∀ z ∈ xs, wo (2 * z) ≤ wo (2 * l)) && decide (∀ z ∈ xs, wo (2 * z + 1) ≤ wo (2 * l + 1))
theorem nw_eq {N L Z ns no nt l : Nat} {law way c8 : Int32} {sc sense st one other wo f8 : Nat → Int32} (hC : CT N L Z ns sc sense st) (hW : WT Z no nt one other wo) (hl : l < Z) : ∃ c8' f8', f_X8_neitherWouldChange (nI Z) law way (nI L) (nI N) sc 31 ns sense nt other no one c8 f8 (nI l) = some (if nwB wo (chL N L law (okF st (wy way)) l) l = true then 1 else 0, c8', f8') := by
  obtain ⟨hlen, hm⟩ := ch_ct (law := law) (any := wy way) hC hl
  obtain ⟨g8, e8, r8⟩ := lc8_eq (law := law) (way := way) (f := f8) (cnt := c8) (nl := 31) hC hl (by omega) (by omega)
  unfold f_X8_neitherWouldChange
  rw [e8]
  generalize chL N L law (okF st (wy way)) l = xs at *
  simp only [bs]
  have key := fun K0 h own v1 => nw_L25 (N := N) (L := L) (ns := ns) (law := law) (way := way) (sc := sc) (sense := sense) (v1 := v1) (own := own) (h := h) hW hlen K0 g8 xs [] FU rfl (FU_lt (by omega)) r8 (fun z hz => (hm z hz).1)
  have h00 : nI ([] : List Nat).length = 0 := rfl
  rw [h00] at key
  have hf : FU = 9997 + 1 + 1 + 1 := rfl
  have e1 : (0 : Int32) + 1 = 1 := by decide
  have e2 : (1 : Int32) + 1 = 2 := by decide
  rw [hf, f_X8_neitherWouldChange_L7.eq_2, if_neg (by decide), wt8_eq hW hl, bs, key]
  have w0 : ∀ z, wt wo 0 z = wo (2 * z) := fun z => if_pos rfl
  have w1 : ∀ z, wt wo 1 z = wo (2 * z + 1) := fun z => if_neg (by decide)
  unfold nwB
  simp only [w0]
  by_cases hA : ∀ z ∈ xs, wo (2 * z) ≤ wo (2 * l)
  · rw [if_pos hA, e1, f_X8_neitherWouldChange_L7.eq_2, if_neg (by decide), wt8_eq hW hl, bs, key]
    simp only [w1]
    by_cases hB : ∀ z ∈ xs, wo (2 * z + 1) ≤ wo (2 * l + 1)
    · rw [if_pos hB, e2, f_X8_neitherWouldChange_L7.eq_2, if_pos (by decide), decide_eq_true hA, decide_eq_true hB]
      exact ⟨_, _, rfl⟩
    · rw [if_neg hB, decide_eq_false hB, Bool.and_false]
      exact ⟨_, _, rfl⟩
  · rw [if_neg hA, decide_eq_false hA, Bool.false_and]
    exact ⟨_, _, rfl⟩
theorem is9_L {Z T l : Nat} {pl wn law way : Int32} {st wo : Nat → Int32} (hZ : Z ≤ 4096) (hl : l < Z) (hT : T ≤ 31) (f : Nat → Int32) : ∀ (zs ys : List Nat) (n : Nat), (ys ++ zs).length = T → zs.length < n → Rp f (ys ++ zs) → (∀ z ∈ zs, z < Z) → ∀ v : Bool, f_X9_isStill_L27 pl wn law way st wo n (nI l) (if v = true then 1 else 0) (nI ys.length) (nI T) f = some (if (v && nwB wo zs l) = true then 1 else 0, nI T, f) := by
  intro zs
  induction zs with
  | nil =>
    intro ys n hx hn hR hz v
    obtain ⟨n, rfl⟩ : ∃ m, n = m + 1 := ⟨n - 1, by simp at hn; omega⟩
    rw [f_X9_isStill_L27.eq_2, if_pos (nI_le (by simp at hx; omega) (by simp at hx; omega)), if_pos (by cases v <;> decide)]
    cases v <;> rfl
  | cons z zs ih =>
    intro ys n hx hn hR hz v
    obtain ⟨n, rfl⟩ : ∃ m, n = m + 1 := ⟨n - 1, by simp at hn; omega⟩
    have hl2 := len_lt ys zs z
    have hz0 := hz z (List.mem_cons_self ..)
    have hz2 := fun x (hx : x ∈ zs) => hz x (List.mem_cons_of_mem _ hx)
    have hx' : ((ys ++ [z]) ++ zs).length = T := by rw [← app1]; exact hx
    have hR' : Rp f ((ys ++ [z]) ++ zs) := by rw [← app1]; exact hR
    have ih := ih (ys ++ [z]) n hx' (by simp at hn; omega) hR' hz2
    have i0 := ih false
    have i1 := ih true
    rw [if_neg (by decide)] at i0
    rw [if_pos rfl] at i1
    rw [f_X9_isStill_L27.eq_2, if_neg (nI_ge (by omega) (by omega)), len1 ys z, i0, i1]
    cases v with
    | false => rw [if_pos (show (if false = true then (1 : Int32) else 0) = 0 by decide)]; rfl
    | true =>
      rw [if_neg (show ¬ (if true = true then (1 : Int32) else 0) = 0 by decide)]
      simp only [nI_clamp (show ys.length < 2 ^ 31 by omega), Rp_at hR, two_mul, nI_1, if_pos (ixb_nI (show ys.length < 40 by omega) (by decide)), if_pos (ixb_nI (show 2 * z < 8192 by omega) (by decide)), if_pos (ixb_nI (show 2 * l < 8192 by omega) (by decide)), if_pos (ixb_nI (show 2 * z + 1 < 8192 by omega) (by decide)), if_pos (ixb_nI (show 2 * l + 1 < 8192 by omega) (by decide)), nI_clamp (show 2 * z < 2 ^ 31 by omega), nI_clamp (show 2 * l < 2 ^ 31 by omega), nI_clamp (show 2 * z + 1 < 2 ^ 31 by omega), nI_clamp (show 2 * l + 1 < 2 ^ 31 by omega)]
      have hA : (∀ y ∈ z :: zs, wo (2 * y) ≤ wo (2 * l)) ↔ (wo (2 * z) ≤ wo (2 * l) ∧ ∀ y ∈ zs, wo (2 * y) ≤ wo (2 * l)) := List.forall_mem_cons
      have hB : (∀ y ∈ z :: zs, wo (2 * y + 1) ≤ wo (2 * l + 1)) ↔ (wo (2 * z + 1) ≤ wo (2 * l + 1) ∧ ∀ y ∈ zs, wo (2 * y + 1) ≤ wo (2 * l + 1)) := List.forall_mem_cons
      by_cases h1 : wo (2 * l) < wo (2 * z)
      · have h1' : ¬ wo (2 * z) ≤ wo (2 * l) := fun q => le_nlt q h1
        rw [if_pos h1]
        have : nwB wo (z :: zs) l = false := by
          unfold nwB
          rw [decide_eq_false (fun q => h1' (hA.mp q).1), Bool.false_and]
        rw [this]; rfl
      · have h1' : wo (2 * z) ≤ wo (2 * l) := by
          rw [Int32.lt_iff_toInt_lt] at h1
          rw [Int32.le_iff_toInt_le]; omega
        rw [if_neg h1]
        by_cases h2 : wo (2 * l + 1) < wo (2 * z + 1)
        · have h2' : ¬ wo (2 * z + 1) ≤ wo (2 * l + 1) := fun q => le_nlt q h2
          rw [if_pos h2]
          have : nwB wo (z :: zs) l = false := by
            unfold nwB
            rw [decide_eq_false (fun q => h2' (hB.mp q).1), Bool.and_false]
          rw [this]; rfl
        · have h2' : wo (2 * z + 1) ≤ wo (2 * l + 1) := by
            rw [Int32.lt_iff_toInt_lt] at h2
            rw [Int32.le_iff_toInt_le]; omega
          rw [if_neg h2]
          have : nwB wo (z :: zs) l = nwB wo zs l := by
            unfold nwB
            have a : decide (∀ y ∈ z :: zs, wo (2 * y) ≤ wo (2 * l)) = decide (∀ y ∈ zs, wo (2 * y) ≤ wo (2 * l)) := decide_eq_decide.mpr ⟨fun q => (hA.mp q).2, fun q => hA.mpr ⟨h1', q⟩⟩
            have b : decide (∀ y ∈ z :: zs, wo (2 * y + 1) ≤ wo (2 * l + 1)) = decide (∀ y ∈ zs, wo (2 * y + 1) ≤ wo (2 * l + 1)) := decide_eq_decide.mpr ⟨fun q => (hB.mp q).2, fun q => hB.mpr ⟨h2', q⟩⟩
            rw [a, b]
          rw [this]
/-- stands, and neither would change it -/
def stB (N L : Nat) (law way : Int32) (st wo : Nat → Int32) (l : Nat) : Bool := decide (¬ st l = 0) && nwB wo (chL N L law (okF st (wy way)) l) l
theorem is9_eq {N L Z ns l : Nat} {law way c9 : Int32} {sc sense st wo f9 : Nat → Int32} (hC : CT N L Z ns sc sense st) (hl : l < Z) : ∃ c9' f9', f_X9_isStill (nI L) (nI N) law way st wo c9 f9 (nI l) = some (if stB N L law way st wo l = true then 1 else 0, c9', f9') := by
  have hZ := hC.Z_le
  obtain ⟨hlen, hm⟩ := ch_ct (law := law) (any := wy way) hC hl
  obtain ⟨g9, e9, r9⟩ := fc_ct (law := law) (any := wy way) (f := f9) (cnt := c9) hC hl
  unfold f_X9_isStill stB
  rw [fcw, e9]
  generalize chL N L law (okF st (wy way)) l = xs at *
  simp only [bs]
  rw [if_pos (ixb_nI (by omega) (by decide)), nI_clamp (by omega)]
  obtain ⟨-, -, -, -, -, -, hst⟩ := hC
  obtain ⟨a, b⟩ := hst l hl
  have hs : st l = (if decide (¬ st l = 0) = true then 1 else 0) := by
    rw [← a]
    rcases b with b | b <;> rw [b] <;> decide
  have key := is9_L (pl := nI L) (wn := nI N) (law := law) (way := way) (st := st) (wo := wo) hZ hl hlen g9 xs [] FU rfl (FU_lt (by omega)) r9 (fun z hz => (hm z hz).1) (decide (¬ st l = 0))
  rw [← hs] at key
  exact ⟨_, _, key⟩
/-- the still ones among the last m LETTERS -/
def stL (Z : Nat) (B : Nat → Bool) : Nat → List Nat
  | 0 => []
  | m + 1 => (if B (Z - (m + 1)) = true then [Z - (m + 1)] else []) ++ stL Z B m
theorem stL_len (Z : Nat) (B : Nat → Bool) : ∀ m, (stL Z B m).length ≤ m := by
  intro m
  induction m with
  | zero => exact Nat.le_refl _
  | succ m ih => rw [stL]; split <;> simp <;> omega
theorem ls8_L {N L Z ns no nt cap : Nat} {law way : Int32} {sc sense st one other wo : Nat → Int32} (hC : CT N L Z ns sc sense st) (hW : WT Z no nt one other wo) (hcap : Z ≤ cap) (hcap2 : cap ≤ 4096) : ∀ n m, m ≤ Z → m < n → ∀ (fs : List Nat) (c8 : Int32) (f8 ff : Nat → Int32), fs.length + m ≤ Z → Rp ff fs → ∃ c8' f8' ff', f_X8_listStill_L9 (nI Z) ns sense law way (nI L) (nI N) sc 31 nt other no one cap n (nI (Z - m)) (nI fs.length) c8 f8 ff = some (nI (fs ++ stL Z (stB N L law way st wo) m).length, c8', f8', ff') ∧ Rp ff' (fs ++ stL Z (stB N L law way st wo) m) := by
  intro n
  induction n with
  | zero => intro m _ h; omega
  | succ n ih =>
    intro m hm hn fs c8 f8 ff hfs hF
    rw [f_X8_listStill_L9.eq_2]
    cases m with
    | zero =>
      rw [if_pos (nI_le (by omega) (by omega)), stL, List.append_nil]
      exact ⟨_, _, _, rfl, hF⟩
    | succ m =>
      have hx : Z - (m + 1) + 1 = Z - m := by omega
      rw [stL]
      have hi : Z - (m + 1) < Z := by omega
      have ih := ih m (by omega) (by omega)
      rw [← hx, ← nI_1] at ih
      generalize Z - (m + 1) = i at *
      obtain ⟨-, -, -, -, hns1, hns2, hst⟩ := id hC
      obtain ⟨a, b⟩ := hst i hi
      rw [if_neg (nI_ge hi (by omega)), sn_eq hns1 (by omega) hi, bs]
      by_cases h0 : sense i = 0
      · have e1 : ¬ sense i = 1 := by rw [h0]; decide
        have e2 : stB N L law way st wo i = false := by
          unfold stB
          rw [← a, decide_eq_false (fun q => q h0), Bool.false_and]
        rw [if_neg e1, if_pos rfl, e2, if_neg (by decide), List.nil_append]
        exact ih fs c8 f8 ff (by omega) hF
      · have e1 : sense i = 1 := b.resolve_left h0
        have e2 : stB N L law way st wo i = nwB wo (chL N L law (okF st (wy way)) i) i := by
          unfold stB
          rw [← a, decide_eq_true h0, Bool.true_and]
        obtain ⟨x8, y8, e8⟩ := nw_eq (law := law) (way := way) (c8 := c8) (f8 := f8) hC hW hi
        rw [if_pos e1, if_neg (by decide), e8, e2]
        simp only [bs]
        by_cases hq : nwB wo (chL N L law (okF st (wy way)) i) i = true
        · rw [if_pos hq, if_pos hq, if_neg (by decide), add_eq (by omega) (by omega)]
          simp only [bs]
          have := ih (fs ++ [i]) x8 y8 (upd ff fs.length (nI i)) (by simp; omega) (Rp_add hF)
          have e := len1 fs i
          rw [nI_1] at e
          rw [← e, List.append_assoc] at this
          exact this
        · rw [if_neg hq, if_neg hq, if_pos rfl, List.nil_append]
          exact ih fs x8 y8 ff (by omega) hF
theorem st9_L {N L Z ns : Nat} {law way x : Int32} {sc sense st wo : Nat → Int32} (hC : CT N L Z ns sc sense st) : ∀ n m, m ≤ Z → m < n → ∀ (fs : List Nat) (c9 : Int32) (f9 : Nat → Int32), fs.length + m ≤ Z → (∀ k, k < fs.length → ¬ nI k = x) → ∃ c9' f9', f_X9_still_L4 (nI L) (nI N) (nI Z) law way st wo n x (nI fs.length) (nI (Z - m)) c9 f9 = some (cog (fs ++ stL Z (stB N L law way st wo) m) x, c9', f9') := by
  have hZ := hC.Z_le
  intro n
  induction n with
  | zero => intro m _ h; omega
  | succ n ih =>
    intro m hm hn fs c9 f9 hfs hmiss
    rw [f_X9_still_L4.eq_2]
    cases m with
    | zero =>
      rw [if_pos (nI_le (by omega) (by omega)), stL, List.append_nil, cog_miss (by omega) hmiss]
      split
      · exact ⟨_, _, rfl⟩
      · exact ⟨_, _, rfl⟩
    | succ m =>
      have hx : Z - (m + 1) + 1 = Z - m := by omega
      have hlen := stL_len Z (stB N L law way st wo) m
      rw [stL]
      have hi : Z - (m + 1) < Z := by omega
      have ih := ih m (by omega) (by omega)
      rw [← hx, ← nI_1] at ih
      generalize Z - (m + 1) = i at *
      obtain ⟨x9, y9, e9⟩ := is9_eq (law := law) (way := way) (c9 := c9) (f9 := f9) (wo := wo) hC hi
      rw [if_neg (nI_ge hi (by omega)), e9]
      simp only [bs]
      by_cases hq : stB N L law way st wo i = true
      · rw [if_pos hq, if_pos hq, if_neg (by decide)]
        by_cases e : nI fs.length = x
        · rw [if_pos e, ← e]
          have : cog (fs ++ ([i] ++ stL Z (stB N L law way st wo) m)) (nI fs.length) = nI i := cog_hit (by omega) (by simp; omega)
          rw [this]
          exact ⟨_, _, rfl⟩
        · rw [if_neg e, len1 fs i, ← List.append_assoc]
          refine ih (fs ++ [i]) x9 y9 (by simp; omega) (fun k hk => ?_)
          by_cases ek : k = fs.length
          · rw [ek]; exact e
          · exact hmiss k (by simp at hk; omega)
      · rw [if_neg hq, if_neg hq, if_pos rfl, List.nil_append]
        exact ih fs x9 y9 (by omega) hmiss
/-- the row of still ones, as the class keeps it: good where its stamp is one of this tongue -/
def SC (N L Z T : Nat) (st wo : Nat → Int32) (stamp cnt : Int32) (ff : Nat → Int32) : Prop := (stamp = -1 ∨ ∃ s, s < T * 6 + 6 ∧ stamp = nI s) ∧ ∀ a b, a < 3 → b < 2 → stamp = nI (T * 6 + a * 2 + b) → cnt = nI (stL Z (stB N L (nI a) (nI b) st wo) Z).length ∧ Rp ff (stL Z (stB N L (nI a) (nI b) st wo) Z)
theorem stamp_eq (T a b : Nat) : f_X8_stamp (nI T) (nI a) (nI b) = some (nI (T * 6 + a * 2 + b)) := by
  unfold f_X8_stamp
  have e6 : nI T * 6 = nI (T * 6) := pk_mul T 6
  have e2 : nI a * 2 = nI (a * 2) := pk_mul a 2
  rw [e6, e2, nI_add, nI_add]
theorem o_still {N L Z ns no nt cap T a b : Nat} {stamp cnt c8 c9 : Int32} {sc sense st one other wo ff f8 f9 : Nat → Int32} (hC : CT N L Z ns sc sense st) (hW : WT Z no nt one other wo) (hcap : Z ≤ cap) (hcap2 : cap ≤ 4096) (hT : T ≤ 600) (ha : a < 3) (hb : b < 2) (hS : SC N L Z T st wo stamp cnt ff) (p1 : Int32) : ∃ r stamp' cnt' ff' c8' f8' c9' f9', f_X8_still (nI T) (nI Z) (nI a) (nI b) cap ns sense (nI L) (nI N) sc 31 nt other no one stamp cnt ff c8 f8 p1 = some (r, stamp', cnt', ff', c8', f8') ∧ f_X9_still (nI L) (nI N) (nI Z) (nI a) (nI b) st wo c9 f9 p1 = some (r, c9', f9') ∧ SC N L Z T st wo stamp' cnt' ff' := by
  have hZ := hC.Z_le
  have hlen := stL_len Z (stB N L (nI a) (nI b) st wo) Z
  unfold f_X8_still f_X9_still f_X8_listStill f_X6_empty
  rw [stamp_eq]
  simp only [bs]
  obtain ⟨c9', f9', e9⟩ := st9_L (law := nI a) (way := nI b) (x := p1) (wo := wo) hC FU Z (Nat.le_refl _) (FU_lt (by omega)) [] c9 f9 (by simp) (fun k hk => absurd hk (Nat.not_lt_zero k))
  have h00 : nI ([] : List Nat).length = 0 := rfl
  have e0 : nI (Z - Z) = 0 := by rw [Nat.sub_self]; rfl
  rw [h00, e0, List.nil_append] at e9
  by_cases hst : stamp = nI (T * 6 + a * 2 + b)
  · rw [if_pos hst]
    obtain ⟨x, y⟩ := hS.2 a b ha hb hst
    rw [x, cog_eq y (by omega) (by omega), bs, ← x]
    exact ⟨_, _, _, _, _, _, _, _, rfl, e9, hS⟩
  · rw [if_neg hst]
    obtain ⟨c8', f8', ff', e8, r8⟩ := ls8_L (law := nI a) (way := nI b) hC hW hcap hcap2 FU Z (Nat.le_refl _) (FU_lt (by omega)) [] c8 f8 ff (by simp) (Rp_nil _)
    rw [h00, e0, List.nil_append] at e8
    rw [List.nil_append] at r8
    rw [e8]
    simp only [bs]
    rw [cog_eq r8 (by omega) (by omega), bs]
    refine ⟨_, _, _, _, _, _, _, _, rfl, e9, Or.inr ⟨_, ?_, rfl⟩, fun a' b' ha' hb' e => ?_⟩
    · omega
    · have e' := nI_inj (by omega) (by omega) e
      have h1 : a' = a := by omega
      have h2 : b' = b := by omega
      subst h1 h2
      exact ⟨rfl, r8⟩
