/-! the component's shape: reachedOutside, studyDominators, studyEdges, orderBlocks -/
theorem x8_t : (8 : Int32) ≤ nI 8 := by decide
theorem x8_f {i : Nat} (h : i < 8) : ¬ (8 : Int32) ≤ nI i := nI_ge (b := 8) h (by decide)
theorem xw_in {i : Nat} (h : i < 8) : vp_in (nI i) 8 := vp_in_nI h (by decide)
theorem xw_c {i : Nat} (h : i < 8) : (nI i).toNatClampNeg = i := nI_clamp (by omega)
theorem xw_has {post : Int32 → Prop} {s : Int32} {j : Nat} (hj : j < 8) (h1 : bt s j = true → post 1) (h0 : bt s j = false → post 0) : wpX_has post s (nI j) :=
  ek_if (rb_has s (by omega)) (fun z => h1 z) (fun z => h0 (rb_tf z))
theorem x10 : ¬ (1 : Int32) = 0 := by decide
section
variable {f_liveSet f_loopSet f_mergeSet f_orderedSet f_orderedCount f_pendingCount f_codeLength f_outCount f_carriedCount f_lastOutcome : Int32} {a_actionKind a_actionNumber a_wayKind a_wayFirst a_waySecond a_dominatorSet a_forwardSet a_order a_pendingForm a_pendingBlock a_codeForm a_codeBlock a_loopPlace a_scopeEndPlace a_elsePlace a_registers a_visitCounts a_outNumbers : Nat → Int32} {kd fi se : Nat → Nat}
theorem xw_tgo (V : vw a_wayKind a_wayFirst a_waySecond kd fi se) (K : vk kd fi se) {post : Int32 → Prop} {b : Nat} (hb : b < 8) (hp : post (tm kd fi se b)) : wpX_targetsOf post (f_liveSet, f_loopSet, f_mergeSet, f_orderedSet, f_orderedCount, f_pendingCount, f_codeLength, f_outCount, f_carriedCount, f_lastOutcome, a_actionKind, a_actionNumber, a_wayKind, a_wayFirst, a_waySecond, a_dominatorSet, a_forwardSet, a_order, a_pendingForm, a_pendingBlock, a_codeForm, a_codeBlock, a_loopPlace, a_scopeEndPlace, a_elsePlace, a_registers, a_visitCounts, a_outNumbers) (nI b) := by
  obtain ⟨v1, v2, v3⟩ := V b hb
  obtain ⟨k1, k2, k3⟩ := K b hb
  have hi := xw_in hb
  unfold wpX_targetsOf
  dsimp only
  rw [xw_c hb]
  unfold tm at hp
  refine ⟨hi, ?_⟩
  by_cases k0 : kd b = 0
  · rw [if_pos k0] at hp
    exact br_t (by rw [v1, k0]; rfl) hp
  · rw [if_neg k0] at hp
    have n0 : ¬ a_wayKind b = 0 := by
      rw [v1]
      exact nI_ne0 (by omega) (by omega)
    refine br_f n0 ⟨hi, nm_r (e' := rb_p (fi b)) (by rw [v2 k0]; rfl) ⟨hi, ?_⟩⟩
    by_cases k4 : 2 ≤ kd b
    · rw [if_pos k4] at hp
      exact br_f (by rw [v1]; exact nI_nlt (b := 2) k4 (by omega)) ⟨hi, nm_r (e' := rb_p (fi b) ||| rb_p (se b)) (by rw [v3 k4]; rfl) hp⟩
    · rw [if_neg k4] at hp
      exact br_t (by rw [v1]; exact nI_lt (b := 2) (by omega) (by decide)) hp
theorem xw_ro17 (V : vw a_wayKind a_wayFirst a_waySecond kd fi se) (K : vk kd fi se) {post : Int32 → Prop} {J8 : Int32 → Int32 → Prop} {m x3 s0 : Int32} (hJ : J8 (rc_ps (tm kd fi se) m s0 8) (x3 + 1)) :
    ∀ d i n, i + d = 8 → d < n → wX_reachedOutside_17 post J8 m x3 f_liveSet f_loopSet f_mergeSet f_orderedSet f_orderedCount f_pendingCount f_codeLength f_outCount f_carriedCount f_lastOutcome a_actionKind a_actionNumber a_wayKind a_wayFirst a_waySecond a_dominatorSet a_forwardSet a_order a_pendingForm a_pendingBlock a_codeForm a_codeBlock a_loopPlace a_scopeEndPlace a_elsePlace a_registers a_visitCounts a_outNumbers n (rc_ps (tm kd fi se) m s0 i) (nI i) := by
  intro d
  induction d with
  | zero =>
    intro i n hi hn
    obtain ⟨k, rfl⟩ : ∃ k, n = k + 1 := ⟨n - 1, by omega⟩
    obtain rfl : i = 8 := by omega
    exact br_t x8_t (nm_e hJ)
  | succ d ih =>
    intro i n hi hn
    obtain ⟨k, rfl⟩ : ∃ k, n = k + 1 := ⟨n - 1, by omega⟩
    have h8 : i < 8 := by omega
    refine br_f (x8_f h8) (xw_has h8 (fun z => br_f x10 (xw_tgo V K h8 ?_)) (fun z => br_t rfl ?_))
    · refine nm_r (e' := rc_ps (tm kd fi se) m s0 (i + 1)) ?_ (nm_r (nI_1 i) (ih (i + 1) k (by omega) (by omega)))
      show _ = rc_st (tm kd fi se) m (rc_ps (tm kd fi se) m s0 i) i
      unfold rc_st
      rw [if_pos z]
    · have e : rc_ps (tm kd fi se) m s0 i = rc_ps (tm kd fi se) m s0 (i + 1) := by
        show _ = rc_st (tm kd fi se) m (rc_ps (tm kd fi se) m s0 i) i
        unfold rc_st
        rw [if_neg (by rw [z]; decide)]
      rw [e]
      exact nm_r (nI_1 i) (ih (i + 1) k (by omega) (by omega))
theorem xw_ro (V : vw a_wayKind a_wayFirst a_waySecond kd fi se) (K : vk kd fi se) {post : Int32 → Prop} {m : Int32} (hp : post (rc (tm kd fi se) m)) : wpX_reachedOutside post (f_liveSet, f_loopSet, f_mergeSet, f_orderedSet, f_orderedCount, f_pendingCount, f_codeLength, f_outCount, f_carriedCount, f_lastOutcome, a_actionKind, a_actionNumber, a_wayKind, a_wayFirst, a_waySecond, a_dominatorSet, a_forwardSet, a_order, a_pendingForm, a_pendingBlock, a_codeForm, a_codeBlock, a_loopPlace, a_scopeEndPlace, a_elsePlace, a_registers, a_visitCounts, a_outNumbers) m := by
  have lp : ∀ d r n, r + d = 8 → d < n → wX_reachedOutside_8 post m f_liveSet f_loopSet f_mergeSet f_orderedSet f_orderedCount f_pendingCount f_codeLength f_outCount f_carriedCount f_lastOutcome a_actionKind a_actionNumber a_wayKind a_wayFirst a_waySecond a_dominatorSet a_forwardSet a_order a_pendingForm a_pendingBlock a_codeForm a_codeBlock a_loopPlace a_scopeEndPlace a_elsePlace a_registers a_visitCounts a_outNumbers n (rs_it (fun s => rc_ps (tm kd fi se) m s 8) (rc_s0 m) r) (nI r) := by
    intro d
    induction d with
    | zero =>
      intro r n hr hn
      obtain ⟨k, rfl⟩ : ∃ k, n = k + 1 := ⟨n - 1, by omega⟩
      obtain rfl : r = 8 := by omega
      exact br_t x8_t hp
    | succ d ih =>
      intro r n hr hn
      obtain ⟨k, rfl⟩ : ∃ k, n = k + 1 := ⟨n - 1, by omega⟩
      refine br_f (x8_f (by omega)) ⟨9, ?_⟩
      refine xw_ro17 V K (s0 := rs_it (fun s => rc_ps (tm kd fi se) m s 8) (rc_s0 m) r) ?_ 8 0 9 rfl (by decide)
      rw [nI_1]
      exact ih (r + 1) k (by omega) (by omega)
  unfold wpX_reachedOutside
  dsimp only
  exact nm_e ⟨9, lp 8 0 9 rfl (by decide)⟩
theorem xw_sd46 {T : Nat → Int32} {post : SX → Prop} {J23 : Int32 → (Nat → Int32) → (Nat → Int32) → (Nat → Int32) → (Nat → Int32) → (Nat → Int32) → (Nat → Int32) → (Nat → Int32) → (Nat → Int32) → (Nat → Int32) → (Nat → Int32) → (Nat → Int32) → (Nat → Int32) → (Nat → Int32) → (Nat → Int32) → (Nat → Int32) → (Nat → Int32) → (Nat → Int32) → (Nat → Int32) → Prop} {h : Nat} (hh : h < 8) (hJ : ∀ ds, (∀ b, b < 8 → ds b = rd_f T b (h + 1)) → J23 (nI h + 1) a_actionKind a_actionNumber a_wayKind a_wayFirst a_waySecond ds a_forwardSet a_order a_pendingForm a_pendingBlock a_codeForm a_codeBlock a_loopPlace a_scopeEndPlace a_elsePlace a_registers a_visitCounts a_outNumbers) :
    ∀ d i n ds, i + d = 8 → d < n → (∀ b, b < i → ds b = rd_f T b (h + 1)) → (∀ b, b < 8 → i ≤ b → ds b = rd_f T b h) →
      wX_studyDominators_46 post J23 (nI h) (rc T 0 &&& (rc T (rb_p h) ^^^ (-1))) f_liveSet f_loopSet f_mergeSet f_orderedSet f_orderedCount f_pendingCount f_codeLength f_outCount f_carriedCount f_lastOutcome n (nI i) a_actionKind a_actionNumber a_wayKind a_wayFirst a_waySecond ds a_forwardSet a_order a_pendingForm a_pendingBlock a_codeForm a_codeBlock a_loopPlace a_scopeEndPlace a_elsePlace a_registers a_visitCounts a_outNumbers := by
  intro d
  induction d with
  | zero =>
    intro i n ds hi hn h1 h2
    obtain ⟨k, rfl⟩ : ∃ k, n = k + 1 := ⟨n - 1, by omega⟩
    obtain rfl : i = 8 := by omega
    exact br_t x8_t (nm_e (hJ ds h1))
  | succ d ih =>
    intro i n ds hi hn h1 h2
    obtain ⟨k, rfl⟩ : ∃ k, n = k + 1 := ⟨n - 1, by omega⟩
    have h8 : i < 8 := by omega
    have hin := xw_in h8
    refine br_f (x8_f h8) (xw_has h8 (fun z => br_f x10 ⟨hin, hin, nm_e (nm_r (nI_1 i) (ih (i + 1) k _ (by omega) (by omega) (fun b hb => ?_) (fun b hb hb2 => ?_)))⟩) (fun z => br_t rfl (nm_r (nI_1 i) (ih (i + 1) k ds (by omega) (by omega) (fun b hb => ?_) (fun b hb hb2 => h2 b hb (by omega))))))
    · rw [xw_c h8]
      by_cases e : b = i
      · subst e
        rw [pk_us, h2 b h8 (Nat.le_refl b)]
        show _ = if _ then _ else _
        rw [if_pos z]
        rfl
      · rw [pk_un e]
        exact h1 b (by omega)
    · rw [xw_c h8, pk_un (by omega)]
      exact h2 b hb (by omega)
    · by_cases e : b = i
      · subst e
        rw [h2 b h8 (Nat.le_refl b)]
        show _ = if _ then _ else _
        rw [if_neg (by rw [z]; decide)]
      · exact h1 b (by omega)
theorem xw_sd (V : vw a_wayKind a_wayFirst a_waySecond kd fi se) (K : vk kd fi se) {T : Nat → Int32} (hT : T = tm kd fi se) {post : SX → Prop}
    (hp : ∀ ds, (∀ b, b < 8 → ds b = rd T b) → post (rc T 0, f_loopSet, f_mergeSet, f_orderedSet, f_orderedCount, f_pendingCount, f_codeLength, f_outCount, f_carriedCount, f_lastOutcome, a_actionKind, a_actionNumber, a_wayKind, a_wayFirst, a_waySecond, ds, a_forwardSet, a_order, a_pendingForm, a_pendingBlock, a_codeForm, a_codeBlock, a_loopPlace, a_scopeEndPlace, a_elsePlace, a_registers, a_visitCounts, a_outNumbers)) : wpX_studyDominators post (rc T 0, f_loopSet, f_mergeSet, f_orderedSet, f_orderedCount, f_pendingCount, f_codeLength, f_outCount, f_carriedCount, f_lastOutcome, a_actionKind, a_actionNumber, a_wayKind, a_wayFirst, a_waySecond, a_dominatorSet, a_forwardSet, a_order, a_pendingForm, a_pendingBlock, a_codeForm, a_codeBlock, a_loopPlace, a_scopeEndPlace, a_elsePlace, a_registers, a_visitCounts, a_outNumbers) := by
  have l23 : ∀ d h n ds, h + d = 8 → d < n → (∀ b, b < 8 → ds b = rd_f T b h) → wX_studyDominators_23 post (rc T 0) f_loopSet f_mergeSet f_orderedSet f_orderedCount f_pendingCount f_codeLength f_outCount f_carriedCount f_lastOutcome n (nI h) a_actionKind a_actionNumber a_wayKind a_wayFirst a_waySecond ds a_forwardSet a_order a_pendingForm a_pendingBlock a_codeForm a_codeBlock a_loopPlace a_scopeEndPlace a_elsePlace a_registers a_visitCounts a_outNumbers := by
    intro d
    induction d with
    | zero =>
      intro h n ds hh hn hd
      obtain ⟨k, rfl⟩ : ∃ k, n = k + 1 := ⟨n - 1, by omega⟩
      obtain rfl : h = 8 := by omega
      exact br_t x8_t (hp ds hd)
    | succ d ih =>
      intro h n ds hh hn hd
      obtain ⟨k, rfl⟩ : ∃ k, n = k + 1 := ⟨n - 1, by omega⟩
      refine br_f (x8_f (by omega)) (xw_ro V K (m := rb_p h) ?_)
      rw [← hT]
      refine nm_e ⟨9, xw_sd46 (T := T) (h := h) (by omega) (fun ds' h' => ?_) 8 0 9 ds rfl (by decide) (fun b hb => absurd hb (Nat.not_lt_zero b)) (fun b hb _ => hd b hb)⟩
      rw [nI_1]
      exact ih (h + 1) k ds' (by omega) (by omega) h'
  have l2 : ∀ d i n ds, i + d = 8 → d < n → (∀ b, b < i → ds b = 0) → wX_studyDominators_2 post (rc T 0) f_loopSet f_mergeSet f_orderedSet f_orderedCount f_pendingCount f_codeLength f_outCount f_carriedCount f_lastOutcome n (nI i) a_actionKind a_actionNumber a_wayKind a_wayFirst a_waySecond ds a_forwardSet a_order a_pendingForm a_pendingBlock a_codeForm a_codeBlock a_loopPlace a_scopeEndPlace a_elsePlace a_registers a_visitCounts a_outNumbers := by
    intro d
    induction d with
    | zero =>
      intro i n ds hi hn hd
      obtain ⟨k, rfl⟩ : ∃ k, n = k + 1 := ⟨n - 1, by omega⟩
      obtain rfl : i = 8 := by omega
      exact br_t x8_t ⟨9, l23 8 0 9 ds rfl (by decide) (fun b hb => hd b hb)⟩
    | succ d ih =>
      intro i n ds hi hn hd
      obtain ⟨k, rfl⟩ : ∃ k, n = k + 1 := ⟨n - 1, by omega⟩
      have h8 : i < 8 := by omega
      refine br_f (x8_f h8) ⟨xw_in h8, nm_e (nm_r (nI_1 i) (ih (i + 1) k _ (by omega) (by omega) (fun b hb => ?_)))⟩
      rw [xw_c h8]
      by_cases e : b = i
      · rw [e, pk_us]
      · rw [pk_un e]
        exact hd b (by omega)
  exact ⟨9, l2 8 0 9 a_dominatorSet rfl (by decide) (fun b hb => absurd hb (Nat.not_lt_zero b))⟩
theorem xw_se (V : vw a_wayKind a_wayFirst a_waySecond kd fi se) (K : vk kd fi se) {T : Nat → Int32} (hT : T = tm kd fi se) {post : SX → Prop} (hd : ∀ b, b < 8 → a_dominatorSet b = rd T b)
    (hp : ∀ fs, (∀ b, b < 8 → fs b = rf T b) → post (rc T 0, rl T, rm T, f_orderedSet, f_orderedCount, f_pendingCount, f_codeLength, f_outCount, f_carriedCount, f_lastOutcome, a_actionKind, a_actionNumber, a_wayKind, a_wayFirst, a_waySecond, a_dominatorSet, fs, a_order, a_pendingForm, a_pendingBlock, a_codeForm, a_codeBlock, a_loopPlace, a_scopeEndPlace, a_elsePlace, a_registers, a_visitCounts, a_outNumbers)) : wpX_studyEdges post (rc T 0, f_loopSet, f_mergeSet, f_orderedSet, f_orderedCount, f_pendingCount, f_codeLength, f_outCount, f_carriedCount, f_lastOutcome, a_actionKind, a_actionNumber, a_wayKind, a_wayFirst, a_waySecond, a_dominatorSet, a_forwardSet, a_order, a_pendingForm, a_pendingBlock, a_codeForm, a_codeBlock, a_loopPlace, a_scopeEndPlace, a_elsePlace, a_registers, a_visitCounts, a_outNumbers) := by
  have l14 : ∀ d i n fs, i + d = 8 → d < n → (∀ b, b < i → fs b = rf T b) → wX_studyEdges_14 post (rc T 0) f_orderedSet f_orderedCount f_pendingCount f_codeLength f_outCount f_carriedCount f_lastOutcome n (rm_o T i) (nI i) (rl_f T i) (rm_f T i) a_actionKind a_actionNumber a_wayKind a_wayFirst a_waySecond a_dominatorSet fs a_order a_pendingForm a_pendingBlock a_codeForm a_codeBlock a_loopPlace a_scopeEndPlace a_elsePlace a_registers a_visitCounts a_outNumbers := by
    intro d
    induction d with
    | zero =>
      intro i n fs hi hn h
      obtain ⟨k, rfl⟩ : ∃ k, n = k + 1 := ⟨n - 1, by omega⟩
      obtain rfl : i = 8 := by omega
      exact br_t x8_t (hp fs h)
    | succ d ih =>
      intro i n fs hi hn h
      obtain ⟨k, rfl⟩ : ∃ k, n = k + 1 := ⟨n - 1, by omega⟩
      have h8 : i < 8 := by omega
      have hin := xw_in h8
      have l40 : ∀ z0, z0 = rg T i → wX_studyEdges_40 post (wX_studyEdges_14 post (rc T 0) f_orderedSet f_orderedCount f_pendingCount f_codeLength f_outCount f_carriedCount f_lastOutcome k) (rm_o T i) (nI i) z0 (rc T 0) (rl_f T i) (rm_f T i) f_orderedSet f_orderedCount f_pendingCount f_codeLength f_outCount f_carriedCount f_lastOutcome a_actionKind a_actionNumber a_wayKind a_wayFirst a_waySecond a_dominatorSet fs a_order a_pendingForm a_pendingBlock a_codeForm a_codeBlock a_loopPlace a_scopeEndPlace a_elsePlace a_registers a_visitCounts a_outNumbers := by
        intro z0 hz
        subst hz
        have c := xw_c h8
        have ef : rg T i &&& (a_dominatorSet (nI i).toNatClampNeg ^^^ (-1)) = rf T i := by
          rw [c, hd i h8]
          rfl
        unfold wX_studyEdges_40
        rw [ef]
        refine ⟨hin, nm_r (e' := rl_f T (i + 1)) (by rw [c, hd i h8]; rfl) ⟨hin, hin, nm_e ⟨hin, nm_r (e' := rm_f T (i + 1)) (by rw [pk_us]; rfl) ⟨hin, nm_r (e' := rm_o T (i + 1)) (by rw [pk_us]; rfl) (nm_r (nI_1 i) (ih (i + 1) k _ (by omega) (by omega) (fun b hb => ?_)))⟩⟩⟩⟩
        rw [c]
        by_cases e : b = i
        · rw [e, pk_us]
        · rw [pk_un e]
          exact h b (by omega)
      refine br_f (x8_f h8) (xw_has h8 (fun z => br_f x10 (xw_tgo V K h8 ?_)) (fun z => br_t rfl ?_))
      · apply l40
        unfold rg
        rw [if_pos z, hT]
      · apply l40
        unfold rg
        rw [if_neg (by rw [z]; decide)]
  exact ⟨9, l14 8 0 9 a_forwardSet rfl (by decide) (fun b hb => absurd hb (Nat.not_lt_zero b))⟩
theorem xw_rto {F : Nat → Int32} (hf : ∀ b, b < 8 → a_forwardSet b = F b) {post : Int32 → Prop} (hp : post (ka_r F f_liveSet f_orderedSet)) : wpX_readyToOrder post (f_liveSet, f_loopSet, f_mergeSet, f_orderedSet, f_orderedCount, f_pendingCount, f_codeLength, f_outCount, f_carriedCount, f_lastOutcome, a_actionKind, a_actionNumber, a_wayKind, a_wayFirst, a_waySecond, a_dominatorSet, a_forwardSet, a_order, a_pendingForm, a_pendingBlock, a_codeForm, a_codeBlock, a_loopPlace, a_scopeEndPlace, a_elsePlace, a_registers, a_visitCounts, a_outNumbers) := by
  have l : ∀ d i n, i + d = 8 → d < n → wX_readyToOrder_16 post (ka_w f_liveSet f_orderedSet) f_liveSet f_loopSet f_mergeSet f_orderedSet f_orderedCount f_pendingCount f_codeLength f_outCount f_carriedCount f_lastOutcome a_actionKind a_actionNumber a_wayKind a_wayFirst a_waySecond a_dominatorSet a_forwardSet a_order a_pendingForm a_pendingBlock a_codeForm a_codeBlock a_loopPlace a_scopeEndPlace a_elsePlace a_registers a_visitCounts a_outNumbers n (ka_h F (ka_w f_liveSet f_orderedSet) i) (nI i) := by
    intro d
    induction d with
    | zero =>
      intro i n hi hn
      obtain ⟨k, rfl⟩ : ∃ k, n = k + 1 := ⟨n - 1, by omega⟩
      obtain rfl : i = 8 := by omega
      exact br_t x8_t hp
    | succ d ih =>
      intro i n hi hn
      obtain ⟨k, rfl⟩ : ∃ k, n = k + 1 := ⟨n - 1, by omega⟩
      have h8 : i < 8 := by omega
      refine br_f (x8_f h8) (xw_has h8 (fun z => br_f x10 ⟨xw_in h8, nm_r (e' := ka_h F (ka_w f_liveSet f_orderedSet) (i + 1)) ?_ (nm_r (nI_1 i) (ih (i + 1) k (by omega) (by omega)))⟩) (fun z => br_t rfl ?_))
      · rw [xw_c h8, hf i h8]
        show _ = if _ then _ else _
        rw [if_pos z]
      · have e : ka_h F (ka_w f_liveSet f_orderedSet) i = ka_h F (ka_w f_liveSet f_orderedSet) (i + 1) := by
          show _ = if _ then _ else _
          rw [if_neg (by rw [z]; decide)]
        rw [e]
        exact nm_r (nI_1 i) (ih (i + 1) k (by omega) (by omega))
  exact nm_e ⟨9, l 8 0 9 rfl (by decide)⟩
end
