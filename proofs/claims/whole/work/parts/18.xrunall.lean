/-! run of the component, whole -/
/-- the registers at the beginning of a run -/
def rg0 (x y : Int32) : Nat → Int32 := upd (upd (fun _ => 0) 0 x) 1 y
section
variable {f_liveSet f_loopSet f_mergeSet f_orderedSet f_orderedCount f_pendingCount f_codeLength f_outCount f_carriedCount f_lastOutcome : Int32} {a_actionKind a_actionNumber a_wayKind a_wayFirst a_waySecond a_dominatorSet a_forwardSet a_order a_pendingForm a_pendingBlock a_codeForm a_codeBlock a_loopPlace a_scopeEndPlace a_elsePlace a_registers a_visitCounts a_outNumbers : Nat → Int32}
theorem xw_fr {post : SX → Prop} (hp : ∀ rs vc, (∀ i, i < 3 → rs i = 0) → (∀ i, i < 8 → vc i = 0) → post (f_liveSet, f_loopSet, f_mergeSet, f_orderedSet, f_orderedCount, f_pendingCount, f_codeLength, 0, 0, 0, a_actionKind, a_actionNumber, a_wayKind, a_wayFirst, a_waySecond, a_dominatorSet, a_forwardSet, a_order, a_pendingForm, a_pendingBlock, a_codeForm, a_codeBlock, a_loopPlace, a_scopeEndPlace, a_elsePlace, rs, vc, a_outNumbers)) : wpX_forgetRun post (f_liveSet, f_loopSet, f_mergeSet, f_orderedSet, f_orderedCount, f_pendingCount, f_codeLength, f_outCount, f_carriedCount, f_lastOutcome, a_actionKind, a_actionNumber, a_wayKind, a_wayFirst, a_waySecond, a_dominatorSet, a_forwardSet, a_order, a_pendingForm, a_pendingBlock, a_codeForm, a_codeBlock, a_loopPlace, a_scopeEndPlace, a_elsePlace, a_registers, a_visitCounts, a_outNumbers) := by
  have l22 : ∀ d i n rs vc, i + d = 8 → d < n → (∀ i, i < 3 → rs i = 0) → (∀ j, j < i → vc j = 0) → wX_forgetRun_22 post f_liveSet f_loopSet f_mergeSet f_orderedSet f_orderedCount f_pendingCount f_codeLength f_outCount f_carriedCount f_lastOutcome n (nI i) a_actionKind a_actionNumber a_wayKind a_wayFirst a_waySecond a_dominatorSet a_forwardSet a_order a_pendingForm a_pendingBlock a_codeForm a_codeBlock a_loopPlace a_scopeEndPlace a_elsePlace rs vc a_outNumbers := by
    intro d
    induction d with
    | zero =>
      intro i n rs vc hi hn h1 h2
      obtain ⟨k, rfl⟩ : ∃ k, n = k + 1 := ⟨n - 1, by omega⟩
      obtain rfl : i = 8 := by omega
      exact br_t x8_t (hp rs vc h1 h2)
    | succ d ih =>
      intro i n rs vc hi hn h1 h2
      obtain ⟨k, rfl⟩ : ∃ k, n = k + 1 := ⟨n - 1, by omega⟩
      have h8 : i < 8 := by omega
      refine br_f (x8_f h8) ⟨xw_in h8, nm_e (nm_r (nI_1 i) (ih (i + 1) k rs _ (by omega) (by omega) h1 (fun j hj => ?_)))⟩
      rw [xw_c h8]
      by_cases e : j = i
      · rw [e, pk_us]
      · rw [pk_un e]
        exact h2 j (by omega)
  have l2 : ∀ d i n rs, i + d = 3 → d < n → (∀ j, j < i → rs j = 0) → wX_forgetRun_2 post f_liveSet f_loopSet f_mergeSet f_orderedSet f_orderedCount f_pendingCount f_codeLength f_outCount f_carriedCount f_lastOutcome n (nI i) a_actionKind a_actionNumber a_wayKind a_wayFirst a_waySecond a_dominatorSet a_forwardSet a_order a_pendingForm a_pendingBlock a_codeForm a_codeBlock a_loopPlace a_scopeEndPlace a_elsePlace rs a_visitCounts a_outNumbers := by
    intro d
    induction d with
    | zero =>
      intro i n rs hi hn h1
      obtain ⟨k, rfl⟩ : ∃ k, n = k + 1 := ⟨n - 1, by omega⟩
      obtain rfl : i = 3 := by omega
      exact br_t (by decide) ⟨9, l22 8 0 9 rs a_visitCounts rfl (by decide) h1 (fun j hj => absurd hj (Nat.not_lt_zero j))⟩
    | succ d ih =>
      intro i n rs hi hn h1
      obtain ⟨k, rfl⟩ : ∃ k, n = k + 1 := ⟨n - 1, by omega⟩
      refine br_f (nI_ge (b := 3) (by omega) (by decide)) ⟨vp_in_nI (by omega) (by decide), nm_e (nm_r (nI_1 i) (ih (i + 1) k _ (by omega) (by omega) (fun j hj => ?_)))⟩
      rw [nI_clamp (by omega)]
      by_cases e : j = i
      · rw [e, pk_us]
      · rw [pk_un e]
        exact h1 j (by omega)
  exact ⟨4, l2 3 0 4 a_registers rfl (by decide) (fun j hj => absurd hj (Nat.not_lt_zero j))⟩
theorem xw_run {kd fi se : Nat → Nat} (V : vw a_wayKind a_wayFirst a_waySecond kd fi se) (K : vk kd fi se) {ac : Nat → Nat} (VA : va a_actionKind a_actionNumber ac) (SH : shp (tm kd fi se) f_liveSet f_loopSet f_mergeSet f_orderedSet f_orderedCount a_dominatorSet a_order) (hreg : f_orderedSet = f_liveSet)
    {post : Int32 → SX → Prop} {x y : Int32}
    (hp : ∀ pc cl pf pb cf cb lp sp el rs vc on, (∀ i, i < 3 → rs i = (pu ac a_actionNumber kd fi se 80 0 (rg0 x y) [] (fun _ => 0) 0).1 i) → (∀ i, i < 8 → vc i = (pu ac a_actionNumber kd fi se 80 0 (rg0 x y) [] (fun _ => 0) 0).2.2.1 i) → ouX on (pu ac a_actionNumber kd fi se 80 0 (rg0 x y) [] (fun _ => 0) 0).2.1 →
      post (nI (pu ac a_actionNumber kd fi se 80 0 (rg0 x y) [] (fun _ => 0) 0).2.2.2.2) (f_liveSet, f_loopSet, f_mergeSet, f_orderedSet, f_orderedCount, pc, cl, nI (pu ac a_actionNumber kd fi se 80 0 (rg0 x y) [] (fun _ => 0) 0).2.1.length, nI (pu ac a_actionNumber kd fi se 80 0 (rg0 x y) [] (fun _ => 0) 0).2.2.2.1, nI (pu ac a_actionNumber kd fi se 80 0 (rg0 x y) [] (fun _ => 0) 0).2.2.2.2, a_actionKind, a_actionNumber, a_wayKind, a_wayFirst, a_waySecond, a_dominatorSet, a_forwardSet, a_order, pf, pb, cf, cb, lp, sp, el, rs, vc, on)) :
    wpX_run post (f_liveSet, f_loopSet, f_mergeSet, f_orderedSet, f_orderedCount, f_pendingCount, f_codeLength, f_outCount, f_carriedCount, f_lastOutcome, a_actionKind, a_actionNumber, a_wayKind, a_wayFirst, a_waySecond, a_dominatorSet, a_forwardSet, a_order, a_pendingForm, a_pendingBlock, a_codeForm, a_codeBlock, a_loopPlace, a_scopeEndPlace, a_elsePlace, a_registers, a_visitCounts, a_outNumbers) x y := by
  have tl := tg_lo K
  obtain ⟨s1, s2, s3, s4, s5, ol, s6, s7, s8⟩ := SH
  have OK : olk (tm kd fi se) ol := by
    refine ⟨s8.1, fun c => ?_⟩
    rw [s8.2, ← s4, hreg, s1]
    exact rv_iff tl c
  unfold wpX_run
  refine br_t hreg (br_f x10 (xw_wc V K (T := tm kd fi se) rfl s3 s5 s2 s6 s7 OK (fun pc pf pb cf cb lp sp el A c1 c2 c3 c4 c5 c6 c7 c8 => ?_)))
  refine xw_fr (fun rs vc r1 r2 => nm_e (nm_e ⟨8100, ?_⟩))
  have AL := sh_all K (T := tm kd fi se) rfl c5 c7
  have L78 := (lk_I_n _ _ _ _ _ _ _ _ (sh_H K (T := tm kd fi se) rfl OK) c5).2
  refine xs_sim V K (T := tm kd fi se) rfl OK VA c1 L78 c2 c3 c4 c7 c5 AL 80 0 0 (rg0 x y) [] (fun _ => 0) 8100 0 0 _ vc _ rfl rv_0 c8 (by decide) (by decide) (Nat.le_refl 0) ?_ r2 trivial (fun rs' vc' on' q1 q2 q3 => hp _ _ _ _ _ _ _ _ _ rs' vc' on' q1 q2 q3)
  exact up_w (up_w (fun i hi => r1 i hi) rfl) rfl
theorem xw_runb {post : Int32 → SX → Prop} {x y : Int32} (hreg : ¬ f_orderedSet = f_liveSet) (hp : post (-1) (f_liveSet, f_loopSet, f_mergeSet, f_orderedSet, f_orderedCount, f_pendingCount, f_codeLength, f_outCount, f_carriedCount, f_lastOutcome, a_actionKind, a_actionNumber, a_wayKind, a_wayFirst, a_waySecond, a_dominatorSet, a_forwardSet, a_order, a_pendingForm, a_pendingBlock, a_codeForm, a_codeBlock, a_loopPlace, a_scopeEndPlace, a_elsePlace, a_registers, a_visitCounts, a_outNumbers)) : wpX_run post (f_liveSet, f_loopSet, f_mergeSet, f_orderedSet, f_orderedCount, f_pendingCount, f_codeLength, f_outCount, f_carriedCount, f_lastOutcome, a_actionKind, a_actionNumber, a_wayKind, a_wayFirst, a_waySecond, a_dominatorSet, a_forwardSet, a_order, a_pendingForm, a_pendingBlock, a_codeForm, a_codeBlock, a_loopPlace, a_scopeEndPlace, a_elsePlace, a_registers, a_visitCounts, a_outNumbers) x y := by
  unfold wpX_run
  exact br_f hreg (br_t rfl hp)
end
