/-! the relation, and what is owed -/
def rE (lv lo me os oc ou cc lc : Int32) (ak an wk wf ws ds od rs vc on : Nat → Int32) (cm sd dn : Int32) (acs nu wa f1 s2 rg la oft : Nat → Int32) : Prop :=
  ∃ (kd fi se ac : Nat → Nat) (l : List Int32), vk kd fi se ∧ vw wk wf ws kd fi se ∧ vw wa f1 s2 kd fi se ∧ va ak an ac ∧ ak = acs ∧ an = nu ∧ shp (tm kd fi se) lv lo me os oc ds od ∧
    lc = cm ∧ ou = nI l.length ∧ sd = nI l.length ∧ l.length ≤ 80 ∧ ouX on l ∧ ouY la l ∧ cc = dn ∧ (∀ i, i < 3 → rs i = rg i) ∧ (∀ i, i < 8 → vc i = oft i)
def i_Rel (_k : Nat) (u : SX) (v : SY) : Prop := match u with
  | (f_liveSet, f_loopSet, f_mergeSet, f_orderedSet, f_orderedCount, f_pendingCount, f_codeLength, f_outCount, f_carriedCount, f_lastOutcome, a_actionKind, a_actionNumber, a_wayKind, a_wayFirst, a_waySecond, a_dominatorSet, a_forwardSet, a_order, a_pendingForm, a_pendingBlock, a_codeForm, a_codeBlock, a_loopPlace, a_scopeEndPlace, a_elsePlace, a_registers, a_visitCounts, a_outNumbers) => match v with
    | (f_came, f_said, f_done, a_acts, a_numbers, a_ways, a_first, a_second, a_over, a_reg, a_last, a_often) => rE f_liveSet f_loopSet f_mergeSet f_orderedSet f_orderedCount f_outCount f_carriedCount f_lastOutcome a_actionKind a_actionNumber a_wayKind a_wayFirst a_waySecond a_dominatorSet a_order a_registers a_visitCounts a_outNumbers f_came f_said f_done a_acts a_numbers a_ways a_first a_second a_reg a_last a_often
theorem i_up {k : Nat} {u : SX} {v : SY} (h : i_Rel k u v) : i_Rel (k + 5) u v := h
def fu (f : Nat → Nat) (b x : Nat) : Nat → Nat := fun j => if j = b then x else f j
theorem fu_s {f : Nat → Nat} {b x : Nat} : fu f b x b = x := if_pos rfl
theorem fu_n {f : Nat → Nat} {b x j : Nat} (h : j ≠ b) : fu f b x j = f j := if_neg h
theorem vk_u {kd fi se : Nat → Nat} (K : vk kd fi se) {b k x y : Nat} (h4 : k ≤ 4) (hx : k ≠ 0 → x < 8) (hy : 2 ≤ k → y < 8) : vk (fu kd b k) (fu fi b x) (fu se b y) := by
  intro j hj
  by_cases e : j = b
  · subst e
    rw [fu_s, fu_s, fu_s]
    exact ⟨h4, hx, hy⟩
  · rw [fu_n e, fu_n e, fu_n e]
    exact K j hj
theorem vw_u {wk wf ws : Nat → Int32} {kd fi se : Nat → Nat} (V : vw wk wf ws kd fi se) {b k x y : Nat} {vx vy : Int32} (hx : k ≠ 0 → vx = nI x) (hy : 2 ≤ k → vy = nI y) : vw (upd wk b (nI k)) (upd wf b vx) (upd ws b vy) (fu kd b k) (fu fi b x) (fu se b y) := by
  intro j hj
  by_cases e : j = b
  · subst e
    rw [fu_s, fu_s, fu_s, pk_us, pk_us, pk_us]
    exact ⟨rfl, hx, hy⟩
  · rw [fu_n e, fu_n e, fu_n e, pk_un e, pk_un e, pk_un e]
    exact V j hj
theorem va_u {ak an : Nat → Int32} {ac : Nat → Nat} (VA : va ak an ac) {b k : Nat} {v : Int32} (h9 : k ≤ 9) (h7 : 7 ≤ k → ∃ j, j < 3 ∧ v = nI j) : va (upd ak b (nI k)) (upd an b v) (fu ac b k) := by
  intro j hj
  by_cases e : j = b
  · subst e
    rw [fu_s, pk_us, pk_us]
    exact ⟨rfl, h9, h7⟩
  · rw [fu_n e, pk_un e, pk_un e]
    exact VA j hj
theorem pu_len (ac : Nat → Nat) (an : Nat → Int32) (kd fi se : Nat → Nat) : ∀ fl b rg os vs k, (pu ac an kd fi se fl b rg os vs k).2.1.length ≤ os.length + fl := by
  intro fl
  induction fl with
  | zero => exact fun b rg os vs k => Nat.le_refl _
  | succ fl ih =>
    intro b rg os vs k
    have a := pu_ol ac b rg os
    by_cases k0 : kd b = 0
    · rw [pu_z _ _ _ _ _ _ _ _ _ _ _ k0]
      show (pu_os ac b rg os).length ≤ _
      omega
    · rw [pu_s _ _ _ _ _ _ _ _ _ _ _ k0]
      have c := ih (pu_nx kd fi se b (pu_rg ac an b rg)) (pu_rg ac an b rg) (pu_os ac b rg os) (pu_vs b vs) (k + 1)
      omega
theorem sh_reg {kd fi se : Nat → Nat} (K : vk kd fi se) : ka (rf (tm kd fi se)) (rc (tm kd fi se) 0) 8 = rc (tm kd fi se) 0 ↔ rgn (rf (tm kd fi se)) 8 = false := by
  have tl := tg_lo K
  rw [rgn_f]
  refine ka_iff (fun b hb => rf_lo tl hb) (rc_cl tl 0).1 (fun b hb h => ?_)
  unfold rf rg
  rw [if_neg (by rw [h]; decide), Int32.zero_and]
theorem xw_blk {post : Int32 → Prop} {j : Nat} (hj : j < 8) (h : post 1) : wpX_isBlock post (nI j) := br_f (xn_f hj) (br_f (x8_f hj) h)
theorem xw_nblk {post : Int32 → Prop} {x : Int32} (hx : x < 0 ∨ nI 8 ≤ x) (h : post 0) : wpX_isBlock post x := by
  rcases hx with z | z
  · exact br_t z h
  · exact br_f (x8_n z) (br_t z h)
theorem x8_c (x : Int32) : (x < 0 ∨ nI 8 ≤ x) ∨ ∃ j : Nat, j < 8 ∧ x = nI j := by
  rcases pk_ix x (n := 8) (by decide) with z | z | z
  · exact Or.inl (Or.inl z)
  · exact Or.inl (Or.inr z)
  · exact Or.inr z
theorem x3_n {x : Int32} (h : nI 3 ≤ x) : ¬ x < 0 := fun z => absurd (Int32.lt_of_le_of_lt h z) (by decide)
theorem x3_2 {x : Int32} (h : nI 3 ≤ x) : (2 : Int32) < x := Int32.lt_of_lt_of_le (by decide : (2 : Int32) < nI 3) h
theorem i_vc0 : wpX_init (fun u => wpY_init (fun v => i_Rel 0 u v)) := by
  have K : vk (fun _ => 0) (fun _ => 0) (fun _ => 0) := fun b _ => ⟨Nat.zero_le 4, fun z => absurd rfl z, fun z => absurd z (by decide : ¬ 2 ≤ 0)⟩
  have V : vw (fun _ => 0) (fun _ => 0) (fun _ => 0) (fun _ => 0) (fun _ => 0) (fun _ => 0) := fun b _ => ⟨rfl, fun z => absurd rfl z, fun z => absurd z (by decide : ¬ 2 ≤ 0)⟩
  unfold wpX_init
  refine xw_ss V K rfl (fun lv lo me os oc ds fs od h => ?_)
  exact ⟨fun _ => 0, fun _ => 0, fun _ => 0, fun _ => 0, [], K, V, V, fun b _ => ⟨rfl, Nat.zero_le 9, fun z => absurd z (by decide : ¬ 7 ≤ 0)⟩, rfl, rfl, h, rfl, rfl, rfl, Nat.zero_le 80, trivial, fun k _ hk => absurd hk (Nat.not_lt_zero k), rfl, fun _ _ => rfl, fun _ _ => rfl⟩
theorem i_vc_live {k : Nat} {u : SX} {v : SY} (I : i_Rel k u v) (hk : k + 5 ≤ 2560) : wpX_live (fun r => wpY_live (fun r' => r' = r ∧ i_Rel (k + 5) u v) v) u := by
  obtain ⟨f_liveSet, f_loopSet, f_mergeSet, f_orderedSet, f_orderedCount, f_pendingCount, f_codeLength, f_outCount, f_carriedCount, f_lastOutcome, a_actionKind, a_actionNumber, a_wayKind, a_wayFirst, a_waySecond, a_dominatorSet, a_forwardSet, a_order, a_pendingForm, a_pendingBlock, a_codeForm, a_codeBlock, a_loopPlace, a_scopeEndPlace, a_elsePlace, a_registers, a_visitCounts, a_outNumbers⟩ := u
  obtain ⟨f_came, f_said, f_done, a_acts, a_numbers, a_ways, a_first, a_second, a_over, a_reg, a_last, a_often⟩ := v
  obtain ⟨kd, fi, se, ac, l, K, VX, VY, VA, rfl, rfl, SH, rfl, rfl, rfl, hl, hX, hY, rfl, hr, hv⟩ := I
  obtain ⟨s1, s2, s3, s4, s5, s6⟩ := SH
  refine yw_live VY K ⟨s1.symm, ?_⟩
  exact ⟨kd, fi, se, ac, l, K, VX, VY, VA, rfl, rfl, ⟨s1, s2, s3, s4, s5, s6⟩, rfl, rfl, rfl, hl, hX, hY, rfl, hr, hv⟩
theorem i_vc_dominators {k : Nat} {u : SX} {v : SY} (I : i_Rel k u v) (hk : k + 5 ≤ 2560) (v1 : Int32) : wpX_dominators (fun r => wpY_dominators (fun r' => r' = r ∧ i_Rel (k + 5) u v) v v1) u v1 := by
  obtain ⟨f_liveSet, f_loopSet, f_mergeSet, f_orderedSet, f_orderedCount, f_pendingCount, f_codeLength, f_outCount, f_carriedCount, f_lastOutcome, a_actionKind, a_actionNumber, a_wayKind, a_wayFirst, a_waySecond, a_dominatorSet, a_forwardSet, a_order, a_pendingForm, a_pendingBlock, a_codeForm, a_codeBlock, a_loopPlace, a_scopeEndPlace, a_elsePlace, a_registers, a_visitCounts, a_outNumbers⟩ := u
  obtain ⟨f_came, f_said, f_done, a_acts, a_numbers, a_ways, a_first, a_second, a_over, a_reg, a_last, a_often⟩ := v
  obtain ⟨kd, fi, se, ac, l, K, VX, VY, VA, rfl, rfl, SH, rfl, rfl, rfl, hl, hX, hY, rfl, hr, hv⟩ := I
  have R := SH
  obtain ⟨s1, s2, s3, s4, s5, s6⟩ := SH
  unfold wpX_dominators
  dsimp only
  rcases x8_c v1 with z | ⟨j, j8, rfl⟩
  · exact xw_nblk z (br_t rfl (yw_domn VY K z ⟨rfl, kd, fi, se, ac, l, K, VX, VY, VA, rfl, rfl, R, rfl, rfl, rfl, hl, hX, hY, rfl, hr, hv⟩))
  · refine xw_blk j8 (br_f x10 ⟨xw_in j8, ?_⟩)
    rw [xw_c j8, s5 j j8]
    exact yw_dom VY K j8 ⟨rfl, kd, fi, se, ac, l, K, VX, VY, VA, rfl, rfl, R, rfl, rfl, rfl, hl, hX, hY, rfl, hr, hv⟩
theorem i_vc_regular {k : Nat} {u : SX} {v : SY} (I : i_Rel k u v) (hk : k + 5 ≤ 2560) : wpX_regular (fun r => wpY_regular (fun r' v' => r' = r ∧ i_Rel (k + 5) u v') v) u := by
  obtain ⟨f_liveSet, f_loopSet, f_mergeSet, f_orderedSet, f_orderedCount, f_pendingCount, f_codeLength, f_outCount, f_carriedCount, f_lastOutcome, a_actionKind, a_actionNumber, a_wayKind, a_wayFirst, a_waySecond, a_dominatorSet, a_forwardSet, a_order, a_pendingForm, a_pendingBlock, a_codeForm, a_codeBlock, a_loopPlace, a_scopeEndPlace, a_elsePlace, a_registers, a_visitCounts, a_outNumbers⟩ := u
  obtain ⟨f_came, f_said, f_done, a_acts, a_numbers, a_ways, a_first, a_second, a_over, a_reg, a_last, a_often⟩ := v
  obtain ⟨kd, fi, se, ac, l, K, VX, VY, VA, rfl, rfl, SH, rfl, rfl, rfl, hl, hX, hY, rfl, hr, hv⟩ := I
  have R := SH
  obtain ⟨s1, s2, s3, s4, s5, s6⟩ := SH
  have q := sh_reg K
  rw [← s4, ← s1] at q
  refine br_c (fun z => ?_) (fun z => ?_)
  · exact yw_reg VY K (fun y => absurd (q.mp z) (by rw [y]; decide)) (fun _ ov => ⟨rfl, kd, fi, se, ac, l, K, VX, VY, VA, rfl, rfl, R, rfl, rfl, rfl, hl, hX, hY, rfl, hr, hv⟩)
  · exact yw_reg VY K (fun _ ov => ⟨rfl, kd, fi, se, ac, l, K, VX, VY, VA, rfl, rfl, R, rfl, rfl, rfl, hl, hX, hY, rfl, hr, hv⟩) (fun y => absurd (q.mpr y) z)
theorem i_vc_loops {k : Nat} {u : SX} {v : SY} (I : i_Rel k u v) (hk : k + 5 ≤ 2560) : wpX_loops (fun r => wpY_loops (fun r' v' => r' = r ∧ i_Rel (k + 5) u v') v) u := by
  obtain ⟨f_liveSet, f_loopSet, f_mergeSet, f_orderedSet, f_orderedCount, f_pendingCount, f_codeLength, f_outCount, f_carriedCount, f_lastOutcome, a_actionKind, a_actionNumber, a_wayKind, a_wayFirst, a_waySecond, a_dominatorSet, a_forwardSet, a_order, a_pendingForm, a_pendingBlock, a_codeForm, a_codeBlock, a_loopPlace, a_scopeEndPlace, a_elsePlace, a_registers, a_visitCounts, a_outNumbers⟩ := u
  obtain ⟨f_came, f_said, f_done, a_acts, a_numbers, a_ways, a_first, a_second, a_over, a_reg, a_last, a_often⟩ := v
  obtain ⟨kd, fi, se, ac, l, K, VX, VY, VA, rfl, rfl, SH, rfl, rfl, rfl, hl, hX, hY, rfl, hr, hv⟩ := I
  have R := SH
  obtain ⟨s1, s2, s3, s4, s5, s6⟩ := SH
  exact yw_lps VY K (fun ov => ⟨s2.symm, kd, fi, se, ac, l, K, VX, VY, VA, rfl, rfl, R, rfl, rfl, rfl, hl, hX, hY, rfl, hr, hv⟩)
theorem i_vc_merges {k : Nat} {u : SX} {v : SY} (I : i_Rel k u v) (hk : k + 5 ≤ 2560) : wpX_merges (fun r => wpY_merges (fun r' v' => r' = r ∧ i_Rel (k + 5) u v') v) u := by
  obtain ⟨f_liveSet, f_loopSet, f_mergeSet, f_orderedSet, f_orderedCount, f_pendingCount, f_codeLength, f_outCount, f_carriedCount, f_lastOutcome, a_actionKind, a_actionNumber, a_wayKind, a_wayFirst, a_waySecond, a_dominatorSet, a_forwardSet, a_order, a_pendingForm, a_pendingBlock, a_codeForm, a_codeBlock, a_loopPlace, a_scopeEndPlace, a_elsePlace, a_registers, a_visitCounts, a_outNumbers⟩ := u
  obtain ⟨f_came, f_said, f_done, a_acts, a_numbers, a_ways, a_first, a_second, a_over, a_reg, a_last, a_often⟩ := v
  obtain ⟨kd, fi, se, ac, l, K, VX, VY, VA, rfl, rfl, SH, rfl, rfl, rfl, hl, hX, hY, rfl, hr, hv⟩ := I
  have R := SH
  obtain ⟨s1, s2, s3, s4, s5, s6⟩ := SH
  exact yw_mer VY K (fun ov => ⟨s3.symm, kd, fi, se, ac, l, K, VX, VY, VA, rfl, rfl, R, rfl, rfl, rfl, hl, hX, hY, rfl, hr, hv⟩)
theorem i_vc_act {k : Nat} {u : SX} {v : SY} (I : i_Rel k u v) (hk : k + 5 ≤ 2560) (v1 : Int32) (v2 : Int32) (v3 : Int32) : wpX_act (fun r u' => wpY_act (fun r' v' => r' = r ∧ i_Rel (k + 5) u' v') v v1 v2 v3) u v1 v2 v3 := by
  obtain ⟨f_liveSet, f_loopSet, f_mergeSet, f_orderedSet, f_orderedCount, f_pendingCount, f_codeLength, f_outCount, f_carriedCount, f_lastOutcome, a_actionKind, a_actionNumber, a_wayKind, a_wayFirst, a_waySecond, a_dominatorSet, a_forwardSet, a_order, a_pendingForm, a_pendingBlock, a_codeForm, a_codeBlock, a_loopPlace, a_scopeEndPlace, a_elsePlace, a_registers, a_visitCounts, a_outNumbers⟩ := u
  obtain ⟨f_came, f_said, f_done, a_acts, a_numbers, a_ways, a_first, a_second, a_over, a_reg, a_last, a_often⟩ := v
  obtain ⟨kd, fi, se, ac, l, K, VX, VY, VA, rfl, rfl, SH, rfl, rfl, rfl, hl, hX, hY, rfl, hr, hv⟩ := I
  have R : rE f_liveSet f_loopSet f_mergeSet f_orderedSet f_orderedCount (nI l.length) f_carriedCount f_lastOutcome a_actionKind a_actionNumber a_wayKind a_wayFirst a_waySecond a_dominatorSet a_order a_registers a_visitCounts a_outNumbers f_lastOutcome (nI l.length) f_carriedCount a_actionKind a_actionNumber a_ways a_first a_second a_reg a_last a_often := ⟨kd, fi, se, ac, l, K, VX, VY, VA, rfl, rfl, SH, rfl, rfl, rfl, hl, hX, hY, rfl, hr, hv⟩
  unfold wpX_act
  dsimp only
  rcases x8_c v1 with z | ⟨b, b8, rfl⟩
  · exact xw_nblk z (br_t rfl (by unfold wpY_act; exact yw_nblk z (br_t rfl ⟨rfl, R⟩)))
  · refine xw_blk b8 (br_f x10 ?_)
    rcases pk_ix v2 (n := 10) (by decide) with z | z | ⟨kk, k10, rfl⟩
    · exact br_t z (by unfold wpY_act; exact yw_blk b8 (br_f x10 (br_t z ⟨rfl, R⟩)))
    · have z0 : ¬ v2 < 0 := fun w => absurd (Int32.lt_of_le_of_lt z w) (by decide)
      have z9 : (9 : Int32) < v2 := Int32.lt_of_lt_of_le (by decide : (9 : Int32) < nI 10) z
      exact br_f z0 (br_f (Int32.not_le.mpr z9) (by unfold wpY_act; exact yw_blk b8 (br_f x10 (br_f z0 (br_t z9 ⟨rfl, R⟩)))))
    · have z0 : ¬ nI kk < 0 := nI_pos (by omega)
      have z9 : ¬ (9 : Int32) < nI kk := nI_nlt (a := 9) (by omega) (by decide)
      have z9' : nI kk ≤ 9 := nI_le (b := 9) (by omega) (by decide)
      have hin := xw_in b8
      have ok : (7 ≤ kk → ∃ j, j < 3 ∧ v3 = nI j) → wX_act_34 (fun r u' => wpY_act (fun r' v' => r' = r ∧ i_Rel (k + 5) u' v') (f_lastOutcome, nI l.length, f_carriedCount, a_actionKind, a_actionNumber, a_ways, a_first, a_second, a_over, a_reg, a_last, a_often) (nI b) (nI kk) v3) (nI b) (nI kk) v3 f_liveSet f_loopSet f_mergeSet f_orderedSet f_orderedCount f_pendingCount f_codeLength (nI l.length) f_carriedCount f_lastOutcome a_actionKind a_actionNumber a_wayKind a_wayFirst a_waySecond a_dominatorSet a_forwardSet a_order a_pendingForm a_pendingBlock a_codeForm a_codeBlock a_loopPlace a_scopeEndPlace a_elsePlace a_registers a_visitCounts a_outNumbers := by
        intro h7
        have VA' := va_u (b := b) (v := v3) VA (by omega : kk ≤ 9) h7
        refine ⟨hin, nm_e ⟨hin, nm_e ?_⟩⟩
        rw [xw_c b8]
        unfold wpY_act
        refine yw_blk b8 (br_f x10 (br_f z0 (br_f z9 ?_)))
        have fin : wY_act_35 (fun r' v' => r' = 1 ∧ i_Rel (k + 5) (f_liveSet, f_loopSet, f_mergeSet, f_orderedSet, f_orderedCount, f_pendingCount, f_codeLength, nI l.length, f_carriedCount, f_lastOutcome, upd a_actionKind b (nI kk), upd a_actionNumber b v3, a_wayKind, a_wayFirst, a_waySecond, a_dominatorSet, a_forwardSet, a_order, a_pendingForm, a_pendingBlock, a_codeForm, a_codeBlock, a_loopPlace, a_scopeEndPlace, a_elsePlace, a_registers, a_visitCounts, a_outNumbers) v') (nI b) (nI kk) v3 f_lastOutcome (nI l.length) f_carriedCount a_actionKind a_actionNumber a_ways a_first a_second a_over a_reg a_last a_often := by
          refine ⟨hin, nm_e ⟨hin, nm_e ?_⟩⟩
          rw [xw_c b8]
          exact ⟨rfl, kd, fi, se, fu ac b kk, l, K, VX, VY, VA', rfl, rfl, SH, rfl, rfl, rfl, hl, hX, hY, rfl, hr, hv⟩
        by_cases k7 : 7 ≤ kk
        · obtain ⟨j, j3, rfl⟩ := h7 k7
          exact br_f (nI_nlt (b := 7) k7 (by omega)) (br_f (nI_pos (by omega)) (br_t (nI_le (b := 2) (by omega) (by decide)) fin))
        · exact br_t (nI_lt (b := 7) (by omega) (by decide)) fin
      refine br_f z0 (br_t z9' ?_)
      by_cases k7 : 7 ≤ kk
      · have n7 : ¬ nI kk < 7 := nI_nlt (b := 7) k7 (by omega)
        refine br_f n7 ?_
        rcases pk_ix v3 (n := 3) (by decide) with z | z | ⟨j, j3, rfl⟩
        · exact br_t z (br_t rfl (by unfold wpY_act; exact yw_blk b8 (br_f x10 (br_f z0 (br_f z9 (br_f n7 (br_t z ⟨rfl, R⟩)))))))
        · exact br_f (x3_n z) (br_t z (br_t rfl (by unfold wpY_act; exact yw_blk b8 (br_f x10 (br_f z0 (br_f z9 (br_f n7 (br_f (x3_n z) (br_f (Int32.not_le.mpr (x3_2 z)) ⟨rfl, R⟩)))))))))
        · exact br_f (nI_pos (by omega)) (br_f (nI_ge (b := 3) j3 (by decide)) (br_f x10 (ok (fun _ => ⟨j, j3, rfl⟩))))
      · exact br_t (nI_lt (b := 7) (by omega) (by decide)) (ok (fun z => absurd z k7))
theorem i_vc_way {k : Nat} {u : SX} {v : SY} (I : i_Rel k u v) (hk : k + 5 ≤ 2560) (v1 : Int32) (v2 : Int32) (v3 : Int32) (v4 : Int32) : wpX_way (fun r u' => wpY_way (fun r' v' => r' = r ∧ i_Rel (k + 5) u' v') v v1 v2 v3 v4) u v1 v2 v3 v4 := by
  obtain ⟨f_liveSet, f_loopSet, f_mergeSet, f_orderedSet, f_orderedCount, f_pendingCount, f_codeLength, f_outCount, f_carriedCount, f_lastOutcome, a_actionKind, a_actionNumber, a_wayKind, a_wayFirst, a_waySecond, a_dominatorSet, a_forwardSet, a_order, a_pendingForm, a_pendingBlock, a_codeForm, a_codeBlock, a_loopPlace, a_scopeEndPlace, a_elsePlace, a_registers, a_visitCounts, a_outNumbers⟩ := u
  obtain ⟨f_came, f_said, f_done, a_acts, a_numbers, a_ways, a_first, a_second, a_over, a_reg, a_last, a_often⟩ := v
  obtain ⟨kd, fi, se, ac, l, K, VX, VY, VA, rfl, rfl, SH, rfl, rfl, rfl, hl, hX, hY, rfl, hr, hv⟩ := I
  have R : rE f_liveSet f_loopSet f_mergeSet f_orderedSet f_orderedCount (nI l.length) f_carriedCount f_lastOutcome a_actionKind a_actionNumber a_wayKind a_wayFirst a_waySecond a_dominatorSet a_order a_registers a_visitCounts a_outNumbers f_lastOutcome (nI l.length) f_carriedCount a_actionKind a_actionNumber a_ways a_first a_second a_reg a_last a_often := ⟨kd, fi, se, ac, l, K, VX, VY, VA, rfl, rfl, SH, rfl, rfl, rfl, hl, hX, hY, rfl, hr, hv⟩
  unfold wpX_way
  dsimp only
  rcases x8_c v1 with z | ⟨b, b8, rfl⟩
  · exact xw_nblk z (br_t rfl (by unfold wpY_way; exact yw_nblk z (br_t rfl ⟨rfl, R⟩)))
  · refine xw_blk b8 (br_f x10 ?_)
    rcases pk_ix v2 (n := 5) (by decide) with z | z | ⟨kk, k5, rfl⟩
    · exact br_t z (by unfold wpY_way; exact yw_blk b8 (br_f x10 (br_t z ⟨rfl, R⟩)))
    · have z0 : ¬ v2 < 0 := fun w => absurd (Int32.lt_of_le_of_lt z w) (by decide)
      have z9 : (4 : Int32) < v2 := Int32.lt_of_lt_of_le (by decide : (4 : Int32) < nI 5) z
      exact br_f z0 (br_f (Int32.not_le.mpr z9) (by unfold wpY_way; exact yw_blk b8 (br_f x10 (br_f z0 (br_t z9 ⟨rfl, R⟩)))))
    · have z0 : ¬ nI kk < 0 := nI_pos (by omega)
      have z9 : ¬ (4 : Int32) < nI kk := nI_nlt (a := 4) (by omega) (by decide)
      have z9' : nI kk ≤ 4 := nI_le (b := 4) (by omega) (by decide)
      have hin := xw_in b8
      have ok : (kk ≠ 0 → ∃ j, j < 8 ∧ v3 = nI j) → (2 ≤ kk → ∃ j, j < 8 ∧ v4 = nI j) → wX_way_47 (fun r u' => wpY_way (fun r' v' => r' = r ∧ i_Rel (k + 5) u' v') (f_lastOutcome, nI l.length, f_carriedCount, a_actionKind, a_actionNumber, a_ways, a_first, a_second, a_over, a_reg, a_last, a_often) (nI b) (nI kk) v3 v4) (nI b) (nI kk) v3 v4 f_liveSet f_loopSet f_mergeSet f_orderedSet f_orderedCount f_pendingCount f_codeLength (nI l.length) f_carriedCount f_lastOutcome a_actionKind a_actionNumber a_wayKind a_wayFirst a_waySecond a_dominatorSet a_forwardSet a_order a_pendingForm a_pendingBlock a_codeForm a_codeBlock a_loopPlace a_scopeEndPlace a_elsePlace a_registers a_visitCounts a_outNumbers := by
        intro h1 h2
        have c1 : kk ≠ 0 → v3 = nI v3.toNatClampNeg ∧ v3.toNatClampNeg < 8 := by
          intro y
          obtain ⟨j, j8, rfl⟩ := h1 y
          rw [xw_c j8]
          exact ⟨rfl, j8⟩
        have c2 : 2 ≤ kk → v4 = nI v4.toNatClampNeg ∧ v4.toNatClampNeg < 8 := by
          intro y
          obtain ⟨j, j8, rfl⟩ := h2 y
          rw [xw_c j8]
          exact ⟨rfl, j8⟩
        have K' : vk (fu kd b kk) (fu fi b v3.toNatClampNeg) (fu se b v4.toNatClampNeg) := vk_u K (by omega) (fun y => (c1 y).2) (fun y => (c2 y).2)
        have VX' := vw_u (b := b) VX (fun y => (c1 y).1) (fun y => (c2 y).1)
        refine ⟨hin, nm_r (e' := upd a_wayKind b (nI kk)) (by rw [xw_c b8]) ⟨hin, nm_r (e' := upd a_wayFirst b v3) (by rw [xw_c b8]) ⟨hin, nm_r (e' := upd a_waySecond b v4) (by rw [xw_c b8]) ?_⟩⟩⟩
        refine xw_ss VX' K' rfl (fun lv lo me os oc ds fs od SH' => ?_)
        have fin : ∀ f1 s2, (kk ≠ 0 → f1 = v3) → (2 ≤ kk → s2 = v4) → i_Rel (k + 5) (lv, lo, me, os, oc, f_pendingCount, f_codeLength, nI l.length, f_carriedCount, f_lastOutcome, a_actionKind, a_actionNumber, upd a_wayKind b (nI kk), upd a_wayFirst b v3, upd a_waySecond b v4, ds, fs, od, a_pendingForm, a_pendingBlock, a_codeForm, a_codeBlock, a_loopPlace, a_scopeEndPlace, a_elsePlace, a_registers, a_visitCounts, a_outNumbers) (f_lastOutcome, nI l.length, f_carriedCount, a_actionKind, a_actionNumber, upd a_ways b (nI kk), upd a_first b f1, upd a_second b s2, a_over, a_reg, a_last, a_often) := by
          intro f1 s2 e1 e2
          have VY' : vw (upd a_ways b (nI kk)) (upd a_first b f1) (upd a_second b s2) (fu kd b kk) (fu fi b v3.toNatClampNeg) (fu se b v4.toNatClampNeg) := vw_u VY (fun y => (e1 y).trans (c1 y).1) (fun y => (e2 y).trans (c2 y).1)
          exact ⟨_, _, _, ac, l, K', VX', VY', VA, rfl, rfl, SH', rfl, rfl, rfl, hl, hX, hY, rfl, hr, hv⟩
        have y46 : wY_way_46 (fun r' v' => r' = 1 ∧ i_Rel (k + 5) (lv, lo, me, os, oc, f_pendingCount, f_codeLength, nI l.length, f_carriedCount, f_lastOutcome, a_actionKind, a_actionNumber, upd a_wayKind b (nI kk), upd a_wayFirst b v3, upd a_waySecond b v4, ds, fs, od, a_pendingForm, a_pendingBlock, a_codeForm, a_codeBlock, a_loopPlace, a_scopeEndPlace, a_elsePlace, a_registers, a_visitCounts, a_outNumbers) v') (nI b) (nI kk) v3 v4 f_lastOutcome (nI l.length) f_carriedCount a_actionKind a_actionNumber a_ways a_first a_second a_over a_reg a_last a_often := by
          refine ⟨hin, nm_r (e' := upd a_ways b (nI kk)) (by rw [xw_c b8]) ?_⟩
          by_cases y0 : kk = 0
          · subst y0
            exact br_t (by decide) ⟨hin, nm_r (e' := upd a_first b 0) (by rw [xw_c b8]) (br_t (by decide) ⟨hin, nm_r (e' := upd a_second b 0) (by rw [xw_c b8]) ⟨rfl, fin 0 0 (fun w => absurd rfl w) (fun w => absurd w (by decide))⟩⟩)⟩
          · refine br_f (nI_nlt (b := 1) (by omega) (by omega)) ⟨hin, nm_r (e' := upd a_first b v3) (by rw [xw_c b8]) ?_⟩
            by_cases y2 : 2 ≤ kk
            · exact br_f (nI_nlt (b := 2) y2 (by omega)) ⟨hin, nm_r (e' := upd a_second b v4) (by rw [xw_c b8]) ⟨rfl, fin v3 v4 (fun _ => rfl) (fun _ => rfl)⟩⟩
            · exact br_t (nI_lt (b := 2) (by omega) (by decide)) ⟨hin, nm_r (e' := upd a_second b 0) (by rw [xw_c b8]) ⟨rfl, fin v3 0 (fun _ => rfl) (fun w => absurd w y2)⟩⟩
        have y30 : wY_way_30 (fun r' v' => r' = 1 ∧ i_Rel (k + 5) (lv, lo, me, os, oc, f_pendingCount, f_codeLength, nI l.length, f_carriedCount, f_lastOutcome, a_actionKind, a_actionNumber, upd a_wayKind b (nI kk), upd a_wayFirst b v3, upd a_waySecond b v4, ds, fs, od, a_pendingForm, a_pendingBlock, a_codeForm, a_codeBlock, a_loopPlace, a_scopeEndPlace, a_elsePlace, a_registers, a_visitCounts, a_outNumbers) v') (nI b) (nI kk) v3 v4 f_lastOutcome (nI l.length) f_carriedCount a_actionKind a_actionNumber a_ways a_first a_second a_over a_reg a_last a_often := by
          by_cases y2 : 2 ≤ kk
          · obtain ⟨j, j8, rfl⟩ := h2 y2
            exact br_f (nI_nlt (b := 2) y2 (by omega)) (yw_blk j8 (br_f x10 y46))
          · exact br_t (nI_lt (b := 2) (by omega) (by decide)) y46
        unfold wpY_way
        refine yw_blk b8 (br_f x10 (br_f z0 (br_f z9 ?_)))
        by_cases y0 : kk = 0
        · subst y0
          exact br_t (by decide) y30
        · obtain ⟨j, j8, rfl⟩ := h1 y0
          exact br_f (nI_nlt (b := 1) (Nat.pos_of_ne_zero y0) (Nat.lt_trans k5 (by decide))) (yw_blk j8 (br_f x10 y30))
      refine br_f z0 (br_t z9' ?_)
      by_cases y0 : kk = 0
      · subst y0
        exact br_t (by decide) (br_t (by decide) (ok (fun w => absurd rfl w) (fun w => absurd w (by decide))))
      · have n1 : ¬ nI kk < 1 := nI_nlt (b := 1) (by omega) (by omega)
        refine br_f n1 ?_
        rcases x8_c v3 with z | ⟨j, j8, rfl⟩
        · exact xw_nblk z (br_t rfl (by unfold wpY_way; exact yw_blk b8 (br_f x10 (br_f z0 (br_f z9 (br_f n1 (yw_nblk z (br_t rfl ⟨rfl, R⟩))))))))
        · refine xw_blk j8 (br_f x10 ?_)
          by_cases y2 : 2 ≤ kk
          · have n2 : ¬ nI kk < 2 := nI_nlt (b := 2) y2 (by omega)
            refine br_f n2 ?_
            rcases x8_c v4 with z | ⟨j', j8', rfl⟩
            · exact xw_nblk z (br_t rfl (by unfold wpY_way; exact yw_blk b8 (br_f x10 (br_f z0 (br_f z9 (br_f n1 (yw_blk j8 (br_f x10 (br_f n2 (yw_nblk z (br_t rfl ⟨rfl, R⟩)))))))))))
            · exact xw_blk j8' (br_f x10 (ok (fun _ => ⟨j, j8, rfl⟩) (fun _ => ⟨j', j8', rfl⟩)))
          · exact br_t (nI_lt (b := 2) (by omega) (by decide)) (ok (fun _ => ⟨j, j8, rfl⟩) (fun w => absurd w y2))
theorem i_vc_run {k : Nat} {u : SX} {v : SY} (I : i_Rel k u v) (hk : k + 5 ≤ 2560) (v1 : Int32) (v2 : Int32) : wpX_run (fun r u' => wpY_run (fun r' v' => r' = r ∧ i_Rel (k + 5) u' v') v v1 v2) u v1 v2 := by
  obtain ⟨f_liveSet, f_loopSet, f_mergeSet, f_orderedSet, f_orderedCount, f_pendingCount, f_codeLength, f_outCount, f_carriedCount, f_lastOutcome, a_actionKind, a_actionNumber, a_wayKind, a_wayFirst, a_waySecond, a_dominatorSet, a_forwardSet, a_order, a_pendingForm, a_pendingBlock, a_codeForm, a_codeBlock, a_loopPlace, a_scopeEndPlace, a_elsePlace, a_registers, a_visitCounts, a_outNumbers⟩ := u
  obtain ⟨f_came, f_said, f_done, a_acts, a_numbers, a_ways, a_first, a_second, a_over, a_reg, a_last, a_often⟩ := v
  obtain ⟨kd, fi, se, ac, l, K, VX, VY, VA, rfl, rfl, SH, rfl, rfl, rfl, hl, hX, hY, rfl, hr, hv⟩ := I
  have R := SH
  obtain ⟨s1, s2, s3, s4, s5, s6⟩ := SH
  have q := sh_reg K
  rw [← s4, ← s1] at q
  by_cases z : f_orderedSet = f_liveSet
  · refine xw_run VX K VA R z (fun pc cl pf pb cf cb lp sp el rs vc on q1 q2 q3 => ?_)
    refine yw_run VY K VA (q.mp z) (fun ov rs' vc' la p1 p2 p3 => ⟨rfl, kd, fi, se, ac, _, K, VX, VY, VA, rfl, rfl, R, rfl, rfl, rfl, ?_, q3, p3, rfl, fun i hi => (q1 i hi).trans (p1 i hi).symm, fun i hi => (q2 i hi).trans (p2 i hi).symm⟩)
    have a := pu_len ac a_actionNumber kd fi se 80 0 (rg0 v1 v2) [] (fun _ => 0) 0
    exact a
  · refine xw_runb z (yw_runb VY K (ts_nf (fun y => z (q.mpr y))) (fun ov => ⟨rfl, kd, fi, se, ac, l, K, VX, VY, VA, rfl, rfl, R, rfl, rfl, rfl, hl, hX, hY, rfl, hr, hv⟩))
theorem i_vc_outcome {k : Nat} {u : SX} {v : SY} (I : i_Rel k u v) (hk : k + 5 ≤ 2560) : wpX_outcome (fun r => wpY_outcome (fun r' => r' = r ∧ i_Rel (k + 5) u v) v) u := by
  obtain ⟨f_liveSet, f_loopSet, f_mergeSet, f_orderedSet, f_orderedCount, f_pendingCount, f_codeLength, f_outCount, f_carriedCount, f_lastOutcome, a_actionKind, a_actionNumber, a_wayKind, a_wayFirst, a_waySecond, a_dominatorSet, a_forwardSet, a_order, a_pendingForm, a_pendingBlock, a_codeForm, a_codeBlock, a_loopPlace, a_scopeEndPlace, a_elsePlace, a_registers, a_visitCounts, a_outNumbers⟩ := u
  obtain ⟨f_came, f_said, f_done, a_acts, a_numbers, a_ways, a_first, a_second, a_over, a_reg, a_last, a_often⟩ := v
  obtain ⟨kd, fi, se, ac, l, K, VX, VY, VA, rfl, rfl, SH, rfl, rfl, rfl, hl, hX, hY, rfl, hr, hv⟩ := I
  exact ⟨rfl, kd, fi, se, ac, l, K, VX, VY, VA, rfl, rfl, SH, rfl, rfl, rfl, hl, hX, hY, rfl, hr, hv⟩
theorem i_vc_register {k : Nat} {u : SX} {v : SY} (I : i_Rel k u v) (hk : k + 5 ≤ 2560) (v1 : Int32) : wpX_register (fun r => wpY_register (fun r' => r' = r ∧ i_Rel (k + 5) u v) v v1) u v1 := by
  obtain ⟨f_liveSet, f_loopSet, f_mergeSet, f_orderedSet, f_orderedCount, f_pendingCount, f_codeLength, f_outCount, f_carriedCount, f_lastOutcome, a_actionKind, a_actionNumber, a_wayKind, a_wayFirst, a_waySecond, a_dominatorSet, a_forwardSet, a_order, a_pendingForm, a_pendingBlock, a_codeForm, a_codeBlock, a_loopPlace, a_scopeEndPlace, a_elsePlace, a_registers, a_visitCounts, a_outNumbers⟩ := u
  obtain ⟨f_came, f_said, f_done, a_acts, a_numbers, a_ways, a_first, a_second, a_over, a_reg, a_last, a_often⟩ := v
  obtain ⟨kd, fi, se, ac, l, K, VX, VY, VA, rfl, rfl, SH, rfl, rfl, rfl, hl, hX, hY, rfl, hr, hv⟩ := I
  have R : rE f_liveSet f_loopSet f_mergeSet f_orderedSet f_orderedCount (nI l.length) f_carriedCount f_lastOutcome a_actionKind a_actionNumber a_wayKind a_wayFirst a_waySecond a_dominatorSet a_order a_registers a_visitCounts a_outNumbers f_lastOutcome (nI l.length) f_carriedCount a_actionKind a_actionNumber a_ways a_first a_second a_reg a_last a_often := ⟨kd, fi, se, ac, l, K, VX, VY, VA, rfl, rfl, SH, rfl, rfl, rfl, hl, hX, hY, rfl, hr, hv⟩
  unfold wpX_register
  dsimp only
  rcases pk_ix v1 (n := 3) (by decide) with z | z | ⟨j, j3, rfl⟩
  · exact br_t z (br_t rfl (br_t z ⟨rfl, R⟩))
  · exact br_f (x3_n z) (br_t z (br_t rfl (br_f (x3_n z) (br_t (x3_2 z) ⟨rfl, R⟩))))
  · have c : (nI j).toNatClampNeg = j := nI_clamp (by omega)
    have hin : vp_in (nI j) 3 := vp_in_nI j3 (by decide)
    refine br_f (nI_pos (by omega)) (br_f (nI_ge (b := 3) j3 (by decide)) (br_f x10 ⟨hin, br_f (nI_pos (by omega)) (br_f (nI_nlt (a := 2) (by omega) (by decide)) ⟨hin, ?_, R⟩)⟩))
    rw [c]
    exact (hr j j3).symm
theorem i_vc_outs {k : Nat} {u : SX} {v : SY} (I : i_Rel k u v) (hk : k + 5 ≤ 2560) : wpX_outs (fun r => wpY_outs (fun r' => r' = r ∧ i_Rel (k + 5) u v) v) u := by
  obtain ⟨f_liveSet, f_loopSet, f_mergeSet, f_orderedSet, f_orderedCount, f_pendingCount, f_codeLength, f_outCount, f_carriedCount, f_lastOutcome, a_actionKind, a_actionNumber, a_wayKind, a_wayFirst, a_waySecond, a_dominatorSet, a_forwardSet, a_order, a_pendingForm, a_pendingBlock, a_codeForm, a_codeBlock, a_loopPlace, a_scopeEndPlace, a_elsePlace, a_registers, a_visitCounts, a_outNumbers⟩ := u
  obtain ⟨f_came, f_said, f_done, a_acts, a_numbers, a_ways, a_first, a_second, a_over, a_reg, a_last, a_often⟩ := v
  obtain ⟨kd, fi, se, ac, l, K, VX, VY, VA, rfl, rfl, SH, rfl, rfl, rfl, hl, hX, hY, rfl, hr, hv⟩ := I
  exact ⟨rfl, kd, fi, se, ac, l, K, VX, VY, VA, rfl, rfl, SH, rfl, rfl, rfl, hl, hX, hY, rfl, hr, hv⟩
theorem i_vc_lastOut {k : Nat} {u : SX} {v : SY} (I : i_Rel k u v) (hk : k + 5 ≤ 2560) (v1 : Int32) : wpX_lastOut (fun r => wpY_lastOut (fun r' => r' = r ∧ i_Rel (k + 5) u v) v v1) u v1 := by
  obtain ⟨f_liveSet, f_loopSet, f_mergeSet, f_orderedSet, f_orderedCount, f_pendingCount, f_codeLength, f_outCount, f_carriedCount, f_lastOutcome, a_actionKind, a_actionNumber, a_wayKind, a_wayFirst, a_waySecond, a_dominatorSet, a_forwardSet, a_order, a_pendingForm, a_pendingBlock, a_codeForm, a_codeBlock, a_loopPlace, a_scopeEndPlace, a_elsePlace, a_registers, a_visitCounts, a_outNumbers⟩ := u
  obtain ⟨f_came, f_said, f_done, a_acts, a_numbers, a_ways, a_first, a_second, a_over, a_reg, a_last, a_often⟩ := v
  obtain ⟨kd, fi, se, ac, l, K, VX, VY, VA, rfl, rfl, SH, rfl, rfl, rfl, hl, hX, hY, rfl, hr, hv⟩ := I
  have R : rE f_liveSet f_loopSet f_mergeSet f_orderedSet f_orderedCount (nI l.length) f_carriedCount f_lastOutcome a_actionKind a_actionNumber a_wayKind a_wayFirst a_waySecond a_dominatorSet a_order a_registers a_visitCounts a_outNumbers f_lastOutcome (nI l.length) f_carriedCount a_actionKind a_actionNumber a_ways a_first a_second a_reg a_last a_often := ⟨kd, fi, se, ac, l, K, VX, VY, VA, rfl, rfl, SH, rfl, rfl, rfl, hl, hX, hY, rfl, hr, hv⟩
  rcases x8_c v1 with (z | z) | ⟨j, j8, rfl⟩
  · exact br_t z (br_t z ⟨rfl, R⟩)
  · exact br_f (x8_n z) (br_t z (br_f (x8_n z) (br_t (x8_7 z) ⟨rfl, R⟩)))
  · refine br_f (xn_f j8) (br_f (x8_f j8) ?_)
    by_cases h : j < l.length
    · have e : nI l.length - 1 - nI j = nI (l.length - 1 - j) := by
        rw [show nI l.length - 1 = nI (l.length - 1) from pk_sub (b := 1) (by omega), pk_sub (by omega)]
      have c : (nI (l.length - 1 - j)).toNatClampNeg = l.length - 1 - j := nI_clamp (by omega)
      refine br_t (nI_lt h (by omega)) ?_
      rw [e, c]
      refine ⟨vp_in_nI (by omega) (by decide), br_f (xn_f j8) (br_f (x7_f j8) (br_f (nI_ge h (by omega)) ⟨xw_in j8, ?_, R⟩))⟩
      rw [xw_c j8, ouX_g hX h]
      exact hY j j8 h
    · exact br_f (nI_nlt (by omega) (by omega)) (br_f (xn_f j8) (br_f (x7_f j8) (br_t (nI_le (by omega) (by omega)) ⟨rfl, R⟩)))
theorem i_vc_carried {k : Nat} {u : SX} {v : SY} (I : i_Rel k u v) (hk : k + 5 ≤ 2560) : wpX_carried (fun r => wpY_carried (fun r' => r' = r ∧ i_Rel (k + 5) u v) v) u := by
  obtain ⟨f_liveSet, f_loopSet, f_mergeSet, f_orderedSet, f_orderedCount, f_pendingCount, f_codeLength, f_outCount, f_carriedCount, f_lastOutcome, a_actionKind, a_actionNumber, a_wayKind, a_wayFirst, a_waySecond, a_dominatorSet, a_forwardSet, a_order, a_pendingForm, a_pendingBlock, a_codeForm, a_codeBlock, a_loopPlace, a_scopeEndPlace, a_elsePlace, a_registers, a_visitCounts, a_outNumbers⟩ := u
  obtain ⟨f_came, f_said, f_done, a_acts, a_numbers, a_ways, a_first, a_second, a_over, a_reg, a_last, a_often⟩ := v
  obtain ⟨kd, fi, se, ac, l, K, VX, VY, VA, rfl, rfl, SH, rfl, rfl, rfl, hl, hX, hY, rfl, hr, hv⟩ := I
  exact ⟨rfl, kd, fi, se, ac, l, K, VX, VY, VA, rfl, rfl, SH, rfl, rfl, rfl, hl, hX, hY, rfl, hr, hv⟩
theorem i_vc_visits {k : Nat} {u : SX} {v : SY} (I : i_Rel k u v) (hk : k + 5 ≤ 2560) (v1 : Int32) : wpX_visits (fun r => wpY_visits (fun r' => r' = r ∧ i_Rel (k + 5) u v) v v1) u v1 := by
  obtain ⟨f_liveSet, f_loopSet, f_mergeSet, f_orderedSet, f_orderedCount, f_pendingCount, f_codeLength, f_outCount, f_carriedCount, f_lastOutcome, a_actionKind, a_actionNumber, a_wayKind, a_wayFirst, a_waySecond, a_dominatorSet, a_forwardSet, a_order, a_pendingForm, a_pendingBlock, a_codeForm, a_codeBlock, a_loopPlace, a_scopeEndPlace, a_elsePlace, a_registers, a_visitCounts, a_outNumbers⟩ := u
  obtain ⟨f_came, f_said, f_done, a_acts, a_numbers, a_ways, a_first, a_second, a_over, a_reg, a_last, a_often⟩ := v
  obtain ⟨kd, fi, se, ac, l, K, VX, VY, VA, rfl, rfl, SH, rfl, rfl, rfl, hl, hX, hY, rfl, hr, hv⟩ := I
  have R : rE f_liveSet f_loopSet f_mergeSet f_orderedSet f_orderedCount (nI l.length) f_carriedCount f_lastOutcome a_actionKind a_actionNumber a_wayKind a_wayFirst a_waySecond a_dominatorSet a_order a_registers a_visitCounts a_outNumbers f_lastOutcome (nI l.length) f_carriedCount a_actionKind a_actionNumber a_ways a_first a_second a_reg a_last a_often := ⟨kd, fi, se, ac, l, K, VX, VY, VA, rfl, rfl, SH, rfl, rfl, rfl, hl, hX, hY, rfl, hr, hv⟩
  unfold wpX_visits
  dsimp only
  rcases x8_c v1 with z | ⟨j, j8, rfl⟩
  · exact xw_nblk z (br_t rfl (by unfold wpY_visits; exact yw_nblk z (br_t rfl ⟨rfl, R⟩)))
  · refine xw_blk j8 (br_f x10 ⟨xw_in j8, ?_⟩)
    unfold wpY_visits
    refine yw_blk j8 (br_f x10 ⟨xw_in j8, ?_, R⟩)
    rw [xw_c j8]
    exact (hv j j8).symm
