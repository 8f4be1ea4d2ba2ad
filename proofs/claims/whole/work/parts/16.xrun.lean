/-! the component runs its code -/
/-- the actions hold what act lets in -/
def va (ak an : Nat → Int32) (ac : Nat → Nat) : Prop := ∀ b, b < 8 → ak b = nI (ac b) ∧ ac b ≤ 9 ∧ (7 ≤ ac b → ∃ j, j < 3 ∧ an b = nI j)
theorem up_w {f g : Nat → Int32} {k N : Nat} {x y : Int32} (h : ∀ i, i < N → f i = g i) (e : x = y) : ∀ i, i < N → upd f k x i = upd g k y i := by
  intro i hi
  by_cases z : i = k
  · subst z
    rw [pk_us, pk_us, e]
  · rw [pk_un z, pk_un z]
    exact h i hi
section
variable {f_liveSet f_loopSet f_mergeSet f_orderedSet f_orderedCount f_pendingCount f_codeLength f_outCount f_carriedCount f_lastOutcome : Int32} {a_actionKind a_actionNumber a_wayKind a_wayFirst a_waySecond a_dominatorSet a_forwardSet a_order a_pendingForm a_pendingBlock a_codeForm a_codeBlock a_loopPlace a_scopeEndPlace a_elsePlace a_registers a_visitCounts a_outNumbers : Nat → Int32}
theorem xw_93 {post : SX → Prop} {b n : Nat} (hb : b < 8) {vs : Nat → Int32} (hv : ∀ i, i < 8 → a_visitCounts i = vs i) (hp : ∀ vc, (∀ i, i < 8 → vc i = pu_vs b vs i) → post (f_liveSet, f_loopSet, f_mergeSet, f_orderedSet, f_orderedCount, f_pendingCount, f_codeLength, f_outCount, nI (n + 1), f_lastOutcome, a_actionKind, a_actionNumber, a_wayKind, a_wayFirst, a_waySecond, a_dominatorSet, a_forwardSet, a_order, a_pendingForm, a_pendingBlock, a_codeForm, a_codeBlock, a_loopPlace, a_scopeEndPlace, a_elsePlace, a_registers, vc, a_outNumbers)) :
    wX_carryOut_93 post (nI b) f_liveSet f_loopSet f_mergeSet f_orderedSet f_orderedCount f_pendingCount f_codeLength f_outCount (nI n) f_lastOutcome a_actionKind a_actionNumber a_wayKind a_wayFirst a_waySecond a_dominatorSet a_forwardSet a_order a_pendingForm a_pendingBlock a_codeForm a_codeBlock a_loopPlace a_scopeEndPlace a_elsePlace a_registers a_visitCounts a_outNumbers := by
  have c := xw_c hb
  have hin := xw_in hb
  refine ⟨hin, hin, nm_r (by rw [c]) (nm_r (nI_1 n) (hp _ (up_w hv ?_)))⟩
  rw [hv b hb]
theorem xw_co {ac : Nat → Nat} (VA : va a_actionKind a_actionNumber ac) {post : SX → Prop} {b n : Nat} (hb : b < 8) (hn : n < 80) {rg vs : Nat → Int32} {os : List Int32} (ho : os.length ≤ n)
    (hr : ∀ i, i < 3 → a_registers i = rg i) (hv : ∀ i, i < 8 → a_visitCounts i = vs i) (hx : ouX a_outNumbers os)
    (hp : ∀ rs vc on, (∀ i, i < 3 → rs i = pu_rg ac a_actionNumber b rg i) → (∀ i, i < 8 → vc i = pu_vs b vs i) → ouX on (pu_os ac b rg os) →
      post (f_liveSet, f_loopSet, f_mergeSet, f_orderedSet, f_orderedCount, f_pendingCount, f_codeLength, nI (pu_os ac b rg os).length, nI (n + 1), f_lastOutcome, a_actionKind, a_actionNumber, a_wayKind, a_wayFirst, a_waySecond, a_dominatorSet, a_forwardSet, a_order, a_pendingForm, a_pendingBlock, a_codeForm, a_codeBlock, a_loopPlace, a_scopeEndPlace, a_elsePlace, rs, vc, on)) :
    wpX_carryOut post (f_liveSet, f_loopSet, f_mergeSet, f_orderedSet, f_orderedCount, f_pendingCount, f_codeLength, nI os.length, nI n, f_lastOutcome, a_actionKind, a_actionNumber, a_wayKind, a_wayFirst, a_waySecond, a_dominatorSet, a_forwardSet, a_order, a_pendingForm, a_pendingBlock, a_codeForm, a_codeBlock, a_loopPlace, a_scopeEndPlace, a_elsePlace, a_registers, a_visitCounts, a_outNumbers) (nI b) := by
  obtain ⟨v1, v2, v3⟩ := VA b hb
  have c := xw_c hb
  have hin := xw_in hb
  unfold wpX_carryOut
  dsimp only
  rw [c]
  refine br_t (nI_lt (b := 80) hn (by decide)) ⟨hin, nm_r v1 ?_⟩
  unfold pu_rg pu_os at hp
  by_cases k7 : 7 ≤ ac b
  · rw [if_pos k7] at hp
    rw [if_neg (fun z : 4 ≤ ac b ∧ ac b < 7 => by omega)] at hp
    obtain ⟨j, j3, ej⟩ := v3 k7
    have es : nI (ac b) - 7 = nI (ac b - 7) := pk_sub (b := 7) k7
    have cs : (nI (ac b - 7)).toNatClampNeg = ac b - 7 := nI_clamp (by omega)
    have cj : (nI j).toNatClampNeg = j := nI_clamp (by omega)
    refine br_f (nI_nlt (b := 7) k7 (by omega)) ⟨hin, ?_⟩
    rw [ej, es, cs, cj]
    rw [ej, cj] at hp
    refine ⟨vp_in_nI j3 (by decide), vp_in_nI (by omega) (by decide), nm_e (xw_93 hb hv (fun vc hvc => hp _ vc a_outNumbers (up_w hr (hr j j3)) hvc hx))⟩
  · rw [if_neg k7] at hp
    refine br_t (nI_lt (b := 7) (by omega) (by decide)) ?_
    by_cases k4 : 4 ≤ ac b
    · rw [if_pos k4, if_pos (⟨k4, by omega⟩ : 4 ≤ ac b ∧ ac b < 7)] at hp
      have es : nI (ac b) - 4 = nI (ac b - 4) := pk_sub (b := 4) k4
      have cs : (nI (ac b - 4)).toNatClampNeg = ac b - 4 := nI_clamp (by omega)
      have co : (nI os.length).toNatClampNeg = os.length := nI_clamp (by omega)
      have hio : vp_in (nI os.length) 80 := vp_in_nI (by omega) (by decide)
      refine br_f (nI_nlt (b := 4) k4 (by omega)) ?_
      rw [es, cs]
      refine ⟨vp_in_nI (by omega) (by decide), br_f (nI_ge (b := 80) (by omega) (by decide)) ⟨hio, nm_r (e' := upd a_outNumbers os.length (rg (ac b - 4))) (by rw [co, hr _ (by omega)]) (nm_r (nI_1 _) (xw_93 hb hv (fun vc hvc => hp _ vc _ hr hvc (ouX_c hx))))⟩⟩
    · rw [if_neg k4, if_neg (fun z : 4 ≤ ac b ∧ ac b < 7 => k4 z.1)] at hp
      refine br_t (nI_lt (b := 4) (by omega) (by decide)) ?_
      by_cases k1 : 1 ≤ ac b
      · rw [if_pos k1] at hp
        have es : nI (ac b) - 1 = nI (ac b - 1) := pk_sub (b := 1) k1
        have cs : (nI (ac b - 1)).toNatClampNeg = ac b - 1 := nI_clamp (by omega)
        have hi3 : vp_in (nI (ac b - 1)) 3 := vp_in_nI (by omega) (by decide)
        refine br_f (nI_nlt (b := 1) k1 (by omega)) ?_
        rw [es, cs]
        exact ⟨hi3, hin, hi3, nm_e (xw_93 hb hv (fun vc hvc => hp _ vc a_outNumbers (up_w hr (by rw [hr _ (by omega)])) hvc hx))⟩
      · rw [if_neg k1] at hp
        exact br_t (nI_lt (b := 1) (by omega) (by decide)) (xw_93 hb hv (fun vc hvc => hp _ vc a_outNumbers hr hvc hx))
/-! one step of the walk over the code -/
theorem xr_e {A : List (Nat × Nat)} (hc : cod a_codeForm a_codeBlock A) (hl : A.length ≤ 78) {p f x : Nat} (e : A[p]? = some (f, x)) :
    p < A.length ∧ vp_in (nI p) 128 ∧ a_codeForm (nI p).toNatClampNeg = nI f ∧ a_codeBlock (nI p).toNatClampNeg = nI x := by
  obtain ⟨hp, _⟩ := List.getElem?_eq_some_iff.mp e
  have cp : (nI p).toNatClampNeg = p := nI_clamp (by omega)
  rw [cp]
  exact ⟨hp, vp_in_nI (by omega) (by decide), (hc p f x e).1, (hc p f x e).2⟩
theorem xr_d {A : List (Nat × Nat)} (hc : cod a_codeForm a_codeBlock A) (hl : A.length ≤ 78) {post : SX → Prop} {p f x st n : Nat} (e : A[p]? = some (f, x)) (hf : f < 5) (hs : st < 1000000)
    (h : wX_runCode_4 post n (nI (p + 1)) (nI (st + 1)) f_liveSet f_loopSet f_mergeSet f_orderedSet f_orderedCount f_pendingCount (nI A.length) f_outCount f_carriedCount 0 a_actionKind a_actionNumber a_wayKind a_wayFirst a_waySecond a_dominatorSet a_forwardSet a_order a_pendingForm a_pendingBlock a_codeForm a_codeBlock a_loopPlace a_scopeEndPlace a_elsePlace a_registers a_visitCounts a_outNumbers) : wX_runCode_4 post (n + 1) (nI p) (nI st) f_liveSet f_loopSet f_mergeSet f_orderedSet f_orderedCount f_pendingCount (nI A.length) f_outCount f_carriedCount 0 a_actionKind a_actionNumber a_wayKind a_wayFirst a_waySecond a_dominatorSet a_forwardSet a_order a_pendingForm a_pendingBlock a_codeForm a_codeBlock a_loopPlace a_scopeEndPlace a_elsePlace a_registers a_visitCounts a_outNumbers := by
  obtain ⟨hp, hin, e1, e2⟩ := xr_e hc hl e
  refine br_f (nI_ge (b := 1000000) hs (by decide)) (br_t rfl (br_f (nI_ge hp (by omega)) ⟨hin, nm_e ⟨hin, nm_r e1 (br_t (nI_lt (b := 5) hf (by decide)) (nm_r (nI_1 st) ?_))⟩⟩))
  rw [nI_1 p]
  exact h
theorem xr_9 {A : List (Nat × Nat)} (hc : cod a_codeForm a_codeBlock A) (hl : A.length ≤ 78) {post : SX → Prop} {p c st n j : Nat} (e : A[p]? = some (9, c)) (c8 : c < 8) (hj : a_scopeEndPlace c = nI j) (hs : st < 1000000)
    (h : wX_runCode_4 post n (nI (j + 1)) (nI (st + 1)) f_liveSet f_loopSet f_mergeSet f_orderedSet f_orderedCount f_pendingCount (nI A.length) f_outCount f_carriedCount 0 a_actionKind a_actionNumber a_wayKind a_wayFirst a_waySecond a_dominatorSet a_forwardSet a_order a_pendingForm a_pendingBlock a_codeForm a_codeBlock a_loopPlace a_scopeEndPlace a_elsePlace a_registers a_visitCounts a_outNumbers) : wX_runCode_4 post (n + 1) (nI p) (nI st) f_liveSet f_loopSet f_mergeSet f_orderedSet f_orderedCount f_pendingCount (nI A.length) f_outCount f_carriedCount 0 a_actionKind a_actionNumber a_wayKind a_wayFirst a_waySecond a_dominatorSet a_forwardSet a_order a_pendingForm a_pendingBlock a_codeForm a_codeBlock a_loopPlace a_scopeEndPlace a_elsePlace a_registers a_visitCounts a_outNumbers := by
  obtain ⟨hp, hin, e1, e2⟩ := xr_e hc hl e
  refine br_f (nI_ge (b := 1000000) hs (by decide)) (br_t rfl (br_f (nI_ge hp (by omega)) ⟨hin, nm_r e2 ⟨hin, nm_r e1 (br_f (by decide) (br_f (by decide) (br_f (by decide) (br_f (by decide) (br_f (by decide) (br_f (by decide) (br_t (by decide) ⟨xw_in c8, nm_r (nI_1 st) ?_⟩)))))))⟩⟩))
  rw [xw_c c8, hj, nI_1 j]
  exact h
theorem xr_10 {A : List (Nat × Nat)} (hc : cod a_codeForm a_codeBlock A) (hl : A.length ≤ 78) {post : SX → Prop} {p c st n j : Nat} (e : A[p]? = some (10, c)) (c8 : c < 8) (hj : a_loopPlace c = nI j) (hs : st < 1000000)
    (h : wX_runCode_4 post n (nI j) (nI (st + 1)) f_liveSet f_loopSet f_mergeSet f_orderedSet f_orderedCount f_pendingCount (nI A.length) f_outCount f_carriedCount 0 a_actionKind a_actionNumber a_wayKind a_wayFirst a_waySecond a_dominatorSet a_forwardSet a_order a_pendingForm a_pendingBlock a_codeForm a_codeBlock a_loopPlace a_scopeEndPlace a_elsePlace a_registers a_visitCounts a_outNumbers) : wX_runCode_4 post (n + 1) (nI p) (nI st) f_liveSet f_loopSet f_mergeSet f_orderedSet f_orderedCount f_pendingCount (nI A.length) f_outCount f_carriedCount 0 a_actionKind a_actionNumber a_wayKind a_wayFirst a_waySecond a_dominatorSet a_forwardSet a_order a_pendingForm a_pendingBlock a_codeForm a_codeBlock a_loopPlace a_scopeEndPlace a_elsePlace a_registers a_visitCounts a_outNumbers := by
  obtain ⟨hp, hin, e1, e2⟩ := xr_e hc hl e
  refine br_f (nI_ge (b := 1000000) hs (by decide)) (br_t rfl (br_f (nI_ge hp (by omega)) ⟨hin, nm_r e2 ⟨hin, nm_r e1 (br_f (by decide) (br_f (by decide) (br_f (by decide) (br_f (by decide) (br_f (by decide) (br_f (by decide) (br_f (by decide) (br_t (by decide) ⟨xw_in c8, nm_r (nI_1 st) ?_⟩))))))))⟩⟩))
  rw [xw_c c8, hj]
  exact h
theorem xr_11 {A : List (Nat × Nat)} (hc : cod a_codeForm a_codeBlock A) (hl : A.length ≤ 78) {post : SX → Prop} {p c st n : Nat} (e : A[p]? = some (11, c)) (hs : st + 1 < 1000000)
    (h : post (f_liveSet, f_loopSet, f_mergeSet, f_orderedSet, f_orderedCount, f_pendingCount, nI A.length, f_outCount, f_carriedCount, 1, a_actionKind, a_actionNumber, a_wayKind, a_wayFirst, a_waySecond, a_dominatorSet, a_forwardSet, a_order, a_pendingForm, a_pendingBlock, a_codeForm, a_codeBlock, a_loopPlace, a_scopeEndPlace, a_elsePlace, a_registers, a_visitCounts, a_outNumbers)) : wX_runCode_4 post (n + 2) (nI p) (nI st) f_liveSet f_loopSet f_mergeSet f_orderedSet f_orderedCount f_pendingCount (nI A.length) f_outCount f_carriedCount 0 a_actionKind a_actionNumber a_wayKind a_wayFirst a_waySecond a_dominatorSet a_forwardSet a_order a_pendingForm a_pendingBlock a_codeForm a_codeBlock a_loopPlace a_scopeEndPlace a_elsePlace a_registers a_visitCounts a_outNumbers := by
  obtain ⟨hp, hin, e1, e2⟩ := xr_e hc hl e
  refine br_f (nI_ge (b := 1000000) (by omega) (by decide)) (br_t rfl (br_f (nI_ge hp (by omega)) ⟨hin, nm_r e2 ⟨hin, nm_r e1 (br_f (by decide) (br_f (by decide) (br_f (by decide) (br_f (by decide) (br_f (by decide) (br_f (by decide) (br_f (by decide) (br_f (by decide) (br_t (by decide) (nm_r (nI_1 st) (br_f (nI_ge (b := 1000000) hs (by decide)) (br_f x10 h))))))))))))⟩⟩))
theorem xr_6 {kd fi se : Nat → Nat} (V : vw a_wayKind a_wayFirst a_waySecond kd fi se) (K : vk kd fi se) {A : List (Nat × Nat)} (hc : cod a_codeForm a_codeBlock A) (hl : A.length ≤ 78) {post : SX → Prop} {p b st n j : Nat} (e : A[p]? = some (6, b)) (b8 : b < 8) (k2 : 2 ≤ kd b) (hj : a_elsePlace b = nI j) (hs : st < 1000000)
    (h1 : 0 < a_registers (kd b - 2) → wX_runCode_4 post n (nI (p + 1)) (nI (st + 1)) f_liveSet f_loopSet f_mergeSet f_orderedSet f_orderedCount f_pendingCount (nI A.length) f_outCount f_carriedCount 0 a_actionKind a_actionNumber a_wayKind a_wayFirst a_waySecond a_dominatorSet a_forwardSet a_order a_pendingForm a_pendingBlock a_codeForm a_codeBlock a_loopPlace a_scopeEndPlace a_elsePlace a_registers a_visitCounts a_outNumbers)
    (h0 : ¬ 0 < a_registers (kd b - 2) → wX_runCode_4 post n (nI (j + 1)) (nI (st + 1)) f_liveSet f_loopSet f_mergeSet f_orderedSet f_orderedCount f_pendingCount (nI A.length) f_outCount f_carriedCount 0 a_actionKind a_actionNumber a_wayKind a_wayFirst a_waySecond a_dominatorSet a_forwardSet a_order a_pendingForm a_pendingBlock a_codeForm a_codeBlock a_loopPlace a_scopeEndPlace a_elsePlace a_registers a_visitCounts a_outNumbers) : wX_runCode_4 post (n + 1) (nI p) (nI st) f_liveSet f_loopSet f_mergeSet f_orderedSet f_orderedCount f_pendingCount (nI A.length) f_outCount f_carriedCount 0 a_actionKind a_actionNumber a_wayKind a_wayFirst a_waySecond a_dominatorSet a_forwardSet a_order a_pendingForm a_pendingBlock a_codeForm a_codeBlock a_loopPlace a_scopeEndPlace a_elsePlace a_registers a_visitCounts a_outNumbers := by
  obtain ⟨hp, hin, e1, e2⟩ := xr_e hc hl e
  have kb : a_wayKind b - 2 = nI (kd b - 2) := by
    rw [(V b b8).1]
    exact pk_sub (b := 2) k2
  have k4 := (K b b8).1
  have ck : (nI (kd b - 2)).toNatClampNeg = kd b - 2 := nI_clamp (by omega)
  refine br_f (nI_ge (b := 1000000) hs (by decide)) (br_t rfl (br_f (nI_ge hp (by omega)) ⟨hin, nm_r e2 ⟨hin, nm_r e1 (br_f (by decide) (br_f (by decide) (br_f (by decide) (br_t (by decide) ⟨xw_in b8, ?_⟩))))⟩⟩))
  rw [xw_c b8, kb, ck]
  refine ⟨vp_in_nI (by omega) (by decide), br_c (fun z => ⟨xw_in b8, nm_r (nI_1 st) ?_⟩) (fun z => nm_r (nI_1 st) ?_)⟩
  · rw [hj, nI_1 j]
    exact h0 (Int32.not_lt.mpr z)
  · rw [nI_1 p]
    exact h1 (Int32.not_le.mp z)
theorem xr_5 {ac : Nat → Nat} (VA : va a_actionKind a_actionNumber ac) {A : List (Nat × Nat)} (hc : cod a_codeForm a_codeBlock A) (hl : A.length ≤ 78) {post : SX → Prop} {p b st n k : Nat} (e : A[p]? = some (5, b)) (b8 : b < 8) (hk : k < 80) (hs : st < 1000000)
    {rg vs : Nat → Int32} {os : List Int32} (ho : os.length ≤ k) (hr : ∀ i, i < 3 → a_registers i = rg i) (hv : ∀ i, i < 8 → a_visitCounts i = vs i) (hx : ouX a_outNumbers os)
    (h : ∀ rs vc on, (∀ i, i < 3 → rs i = pu_rg ac a_actionNumber b rg i) → (∀ i, i < 8 → vc i = pu_vs b vs i) → ouX on (pu_os ac b rg os) →
      wX_runCode_4 post n (nI (p + 1)) (nI (st + 1)) f_liveSet f_loopSet f_mergeSet f_orderedSet f_orderedCount f_pendingCount (nI A.length) (nI (pu_os ac b rg os).length) (nI (k + 1)) 0 a_actionKind a_actionNumber a_wayKind a_wayFirst a_waySecond a_dominatorSet a_forwardSet a_order a_pendingForm a_pendingBlock a_codeForm a_codeBlock a_loopPlace a_scopeEndPlace a_elsePlace rs vc on) :
    wX_runCode_4 post (n + 1) (nI p) (nI st) f_liveSet f_loopSet f_mergeSet f_orderedSet f_orderedCount f_pendingCount (nI A.length) (nI os.length) (nI k) 0 a_actionKind a_actionNumber a_wayKind a_wayFirst a_waySecond a_dominatorSet a_forwardSet a_order a_pendingForm a_pendingBlock a_codeForm a_codeBlock a_loopPlace a_scopeEndPlace a_elsePlace a_registers a_visitCounts a_outNumbers := by
  obtain ⟨hp, hin, e1, e2⟩ := xr_e hc hl e
  refine br_f (nI_ge (b := 1000000) hs (by decide)) (br_t rfl (br_f (nI_ge hp (by omega)) ⟨hin, nm_r e2 ⟨hin, nm_r e1 (br_f (by decide) (br_f (by decide) (br_t (by decide) (xw_co VA b8 hk ho hr hv hx (fun rs vc on q1 q2 q3 => nm_r (nI_1 st) ?_)))))⟩⟩))
  rw [nI_1 p]
  exact h rs vc on q1 q2 q3
theorem xr_5t {A : List (Nat × Nat)} (hc : cod a_codeForm a_codeBlock A) (hl : A.length ≤ 78) {post : SX → Prop} {p b st n : Nat} (e : A[p]? = some (5, b)) (b8 : b < 8) (hs : st + 1 < 1000000)
    (h : post (f_liveSet, f_loopSet, f_mergeSet, f_orderedSet, f_orderedCount, f_pendingCount, nI A.length, f_outCount, nI 80, 2, a_actionKind, a_actionNumber, a_wayKind, a_wayFirst, a_waySecond, a_dominatorSet, a_forwardSet, a_order, a_pendingForm, a_pendingBlock, a_codeForm, a_codeBlock, a_loopPlace, a_scopeEndPlace, a_elsePlace, a_registers, a_visitCounts, a_outNumbers)) :
    wX_runCode_4 post (n + 2) (nI p) (nI st) f_liveSet f_loopSet f_mergeSet f_orderedSet f_orderedCount f_pendingCount (nI A.length) f_outCount (nI 80) 0 a_actionKind a_actionNumber a_wayKind a_wayFirst a_waySecond a_dominatorSet a_forwardSet a_order a_pendingForm a_pendingBlock a_codeForm a_codeBlock a_loopPlace a_scopeEndPlace a_elsePlace a_registers a_visitCounts a_outNumbers := by
  obtain ⟨hp, hin, e1, e2⟩ := xr_e hc hl e
  refine br_f (nI_ge (b := 1000000) (by omega) (by decide)) (br_t rfl (br_f (nI_ge hp (by omega)) ⟨hin, nm_r e2 ⟨hin, nm_r e1 (br_f (by decide) (br_f (by decide) (br_t (by decide) (br_f (by decide) (nm_r (nI_1 st) (br_f (nI_ge (b := 1000000) hs (by decide)) (br_f (by decide) h)))))))⟩⟩))
end
