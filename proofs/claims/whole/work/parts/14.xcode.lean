/-! the component writes its code -/
theorem rb_is {m : Int32} (T : Nat → Int32) (b c : Nat) {ds : Nat → Int32} (hm : m = rm T) (h1 : ds b = rd T b) (h2 : ds c = rd T c) :
    (bt m c = true ∧ ds b = (ds c &&& (rb_p c ^^^ (-1)))) ↔ mub T b c = true := by rw [mub_iff, hm, h1, h2]
theorem x128_f {i : Nat} (h : i < 128) : ¬ (128 : Int32) ≤ nI i := nI_ge (b := 128) h (by decide)
section
variable {f_liveSet f_loopSet f_mergeSet f_orderedSet f_orderedCount f_pendingCount f_codeLength f_outCount f_carriedCount f_lastOutcome : Int32} {a_actionKind a_actionNumber a_wayKind a_wayFirst a_waySecond a_dominatorSet a_forwardSet a_order a_pendingForm a_pendingBlock a_codeForm a_codeBlock a_loopPlace a_scopeEndPlace a_elsePlace a_registers a_visitCounts a_outNumbers : Nat → Int32}
theorem xw_push {post : SX → Prop} {L : List (Nat × Nat)} {f x : Nat} (hl : L.length < 128) (hs : stk a_pendingForm a_pendingBlock L)
    (hp : ∀ pf pb, stk pf pb ((f, x) :: L) → post (f_liveSet, f_loopSet, f_mergeSet, f_orderedSet, f_orderedCount, nI ((f, x) :: L).length, f_codeLength, f_outCount, f_carriedCount, f_lastOutcome, a_actionKind, a_actionNumber, a_wayKind, a_wayFirst, a_waySecond, a_dominatorSet, a_forwardSet, a_order, pf, pb, a_codeForm, a_codeBlock, a_loopPlace, a_scopeEndPlace, a_elsePlace, a_registers, a_visitCounts, a_outNumbers)) : wpX_push post (f_liveSet, f_loopSet, f_mergeSet, f_orderedSet, f_orderedCount, nI L.length, f_codeLength, f_outCount, f_carriedCount, f_lastOutcome, a_actionKind, a_actionNumber, a_wayKind, a_wayFirst, a_waySecond, a_dominatorSet, a_forwardSet, a_order, a_pendingForm, a_pendingBlock, a_codeForm, a_codeBlock, a_loopPlace, a_scopeEndPlace, a_elsePlace, a_registers, a_visitCounts, a_outNumbers) (nI f) (nI x) := by
  have hi : vp_in (nI L.length) 128 := vp_in_nI hl (by decide)
  have c : (nI L.length).toNatClampNeg = L.length := nI_clamp (by omega)
  refine br_f (x128_f hl) ⟨hi, nm_r (by rw [c]) ⟨hi, nm_r (by rw [c]) (nm_r (nI_1 _) (hp _ _ (stk_c hs)))⟩⟩
theorem xw_mu {T : Nat → Int32} {post : Int32 → Prop} {b c : Nat} (hb : b < 8) (hc : c < 8) (hm : f_mergeSet = rm T) (hd : ∀ b, b < 8 → a_dominatorSet b = rd T b)
    (h1 : mub T b c = true → post 1) (h0 : mub T b c = false → post 0) : wpX_isMergeUnder post (f_liveSet, f_loopSet, f_mergeSet, f_orderedSet, f_orderedCount, f_pendingCount, f_codeLength, f_outCount, f_carriedCount, f_lastOutcome, a_actionKind, a_actionNumber, a_wayKind, a_wayFirst, a_waySecond, a_dominatorSet, a_forwardSet, a_order, a_pendingForm, a_pendingBlock, a_codeForm, a_codeBlock, a_loopPlace, a_scopeEndPlace, a_elsePlace, a_registers, a_visitCounts, a_outNumbers) (nI b) (nI c) := by
  have q := rb_is T b c hm (hd b hb) (hd c hc)
  unfold wpX_isMergeUnder
  dsimp only
  rw [xw_c hb, xw_c hc]
  refine xw_has hc (fun z => br_f x10 ⟨xw_in hb, xw_in hc, br_c (fun y => h1 (q.mp ⟨z, y⟩)) (fun y => h0 (rb_tf (fun w => y (q.mpr w).2)))⟩) (fun z => br_t rfl (h0 (rb_tf (fun w => ?_))))
  have y := (q.mpr w).1
  rw [z] at y
  cases y
theorem xw_ef {T : Nat → Int32} {post : Int32 → Prop} {b c : Nat} (hb : b < 8) (hc : c < 8) (hm : f_mergeSet = rm T) (hd : ∀ b, b < 8 → a_dominatorSet b = rd T b)
    (hp : post (nI (ef T b c))) : wpX_edgeForm post (f_liveSet, f_loopSet, f_mergeSet, f_orderedSet, f_orderedCount, f_pendingCount, f_codeLength, f_outCount, f_carriedCount, f_lastOutcome, a_actionKind, a_actionNumber, a_wayKind, a_wayFirst, a_waySecond, a_dominatorSet, a_forwardSet, a_order, a_pendingForm, a_pendingBlock, a_codeForm, a_codeBlock, a_loopPlace, a_scopeEndPlace, a_elsePlace, a_registers, a_visitCounts, a_outNumbers) (nI b) (nI c) := by
  unfold ef at hp
  unfold wpX_edgeForm
  dsimp only
  rw [xw_c hb, hd b hb, hm]
  refine ⟨xw_in hb, xw_has hc (fun z => br_f x10 ?_) (fun z => br_t rfl (xw_has hc (fun y => br_f x10 ?_) (fun y => br_t rfl ?_)))⟩
  · rw [if_pos z] at hp
    exact hp
  · rw [if_neg (by rw [z]; decide), if_pos y] at hp
    exact hp
  · rw [if_neg (by rw [z]; decide), if_neg (by rw [y]; decide)] at hp
    exact hp
theorem xw_pw {kd fi se : Nat → Nat} (V : vw a_wayKind a_wayFirst a_waySecond kd fi se) (K : vk kd fi se) {T : Nat → Int32} (hm : f_mergeSet = rm T) (hd : ∀ b, b < 8 → a_dominatorSet b = rd T b)
    {post : SX → Prop} {L : List (Nat × Nat)} {b : Nat} (hb : b < 8) (hl : L.length < 120) (hs : stk a_pendingForm a_pendingBlock L)
    (hp : ∀ pf pb, stk pf pb (lk_way (ef T) kd fi se b ++ L) → post (f_liveSet, f_loopSet, f_mergeSet, f_orderedSet, f_orderedCount, nI (lk_way (ef T) kd fi se b ++ L).length, f_codeLength, f_outCount, f_carriedCount, f_lastOutcome, a_actionKind, a_actionNumber, a_wayKind, a_wayFirst, a_waySecond, a_dominatorSet, a_forwardSet, a_order, pf, pb, a_codeForm, a_codeBlock, a_loopPlace, a_scopeEndPlace, a_elsePlace, a_registers, a_visitCounts, a_outNumbers)) : wpX_pushWay post (f_liveSet, f_loopSet, f_mergeSet, f_orderedSet, f_orderedCount, nI L.length, f_codeLength, f_outCount, f_carriedCount, f_lastOutcome, a_actionKind, a_actionNumber, a_wayKind, a_wayFirst, a_waySecond, a_dominatorSet, a_forwardSet, a_order, a_pendingForm, a_pendingBlock, a_codeForm, a_codeBlock, a_loopPlace, a_scopeEndPlace, a_elsePlace, a_registers, a_visitCounts, a_outNumbers) (nI b) := by
  obtain ⟨v1, v2, v3⟩ := V b hb
  obtain ⟨k1, k2, k3⟩ := K b hb
  have hi := xw_in hb
  unfold wpX_pushWay
  dsimp only
  rw [xw_c hb]
  refine ⟨hi, ?_⟩
  unfold lk_way at hp
  by_cases k0 : kd b = 0
  · rw [if_pos k0] at hp
    exact br_t (by rw [v1, k0]; rfl) (xw_push (f := 11) (x := b) (by omega) hs hp)
  · rw [if_neg k0] at hp
    have n0 : ¬ a_wayKind b = 0 := by
      rw [v1]
      exact nI_ne0 (by omega) (by omega)
    refine br_f n0 ⟨hi, nm_r (v2 k0) (xw_ef (T := T) hb (k2 k0) hm hd ⟨hi, ?_⟩)⟩
    by_cases e1 : kd b = 1
    · rw [if_pos (Or.inl e1)] at hp
      exact br_t (by rw [v1, e1]; rfl) (xw_push (f := ef T b (fi b)) (x := fi b) (by omega) hs hp)
    · have n1 : ¬ a_wayKind b = 1 := by
        rw [v1]
        exact fun z => by
          have y := (nI_eq (a := kd b) (b := 1) (by omega) (by decide)).mp z
          omega
      have g2 : 2 ≤ kd b := by omega
      have q := k2 k0
      have q' := k3 g2
      refine br_f n1 ⟨hi, ?_⟩
      rw [v3 g2]
      by_cases e2 : fi b = se b
      · rw [if_pos (Or.inr e2)] at hp
        exact br_t (by rw [e2]) (xw_push (f := ef T b (fi b)) (x := fi b) (by omega) hs hp)
      · rw [if_neg (fun z => by rcases z with z | z; exact e1 z; exact e2 z)] at hp
        refine br_f (fun z => e2 ((nI_eq (by omega) (by omega)).mp z)) ⟨hi, nm_e (xw_ef (T := T) hb (k3 g2) hm hd ?_)⟩
        refine xw_push (f := 8) (x := b) (by omega) hs (fun pf1 pb1 s1 => ?_)
        refine xw_push (f := ef T b (se b)) (x := se b) (by simp only [List.length_cons]; omega) s1 (fun pf2 pb2 s2 => ?_)
        refine xw_push (f := 7) (x := b) (by simp only [List.length_cons]; omega) s2 (fun pf3 pb3 s3 => ?_)
        refine xw_push (f := ef T b (fi b)) (x := fi b) (by simp only [List.length_cons]; omega) s3 (fun pf4 pb4 s4 => ?_)
        refine xw_push (f := 6) (x := b) (by simp only [List.length_cons]; omega) s4 (fun pf5 pb5 s5 => ?_)
        exact hp pf5 pb5 s5
theorem xw_pp83 {T : Nat → Int32} (hm : f_mergeSet = rm T) (hd : ∀ b, b < 8 → a_dominatorSet b = rd T b) (hlo : f_loopSet = rl T)
    {post : SX → Prop} {b : Nat} (hb : b < 8) {L0 : List (Nat × Nat)} {ol : List Nat} (O : odl a_order ol) (h8 : ∀ c, c ∈ ol → c < 8) (l8 : ol.length ≤ 8) (hl : L0.length < 118)
    (hp : ∀ pf pb, stk pf pb (lk_t (lps T) 1 b (lk_scs (mul T ol b) L0)) → post (f_liveSet, f_loopSet, f_mergeSet, f_orderedSet, nI ol.length, nI (lk_t (lps T) 1 b (lk_scs (mul T ol b) L0)).length, f_codeLength, f_outCount, f_carriedCount, f_lastOutcome, a_actionKind, a_actionNumber, a_wayKind, a_wayFirst, a_waySecond, a_dominatorSet, a_forwardSet, a_order, pf, pb, a_codeForm, a_codeBlock, a_loopPlace, a_scopeEndPlace, a_elsePlace, a_registers, a_visitCounts, a_outNumbers)) :
    ∀ d i n pf pb, i + d = ol.length → d < n → stk pf pb (lk_scs ((ol.take i).filter (mub T b)) L0) →
      wX_pushPiece_83 post (nI b) n (nI i) f_liveSet f_loopSet f_mergeSet f_orderedSet (nI ol.length) (nI (lk_scs ((ol.take i).filter (mub T b)) L0).length) f_codeLength f_outCount f_carriedCount f_lastOutcome a_actionKind a_actionNumber a_wayKind a_wayFirst a_waySecond a_dominatorSet a_forwardSet a_order pf pb a_codeForm a_codeBlock a_loopPlace a_scopeEndPlace a_elsePlace a_registers a_visitCounts a_outNumbers := by
  have ln : ∀ i, (lk_scs ((ol.take i).filter (mub T b)) L0).length < 127 := by
    intro i
    rw [lk_scs_l]
    have a := List.length_filter_le (mub T b) (ol.take i)
    have c := List.length_take_le i ol
    have c' : (ol.take i).length ≤ ol.length := by
      rw [List.length_take]
      omega
    omega
  intro d
  induction d with
  | zero =>
    intro i n pf pb hi hn hs
    obtain ⟨k, rfl⟩ : ∃ k, n = k + 1 := ⟨n - 1, by omega⟩
    obtain rfl : i = ol.length := by omega
    have ll := ln ol.length
    rw [List.take_length] at hs ll ⊢
    unfold lk_t lps at hp
    refine br_t (nI_le (Nat.le_refl _) (by omega)) (xw_has hb (fun z => br_f x10 ?_) (fun z => br_t rfl ?_))
    · rw [hlo] at z
      rw [if_pos z] at hp
      exact xw_push (f := 1) (x := b) (by unfold mul at *; omega) hs (fun pf' pb' s' => hp pf' pb' s')
    · rw [hlo] at z
      rw [if_neg (by rw [z]; decide)] at hp
      exact hp pf pb hs
  | succ d ih =>
    intro i n pf pb hi hn hs
    obtain ⟨k, rfl⟩ : ∃ k, n = k + 1 := ⟨n - 1, by omega⟩
    have hil : i < ol.length := by omega
    obtain ⟨c, hc⟩ : ∃ c, ol[i]? = some c := ⟨ol[i], List.getElem?_eq_getElem hil⟩
    have oc : a_order (nI i).toNatClampNeg = nI c := by
      rw [nI_clamp (by omega)]
      exact O i c hc
    have c8 : c < 8 := h8 c (List.mem_of_getElem? hc)
    have hin : vp_in (nI i) 8 := vp_in_nI (by omega) (by decide)
    have tk : ol.take (i + 1) = ol.take i ++ [c] := by
      rw [List.take_add_one, hc]
      rfl
    have st := fun pf pb => ih (i + 1) k pf pb (by omega) (by omega)
    rw [tk, List.filter_append] at st
    refine br_f (nI_ge hil (by omega)) ⟨hin, ?_⟩
    rw [oc]
    refine xw_mu (T := T) hb c8 hm hd (fun z => br_f x10 ⟨hin, ?_⟩) (fun z => br_t rfl (nm_r (nI_1 i) ?_))
    · have e : [c].filter (mub T b) = [c] := by
        rw [List.filter_cons, if_pos z]
        rfl
      rw [e, lk_scs_a] at st
      exact xw_push (f := 3) (x := c) (by have := ln i; omega) hs (fun pf' pb' s' => nm_r (nI_1 i) (st pf' pb' s'))
    · have e : [c].filter (mub T b) = [] := by
        rw [List.filter_cons, if_neg (by rw [z]; decide)]
        rfl
      rw [e, List.append_nil] at st
      exact st pf pb hs
theorem xw_pp24 {kd fi se : Nat → Nat} (V : vw a_wayKind a_wayFirst a_waySecond kd fi se) (K : vk kd fi se) {T : Nat → Int32} (hm : f_mergeSet = rm T) (hd : ∀ b, b < 8 → a_dominatorSet b = rd T b) (hlo : f_loopSet = rl T)
    {post : SX → Prop} {b : Nat} (hb : b < 8) {S1 : List (Nat × Nat)} {ol : List Nat} (O : odl a_order ol) (h8 : ∀ c, c ∈ ol → c < 8) (l8 : ol.length ≤ 8) (hl : S1.length < 90)
    (hp : ∀ pf pb, stk pf pb (lk_t (lps T) 1 b (lk_scs (mul T ol b) ((5, b) :: (lk_way (ef T) kd fi se b ++ (lk_ends (mul T ol b) ++ S1))))) → post (f_liveSet, f_loopSet, f_mergeSet, f_orderedSet, nI ol.length, nI (lk_t (lps T) 1 b (lk_scs (mul T ol b) ((5, b) :: (lk_way (ef T) kd fi se b ++ (lk_ends (mul T ol b) ++ S1))))).length, f_codeLength, f_outCount, f_carriedCount, f_lastOutcome, a_actionKind, a_actionNumber, a_wayKind, a_wayFirst, a_waySecond, a_dominatorSet, a_forwardSet, a_order, pf, pb, a_codeForm, a_codeBlock, a_loopPlace, a_scopeEndPlace, a_elsePlace, a_registers, a_visitCounts, a_outNumbers)) :
    ∀ i n pf pb, i ≤ ol.length → i < n → stk pf pb (lk_ends ((ol.drop i).filter (mub T b)) ++ S1) →
      wX_pushPiece_24 post (nI b) n (nI i - 1) f_liveSet f_loopSet f_mergeSet f_orderedSet (nI ol.length) (nI (lk_ends ((ol.drop i).filter (mub T b)) ++ S1).length) f_codeLength f_outCount f_carriedCount f_lastOutcome a_actionKind a_actionNumber a_wayKind a_wayFirst a_waySecond a_dominatorSet a_forwardSet a_order pf pb a_codeForm a_codeBlock a_loopPlace a_scopeEndPlace a_elsePlace a_registers a_visitCounts a_outNumbers := by
  have ln : ∀ i, (lk_ends ((ol.drop i).filter (mub T b)) ++ S1).length ≤ 16 + S1.length := by
    intro i
    rw [List.length_append, lk_ends_l]
    have a := List.length_filter_le (mub T b) (ol.drop i)
    rw [List.length_drop] at a
    omega
  have lw : (lk_way (ef T) kd fi se b).length ≤ 5 := by
    rw [← lk_1_len]
    exact lk_way_len (ef T) kd fi se b
  intro i
  induction i with
  | zero =>
    intro n pf pb hi hn hs
    obtain ⟨k, rfl⟩ : ∃ k, n = k + 1 := ⟨n - 1, by omega⟩
    have l0 := ln 0
    rw [List.drop_zero] at hs l0 ⊢
    refine br_t (by decide) (xw_pw V K (T := T) hm hd hb (by omega) hs (fun pf1 pb1 s1 => ?_))
    refine xw_push (f := 5) (x := b) (by rw [List.length_append]; omega) s1 (fun pf2 pb2 s2 => ⟨9, ?_⟩)
    refine xw_pp83 (T := T) (b := b) (ol := ol) (L0 := (5, b) :: (lk_way (ef T) kd fi se b ++ (lk_ends (mul T ol b) ++ S1))) hm hd hlo hb O h8 l8 ?_ hp ol.length 0 9 pf2 pb2 (Nat.zero_add _) (by omega) s2
    rw [List.length_cons, List.length_append]
    unfold mul
    omega
  | succ i ih =>
    intro n pf pb hi hn hs
    obtain ⟨k, rfl⟩ : ∃ k, n = k + 1 := ⟨n - 1, by omega⟩
    have hil : i < ol.length := by omega
    obtain ⟨c, hc⟩ : ∃ c, ol[i]? = some c := ⟨ol[i], List.getElem?_eq_getElem hil⟩
    have oc : a_order (nI i).toNatClampNeg = nI c := by
      rw [nI_clamp (by omega)]
      exact O i c hc
    have c8 : c < 8 := h8 c (List.mem_of_getElem? hc)
    have hin : vp_in (nI i) 8 := vp_in_nI (by omega) (by decide)
    have dp : ol.drop i = c :: ol.drop (i + 1) := by
      obtain ⟨hp', e⟩ := List.getElem?_eq_some_iff.mp hc
      rw [List.drop_eq_getElem_cons hp', e]
    have st := fun pf pb => ih k pf pb (by omega) (by omega)
    rw [dp, List.filter_cons] at st
    rw [nI_pred]
    have m1 : nI i + (-1) = nI i - 1 := by rw [Int32.sub_eq_add_neg]
    refine br_f (nI_pos (by omega)) ⟨hin, ?_⟩
    rw [oc]
    refine xw_mu (T := T) hb c8 hm hd (fun z => br_f x10 ⟨hin, ?_⟩) (fun z => br_t rfl (nm_r m1 ?_))
    · rw [if_pos z] at st
      have la := ln (i + 1)
      exact xw_push (f := 0) (x := c) (by omega) hs (fun pf1 pb1 s1 => ⟨hin, by
        rw [oc]
        exact xw_push (f := 4) (x := c) (by rw [List.length_cons]; omega) s1 (fun pf2 pb2 s2 => nm_r m1 (st pf2 pb2 s2))⟩)
    · rw [if_neg (by rw [z]; decide)] at st
      exact st pf pb hs
theorem xw_pp {kd fi se : Nat → Nat} (V : vw a_wayKind a_wayFirst a_waySecond kd fi se) (K : vk kd fi se) {T : Nat → Int32} (hm : f_mergeSet = rm T) (hd : ∀ b, b < 8 → a_dominatorSet b = rd T b) (hlo : f_loopSet = rl T)
    {post : SX → Prop} {b : Nat} (hb : b < 8) {S : List (Nat × Nat)} {ol : List Nat} (hoc : f_orderedCount = nI ol.length) (O : odl a_order ol) (h8 : ∀ c, c ∈ ol → c < 8) (l8 : ol.length ≤ 8) (hl : S.length < 89) (hs : stk a_pendingForm a_pendingBlock S)
    (hp : ∀ pf pb, stk pf pb (lk_ex (lps T) (mul T ol) (ef T) kd fi se b S) → post (f_liveSet, f_loopSet, f_mergeSet, f_orderedSet, f_orderedCount, nI (lk_ex (lps T) (mul T ol) (ef T) kd fi se b S).length, f_codeLength, f_outCount, f_carriedCount, f_lastOutcome, a_actionKind, a_actionNumber, a_wayKind, a_wayFirst, a_waySecond, a_dominatorSet, a_forwardSet, a_order, pf, pb, a_codeForm, a_codeBlock, a_loopPlace, a_scopeEndPlace, a_elsePlace, a_registers, a_visitCounts, a_outNumbers)) :
    wpX_pushPiece post (f_liveSet, f_loopSet, f_mergeSet, f_orderedSet, f_orderedCount, nI S.length, f_codeLength, f_outCount, f_carriedCount, f_lastOutcome, a_actionKind, a_actionNumber, a_wayKind, a_wayFirst, a_waySecond, a_dominatorSet, a_forwardSet, a_order, a_pendingForm, a_pendingBlock, a_codeForm, a_codeBlock, a_loopPlace, a_scopeEndPlace, a_elsePlace, a_registers, a_visitCounts, a_outNumbers) (nI b) := by
  subst hoc
  have go : ∀ pf pb, stk pf pb (lk_t (lps T) 2 b S) → wX_pushPiece_24 post (nI b) 10 (nI ol.length - 1) f_liveSet f_loopSet f_mergeSet f_orderedSet (nI ol.length) (nI (lk_t (lps T) 2 b S).length) f_codeLength f_outCount f_carriedCount f_lastOutcome a_actionKind a_actionNumber a_wayKind a_wayFirst a_waySecond a_dominatorSet a_forwardSet a_order pf pb a_codeForm a_codeBlock a_loopPlace a_scopeEndPlace a_elsePlace a_registers a_visitCounts a_outNumbers := by
    intro pf pb h
    have e : lk_ends ((ol.drop ol.length).filter (mub T b)) ++ lk_t (lps T) 2 b S = lk_t (lps T) 2 b S := by
      rw [List.drop_length]
      rfl
    have l90 : (lk_t (lps T) 2 b S).length < 90 := by
      unfold lk_t
      split
      · rw [List.length_cons]
        omega
      · omega
    have g := xw_pp24 V K hm hd hlo hb O h8 l8 l90 hp ol.length 10 pf pb (Nat.le_refl _) (by omega)
    rw [e] at g
    exact g h
  unfold lk_t lps at go
  unfold wpX_pushPiece
  dsimp only
  refine xw_has hb (fun z => br_f x10 ?_) (fun z => br_t rfl ?_)
  · rw [hlo] at z
    rw [if_pos z] at go
    exact xw_push (f := 2) (x := b) (by omega) hs (fun pf pb s => nm_e ⟨10, go pf pb s⟩)
  · rw [hlo] at z
    rw [if_neg (by rw [z]; decide)] at go
    exact nm_e ⟨10, go _ _ hs⟩
end
