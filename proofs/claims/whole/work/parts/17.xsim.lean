/-! the component's walk over its code is the walk of the blocks -/
section
variable {f_liveSet f_loopSet f_mergeSet f_orderedSet f_orderedCount f_pendingCount f_codeLength f_outCount f_carriedCount f_lastOutcome : Int32} {a_actionKind a_actionNumber a_wayKind a_wayFirst a_waySecond a_dominatorSet a_forwardSet a_order a_pendingForm a_pendingBlock a_codeForm a_codeBlock a_loopPlace a_scopeEndPlace a_elsePlace a_registers a_visitCounts a_outNumbers : Nat → Int32}
theorem xs_skip {A : List (Nat × Nat)} (hc : cod a_codeForm a_codeBlock A) (hl : A.length ≤ 78) (Z0 : ∀ x, ¬ (0, x) ∈ A) {post : SX → Prop} {b : Nat} :
    ∀ m p n st, A.length ≤ p + m → lk_nd b (A.drop p) → m ≤ n → st + m < 1000000 →
      (∀ n' st' q, n ≤ n' + m → st' ≤ st + m → A[q]? = some (5, b) → wX_runCode_4 post n' (nI q) (nI st') f_liveSet f_loopSet f_mergeSet f_orderedSet f_orderedCount f_pendingCount (nI A.length) f_outCount f_carriedCount 0 a_actionKind a_actionNumber a_wayKind a_wayFirst a_waySecond a_dominatorSet a_forwardSet a_order a_pendingForm a_pendingBlock a_codeForm a_codeBlock a_loopPlace a_scopeEndPlace a_elsePlace a_registers a_visitCounts a_outNumbers) →
      wX_runCode_4 post n (nI p) (nI st) f_liveSet f_loopSet f_mergeSet f_orderedSet f_orderedCount f_pendingCount (nI A.length) f_outCount f_carriedCount 0 a_actionKind a_actionNumber a_wayKind a_wayFirst a_waySecond a_dominatorSet a_forwardSet a_order a_pendingForm a_pendingBlock a_codeForm a_codeBlock a_loopPlace a_scopeEndPlace a_elsePlace a_registers a_visitCounts a_outNumbers := by
  intro m
  induction m with
  | zero =>
    intro p n st h1 h2 _ _ _
    rw [List.drop_eq_nil_of_le (i := p) (by omega)] at h2
    exact h2.elim
  | succ m ih =>
    intro p n st h1 h2 h3 h4 h5
    cases e : A.drop p with
    | nil =>
      rw [e] at h2
      exact h2.elim
    | cons i r =>
      obtain ⟨f, x⟩ := i
      obtain ⟨d1, d2, d3⟩ := dr_c e
      rw [e] at h2
      have h2' : if f = 1 ∨ f = 3 then lk_nd b r else ((f = 0 ∨ f = 5) ∧ x = b) := h2
      by_cases w : f = 1 ∨ f = 3
      · rw [if_pos w] at h2'
        obtain ⟨k, rfl⟩ : ∃ k, n = k + 1 := ⟨n - 1, by omega⟩
        refine xr_d hc hl d1 (by omega) (by omega) (ih (p + 1) k (st + 1) (by omega) (by rw [d2]; exact h2') (by omega) (by omega) (fun n' st' q q1 q2 q3 => h5 n' st' q (by omega) (by omega) q3))
      · rw [if_neg w] at h2'
        obtain ⟨w1, w2⟩ := h2'
        subst w2
        rcases w1 with w1 | w1
        · subst w1
          exact absurd (List.mem_of_getElem? d1) (Z0 x)
        · subst w1
          exact h5 n st p (by omega) (by omega) d1
theorem xs_edge {kd fi se : Nat → Nat} (K : vk kd fi se) {T : Nat → Int32} (hT : T = tm kd fi se) {ol : List Nat} (OK : olk T ol) {A : List (Nat × Nat)} (hc : cod a_codeForm a_codeBlock A) (hl : A.length ≤ 78) (P1 : plc 1 a_loopPlace A) (P4 : plc 4 a_scopeEndPlace A)
    (I : lk_I (lps T) (mul T ol) (ef T) kd fi se (rk T) (rv T) A) (AL : ∀ c, rv T c → (5, c) ∈ A) {post : SX → Prop} {b c p n st : Nat} (hb : rv T b) (hbc : bt (T b) c = true) (h : lk_ed (ef T) b c (A.drop p)) (hn : 1 ≤ n) (hs : st < 1000000)
    (hk : ∀ p' n' st', n ≤ n' + 1 → st' ≤ st + 1 → lk_nd c (A.drop p') → wX_runCode_4 post n' (nI p') (nI st') f_liveSet f_loopSet f_mergeSet f_orderedSet f_orderedCount f_pendingCount (nI A.length) f_outCount f_carriedCount 0 a_actionKind a_actionNumber a_wayKind a_wayFirst a_waySecond a_dominatorSet a_forwardSet a_order a_pendingForm a_pendingBlock a_codeForm a_codeBlock a_loopPlace a_scopeEndPlace a_elsePlace a_registers a_visitCounts a_outNumbers) :
    wX_runCode_4 post n (nI p) (nI st) f_liveSet f_loopSet f_mergeSet f_orderedSet f_orderedCount f_pendingCount (nI A.length) f_outCount f_carriedCount 0 a_actionKind a_actionNumber a_wayKind a_wayFirst a_waySecond a_dominatorSet a_forwardSet a_order a_pendingForm a_pendingBlock a_codeForm a_codeBlock a_loopPlace a_scopeEndPlace a_elsePlace a_registers a_visitCounts a_outNumbers := by
  have tl : rt_lo T := by
    rw [hT]
    exact tg_lo K
  have b8 := rr_lt tl hb
  have c8 : c < 8 := rs_lt8 (tl b b8) hbc
  have hcv : rv T c := rv_s b8 hb hbc
  obtain ⟨i1, i2, i3, i4, i5, i6, i7⟩ := I
  rcases ef_3 T b c with e | e | e
  · exact hk p n st (by omega) (by omega) (h.1 e)
  · obtain ⟨r, er⟩ := h.2 (by omega)
    rw [e] at er
    obtain ⟨d1, d2, d3⟩ := dr_c er
    have mc : bt (rm T) c = true := by
      unfold ef at e
      split at e
      · exact absurd e (by decide)
      · split at e
        · assumption
        · exact absurd e (by decide)
    have c0 : c ≠ 0 := by
      intro z
      rw [z, rm_n0 tl] at mc
      cases mc
    obtain ⟨b', hb', _⟩ := rk_ex tl hcv c0
    have inm : c ∈ mul T ol b' := by
      refine List.mem_filter.mpr ⟨(OK.2 c).mpr hcv, (mub_iff T b' c).mpr ?_⟩
      rcases hb'.2.2.2.2 with q | q
      · exact q
      · rw [mc] at q
        cases q.1
    obtain ⟨j, j1, j2⟩ := P4 c ((i5 b' (AL b' hb'.2.2.1)).2.2.1 c inm)
    have nd := (lk_ok_g i1 j1).2.1 rfl
    obtain ⟨k, rfl⟩ : ∃ k, n = k + 1 := ⟨n - 1, by omega⟩
    exact xr_9 hc hl d1 c8 j2 hs (hk (j + 1) k (st + 1) (by omega) (by omega) nd)
  · obtain ⟨r, er⟩ := h.2 (by omega)
    rw [e] at er
    obtain ⟨d1, d2, d3⟩ := dr_c er
    have dc : bt (rd T b) c = true := by
      unfold ef at e
      split at e
      · assumption
      · split at e
        · exact absurd e (by decide)
        · exact absurd e (by decide)
    have lc : lps T c = true := rl_to ((rg_iff tl b c).mpr ⟨hb, hbc⟩) dc 8 b8
    obtain ⟨j, j1, j2⟩ := P1 c ((i5 c (AL c hcv)).1 lc)
    have nd := (lk_ok_g i1 j1).1 rfl
    have nd' : lk_nd c (A.drop j) := by
      rw [dr_g j1]
      show if (1 : Nat) = 1 ∨ (1 : Nat) = 3 then _ else _
      rw [if_pos (Or.inl rfl)]
      exact nd
    obtain ⟨k, rfl⟩ : ∃ k, n = k + 1 := ⟨n - 1, by omega⟩
    exact xr_10 hc hl d1 c8 j2 hs (hk j k (st + 1) (by omega) (by omega) nd')
theorem xs_sim {kd fi se : Nat → Nat} (V : vw a_wayKind a_wayFirst a_waySecond kd fi se) (K : vk kd fi se) {T : Nat → Int32} (hT : T = tm kd fi se) {ol : List Nat} (OK : olk T ol) {ac : Nat → Nat} (VA : va a_actionKind a_actionNumber ac)
    {A : List (Nat × Nat)} (hc : cod a_codeForm a_codeBlock A) (hl : A.length ≤ 78) (P1 : plc 1 a_loopPlace A) (P4 : plc 4 a_scopeEndPlace A) (P7 : plc 7 a_elsePlace A) (Z0 : ∀ x, ¬ (0, x) ∈ A)
    (I : lk_I (lps T) (mul T ol) (ef T) kd fi se (rk T) (rv T) A) (AL : ∀ c, rv T c → (5, c) ∈ A) {post : SX → Prop} :
    ∀ fl b k rg os vs n st p rs vc on, fl + k = 80 → rv T b → lk_nd b (A.drop p) → 100 * (fl + 1) ≤ n → st + 100 * (fl + 1) < 1000000 → os.length ≤ k →
      (∀ i, i < 3 → rs i = rg i) → (∀ i, i < 8 → vc i = vs i) → ouX on os →
      (∀ rs' vc' on', (∀ i, i < 3 → rs' i = (pu ac a_actionNumber kd fi se fl b rg os vs k).1 i) → (∀ i, i < 8 → vc' i = (pu ac a_actionNumber kd fi se fl b rg os vs k).2.2.1 i) → ouX on' (pu ac a_actionNumber kd fi se fl b rg os vs k).2.1 →
        post (f_liveSet, f_loopSet, f_mergeSet, f_orderedSet, f_orderedCount, f_pendingCount, nI A.length, nI (pu ac a_actionNumber kd fi se fl b rg os vs k).2.1.length, nI (pu ac a_actionNumber kd fi se fl b rg os vs k).2.2.2.1, nI (pu ac a_actionNumber kd fi se fl b rg os vs k).2.2.2.2, a_actionKind, a_actionNumber, a_wayKind, a_wayFirst, a_waySecond, a_dominatorSet, a_forwardSet, a_order, a_pendingForm, a_pendingBlock, a_codeForm, a_codeBlock, a_loopPlace, a_scopeEndPlace, a_elsePlace, rs', vc', on')) →
      wX_runCode_4 post n (nI p) (nI st) f_liveSet f_loopSet f_mergeSet f_orderedSet f_orderedCount f_pendingCount (nI A.length) (nI os.length) (nI k) 0 a_actionKind a_actionNumber a_wayKind a_wayFirst a_waySecond a_dominatorSet a_forwardSet a_order a_pendingForm a_pendingBlock a_codeForm a_codeBlock a_loopPlace a_scopeEndPlace a_elsePlace rs vc on := by
  have tl : rt_lo T := by
    rw [hT]
    exact tg_lo K
  intro fl
  induction fl with
  | zero =>
    intro b k rg os vs n st p rs vc on hk hb hnd hn hs ho hr hv hx hp
    obtain rfl : k = 80 := by omega
    refine xs_skip hc hl Z0 (A.length - p) p n st (by omega) hnd (by omega) (by omega) (fun n' st' q q1 q2 q3 => ?_)
    obtain ⟨w, rfl⟩ : ∃ w, n' = w + 2 := ⟨n' - 2, by omega⟩
    exact xr_5t hc hl q3 (rr_lt tl hb) (by omega) (hp rs vc on hr hv hx)
  | succ fl ih =>
    intro b k rg os vs n st p rs vc on hk hb hnd hn hs ho hr hv hx hp
    have b8 := rr_lt tl hb
    obtain ⟨v1, v2, v3⟩ := K b b8
    refine xs_skip hc hl Z0 (A.length - p) p n st (by omega) hnd (by omega) (by omega) (fun n' st' q q1 q2 q3 => ?_)
    obtain ⟨w, rfl⟩ : ∃ w, n' = w + 1 := ⟨n' - 1, by omega⟩
    refine xr_5 VA hc hl q3 b8 (by omega) (by omega) ho hr hv hx (fun rs' vc' on' r1 r2 r3 => ?_)
    have wy := (lk_ok_g I.1 q3).2.2.1 rfl
    by_cases k0 : kd b = 0
    · rw [pu_z _ _ _ _ _ _ _ _ _ _ _ k0] at hp
      obtain ⟨r, er⟩ := wy.1 k0
      obtain ⟨d1, d2, d3⟩ := dr_c er
      obtain ⟨w2, rfl⟩ : ∃ w2, w = w2 + 2 := ⟨w - 2, by omega⟩
      exact xr_11 hc hl d1 (by omega) (hp rs' vc' on' r1 r2 r3)
    · rw [pu_s _ _ _ _ _ _ _ _ _ _ _ k0] at hp
      have ol1 := pu_ol ac b rg os
      have key : bt (T b) (pu_nx kd fi se b (pu_rg ac a_actionNumber b rg)) = true → ∀ p' n' st'', w ≤ n' + 2 → st'' ≤ st' + 3 → lk_nd (pu_nx kd fi se b (pu_rg ac a_actionNumber b rg)) (A.drop p') →
          wX_runCode_4 post n' (nI p') (nI st'') f_liveSet f_loopSet f_mergeSet f_orderedSet f_orderedCount f_pendingCount (nI A.length) (nI (pu_os ac b rg os).length) (nI (k + 1)) 0 a_actionKind a_actionNumber a_wayKind a_wayFirst a_waySecond a_dominatorSet a_forwardSet a_order a_pendingForm a_pendingBlock a_codeForm a_codeBlock a_loopPlace a_scopeEndPlace a_elsePlace rs' vc' on' := by
        intro hbt p' n' st'' g1 g2 g3
        exact ih _ (k + 1) _ _ _ n' st'' p' rs' vc' on' (by omega) (rv_s b8 hb hbt) g3 (by omega) (by omega) (by omega) r1 r2 r3 hp
      by_cases e1 : kd b = 1 ∨ fi b = se b
      · have nx : pu_nx kd fi se b (pu_rg ac a_actionNumber b rg) = fi b := by
          unfold pu_nx
          split
          · rfl
          · rename_i z
            rcases e1 with e1 | e1
            · exact absurd (Or.inl e1) z
            · exact e1.symm
        rw [nx] at key
        have hbt : bt (T b) (fi b) = true := by
          rw [hT]
          exact (tg_iff K b8 _).mpr ⟨k0, Or.inl rfl⟩
        exact xs_edge K hT OK hc hl P1 P4 I AL hb hbt (wy.2.1 k0 e1) (by omega) (by omega) (fun p' n' st'' g1 g2 g3 => key hbt p' n' st'' (by omega) (by omega) g3)
      · have k2 : 2 ≤ kd b := by omega
        obtain ⟨r, er, ed⟩ := wy.2.2 k0 e1
        obtain ⟨d1, d2, d3⟩ := dr_c er
        rw [← d2] at ed
        obtain ⟨j, j1, j2⟩ := P7 b ((I.2.2.2.2.1 b (AL b hb)).2.1 k0 e1)
        have ee := (lk_ok_g I.1 j1).2.2.2 rfl
        have rk2 := r1 (kd b - 2) (by omega)
        obtain ⟨w2, rfl⟩ : ∃ w2, w = w2 + 1 := ⟨w - 1, by omega⟩
        refine xr_6 V K hc hl d1 b8 k2 j2 (by omega) (fun z => ?_) (fun z => ?_)
        · rw [rk2] at z
          have nx : pu_nx kd fi se b (pu_rg ac a_actionNumber b rg) = fi b := if_pos (Or.inr z)
          rw [nx] at key
          have hbt : bt (T b) (fi b) = true := by
            rw [hT]
            exact (tg_iff K b8 _).mpr ⟨k0, Or.inl rfl⟩
          exact xs_edge K hT OK hc hl P1 P4 I AL hb hbt ed (by omega) (by omega) (fun p' n' st'' g1 g2 g3 => key hbt p' n' st'' (by omega) (by omega) g3)
        · rw [rk2] at z
          have nx : pu_nx kd fi se b (pu_rg ac a_actionNumber b rg) = se b := if_neg (fun y => by
            rcases y with y | y
            · exact e1 (Or.inl y)
            · exact z y)
          rw [nx] at key
          have hbt : bt (T b) (se b) = true := by
            rw [hT]
            exact (tg_iff K b8 _).mpr ⟨k0, Or.inr ⟨k2, rfl⟩⟩
          exact xs_edge K hT OK hc hl P1 P4 I AL hb hbt ee (by omega) (by omega) (fun p' n' st'' g1 g2 g3 => key hbt p' n' st'' (by omega) (by omega) g3)
end
