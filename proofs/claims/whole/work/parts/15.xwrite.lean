/-! writeCode -/
def bl (L : List (Nat × Nat)) : Prop := ∀ i, i ∈ L → i.1 ≤ 11 ∧ i.2 < 8
theorem bl_k {f x : Nat} (h : f ≤ 11) (h' : x < 8) : ((f, x) : Nat × Nat).1 ≤ 11 ∧ ((f, x) : Nat × Nat).2 < 8 := ⟨h, h'⟩
theorem bl_ex {kd fi se : Nat → Nat} (K : vk kd fi se) (T : Nat → Int32) {ol : List Nat} (h8 : ∀ c, c ∈ ol → c < 8) {b : Nat} (hb : b < 8) {S : List (Nat × Nat)} (h : bl S) : bl (lk_ex (lps T) (mul T ol) (ef T) kd fi se b S) := by
  obtain ⟨k1, k2, k3⟩ := K b hb
  have m8 : ∀ m, m ∈ mul T ol b → m < 8 := fun m hm => h8 m ((List.mem_filter.mp hm).1)
  have e11 : ∀ c, ef T b c ≤ 11 := fun c => by
    have := ef_3 T b c
    omega
  intro i hi
  rcases (lk_m_ex _ _ _ _ _ _ i b S).mp hi with ⟨_, z⟩ | ⟨m, hm, z⟩ | z | z | z | ⟨_, z⟩ | z
  · rw [z]
    exact bl_k (by decide) hb
  · rw [z]
    exact bl_k (by decide) (m8 m hm)
  · rw [z]
    exact bl_k (by decide) hb
  · unfold lk_way at z
    by_cases k0 : kd b = 0
    · rw [if_pos k0] at z
      rw [List.mem_singleton.mp z]
      exact bl_k (by decide) hb
    · rw [if_neg k0] at z
      by_cases e1 : kd b = 1 ∨ fi b = se b
      · rw [if_pos e1] at z
        rw [List.mem_singleton.mp z]
        exact ⟨e11 _, k2 k0⟩
      · rw [if_neg e1] at z
        have g2 : 2 ≤ kd b := by omega
        rcases List.mem_cons.mp z with z | z
        · rw [z]
          exact bl_k (by decide) hb
        · rcases List.mem_cons.mp z with z | z
          · rw [z]
            exact ⟨e11 _, k2 k0⟩
          · rcases List.mem_cons.mp z with z | z
            · rw [z]
              exact bl_k (by decide) hb
            · rcases List.mem_cons.mp z with z | z
              · rw [z]
                exact ⟨e11 _, k3 g2⟩
              · rw [List.mem_singleton.mp z]
                exact bl_k (by decide) hb
  · obtain ⟨m, hm, z⟩ := (lk_m_ends _ _).mp z
    rcases z with z | z
    · rw [z]
      exact bl_k (by decide) (m8 m hm)
    · rw [z]
      exact bl_k (by decide) (m8 m hm)
  · rw [z]
    exact bl_k (by decide) hb
  · exact h i z
theorem nI_n {a b : Nat} (ha : a < 2 ^ 31) (hb : b < 2 ^ 31) (h : a ≠ b) : ¬ nI a = nI b := fun z => h ((nI_eq ha hb).mp z)
section
variable {f_liveSet f_loopSet f_mergeSet f_orderedSet f_orderedCount f_pendingCount f_codeLength f_outCount f_carriedCount f_lastOutcome : Int32} {a_actionKind a_actionNumber a_wayKind a_wayFirst a_waySecond a_dominatorSet a_forwardSet a_order a_pendingForm a_pendingBlock a_codeForm a_codeBlock a_loopPlace a_scopeEndPlace a_elsePlace a_registers a_visitCounts a_outNumbers : Nat → Int32}
theorem xw_write {post : SX → Prop} {A : List (Nat × Nat)} {f x : Nat} (hl : A.length < 128) (hf : f ≤ 11) (hx : x < 8) (hc : cod a_codeForm a_codeBlock A) (h1 : plc 1 a_loopPlace A) (h4 : plc 4 a_scopeEndPlace A) (h7 : plc 7 a_elsePlace A)
    (hp : ∀ cf cb lp sp el, cod cf cb (A ++ [(f, x)]) → plc 1 lp (A ++ [(f, x)]) → plc 4 sp (A ++ [(f, x)]) → plc 7 el (A ++ [(f, x)]) →
      post (f_liveSet, f_loopSet, f_mergeSet, f_orderedSet, f_orderedCount, f_pendingCount, nI (A ++ [(f, x)]).length, f_outCount, f_carriedCount, f_lastOutcome, a_actionKind, a_actionNumber, a_wayKind, a_wayFirst, a_waySecond, a_dominatorSet, a_forwardSet, a_order, a_pendingForm, a_pendingBlock, cf, cb, lp, sp, el, a_registers, a_visitCounts, a_outNumbers)) : wpX_write post (f_liveSet, f_loopSet, f_mergeSet, f_orderedSet, f_orderedCount, f_pendingCount, nI A.length, f_outCount, f_carriedCount, f_lastOutcome, a_actionKind, a_actionNumber, a_wayKind, a_wayFirst, a_waySecond, a_dominatorSet, a_forwardSet, a_order, a_pendingForm, a_pendingBlock, a_codeForm, a_codeBlock, a_loopPlace, a_scopeEndPlace, a_elsePlace, a_registers, a_visitCounts, a_outNumbers) (nI f) (nI x) := by
  have hi : vp_in (nI A.length) 128 := vp_in_nI hl (by decide)
  have c : (nI A.length).toNatClampNeg = A.length := nI_clamp (by omega)
  have e : nI A.length + 1 = nI (A ++ [(f, x)]).length := by
    rw [nI_1, List.length_append]
    rfl
  have cx := xw_c hx
  have hx' := xw_in hx
  have hc' := cod_a f x hc
  refine br_t (nI_lt (b := 128) hl (by decide)) ⟨hi, nm_r (by rw [c]) ⟨hi, nm_r (by rw [c]) ?_⟩⟩
  by_cases f1 : f = 1
  · subst f1
    exact br_t rfl ⟨hx', nm_r (by rw [cx]) (nm_r e (hp _ _ _ _ _ hc' (plc_s h1) (plc_o (by decide) h4) (plc_o (by decide) h7)))⟩
  · refine br_f (nI_n (b := 1) (by omega) (by decide) f1) ?_
    by_cases f4 : f = 4
    · subst f4
      exact br_t rfl ⟨hx', nm_r (by rw [cx]) (nm_r e (hp _ _ _ _ _ hc' (plc_o f1 h1) (plc_s h4) (plc_o (by decide) h7)))⟩
    · refine br_f (nI_n (b := 4) (by omega) (by decide) f4) ?_
      by_cases f7 : f = 7
      · subst f7
        exact br_t rfl ⟨hx', nm_r (by rw [cx]) (nm_r e (hp _ _ _ _ _ hc' (plc_o f1 h1) (plc_o f4 h4) (plc_s h7)))⟩
      · exact br_f (nI_n (b := 7) (by omega) (by decide) f7) (nm_r e (hp _ _ _ _ _ hc' (plc_o f1 h1) (plc_o f4 h4) (plc_o f7 h7)))
theorem xw_wc {kd fi se : Nat → Nat} (V : vw a_wayKind a_wayFirst a_waySecond kd fi se) (K : vk kd fi se) {T : Nat → Int32} (hT : T = tm kd fi se) (hm : f_mergeSet = rm T) (hd : ∀ b, b < 8 → a_dominatorSet b = rd T b) (hlo : f_loopSet = rl T)
    {post : SX → Prop} {ol : List Nat} (hoc : f_orderedCount = nI ol.length) (O : odl a_order ol) (OK : olk T ol)
    (hp : ∀ pc pf pb cf cb lp sp el A, cod cf cb A → plc 1 lp A → plc 4 sp A → plc 7 el A → lk_I (lps T) (mul T ol) (ef T) kd fi se (rk T) (rv T) A → bl A → (∀ x, ¬ (0, x) ∈ A) → lk_nd 0 A →
      post (f_liveSet, f_loopSet, f_mergeSet, f_orderedSet, f_orderedCount, pc, nI A.length, f_outCount, f_carriedCount, f_lastOutcome, a_actionKind, a_actionNumber, a_wayKind, a_wayFirst, a_waySecond, a_dominatorSet, a_forwardSet, a_order, pf, pb, cf, cb, lp, sp, el, a_registers, a_visitCounts, a_outNumbers)) : wpX_writeCode post (f_liveSet, f_loopSet, f_mergeSet, f_orderedSet, f_orderedCount, f_pendingCount, f_codeLength, f_outCount, f_carriedCount, f_lastOutcome, a_actionKind, a_actionNumber, a_wayKind, a_wayFirst, a_waySecond, a_dominatorSet, a_forwardSet, a_order, a_pendingForm, a_pendingBlock, a_codeForm, a_codeBlock, a_loopPlace, a_scopeEndPlace, a_elsePlace, a_registers, a_visitCounts, a_outNumbers) := by
  have tl : rt_lo T := by
    rw [hT]
    exact tg_lo K
  have h8 : ∀ c, c ∈ ol → c < 8 := fun c hc => rr_lt tl ((OK.2 c).mp hc)
  have l8 : ol.length ≤ 8 := lk_n_len OK.1 h8
  have H := sh_H K hT OK
  have lp18 : ∀ d i n pf pb cf cb lp sp el A L, i + d = 100 → d < n → stk pf pb L → cod cf cb A → plc 1 lp A → plc 4 sp A → plc 7 el A → lk_I (lps T) (mul T ol) (ef T) kd fi se (rk T) (rv T) (A ++ L) → bl (A ++ L) → (∀ x, ¬ (0, x) ∈ A) → lk_nd 0 (A ++ L) →
      i = A.length + lk_w lk_D (A ++ L) →
      wX_writeCode_18 post n (nI i) f_liveSet f_loopSet f_mergeSet f_orderedSet f_orderedCount (nI L.length) (nI A.length) f_outCount f_carriedCount f_lastOutcome a_actionKind a_actionNumber a_wayKind a_wayFirst a_waySecond a_dominatorSet a_forwardSet a_order pf pb cf cb lp sp el a_registers a_visitCounts a_outNumbers := by
    intro d
    induction d with
    | zero =>
      intro i n pf pb cf cb lp sp el A L hi hn hs hc h1 h4 h7 I B Z N E
      obtain ⟨q1, q2⟩ := lk_I_n _ _ _ _ _ _ _ _ H I
      rw [List.length_append] at q2
      omega
    | succ d ih =>
      intro i n pf pb cf cb lp sp el A L hi hn hs hc h1 h4 h7 I B Z N E
      obtain ⟨k, rfl⟩ : ∃ k, n = k + 1 := ⟨n - 1, by omega⟩
      obtain ⟨q1, q2⟩ := lk_I_n _ _ _ _ _ _ _ _ H I
      rw [List.length_append] at q2
      refine br_f (x128_f (by omega)) ?_
      cases L with
      | nil =>
        rw [List.append_nil] at I B N
        exact br_t (by decide) (hp _ _ _ _ _ _ _ _ A hc h1 h4 h7 I B Z N)
      | cons it S =>
        obtain ⟨f, x⟩ := it
        rw [List.length_cons] at q2
        obtain ⟨s1, s2, s3⟩ := hs
        have b1 := B (f, x) (List.mem_append.mpr (Or.inr (List.mem_cons_self ..)))
        have f11 : f ≤ 11 := b1.1
        have x8 : x < 8 := b1.2
        have cS : (nI S.length).toNatClampNeg = S.length := nI_clamp (by omega)
        have hin : vp_in (nI S.length) 128 := vp_in_nI (by omega) (by decide)
        refine br_f (nI_nle (Nat.succ_pos _) (by rw [List.length_cons]; omega)) (nm_r (nI_pred S.length) ⟨hin, nm_r (e' := nI f) (by rw [cS]; exact s1) ⟨hin, nm_r (e' := nI x) (by rw [cS]; exact s2) ?_⟩⟩)
        by_cases f0 : f = 0
        · subst f0
          refine br_t rfl (xw_pp V K (T := T) hm hd hlo x8 hoc O h8 l8 (by omega) s3 (fun pf' pb' s' => nm_r (nI_1 i) ?_))
          refine ih (i + 1) k pf' pb' cf cb lp sp el A _ (by omega) (by omega) s' hc h1 h4 h7 (lk_I_r _ _ _ _ _ _ _ _ H A S x I) ?_ Z (lk_nd_r _ _ _ _ _ _ 0 x S A N) ?_
          · intro j hj
            rcases List.mem_append.mp hj with hj | hj
            · exact B j (List.mem_append.mpr (Or.inl hj))
            · exact bl_ex K T h8 x8 (fun y hy => B y (List.mem_append.mpr (Or.inr (List.mem_cons_of_mem _ hy)))) j hj
          · obtain ⟨_, _, e3⟩ := lk_nm_ex (lps T) (mul T ol) (ef T) (ef_3 T) kd fi se x S
            rw [lk_w_a] at E ⊢
            rw [e3]
            have e4 : lk_w lk_D ((0, x) :: S) = 0 + lk_w lk_D S := rfl
            omega
        · refine br_f (nI_n (b := 0) (by omega) (by decide) f0) (xw_write (by omega) f11 x8 hc h1 h4 h7 (fun cf' cb' lp' sp' el' c' p1 p4 p7 => nm_r (nI_1 i) ?_))
          have as : A ++ [(f, x)] ++ S = A ++ (f, x) :: S := by rw [List.append_assoc]; rfl
          refine ih (i + 1) k pf pb cf' cb' lp' sp' el' (A ++ [(f, x)]) S (by omega) (by omega) s3 c' p1 p4 p7 (by rw [as]; exact I) (by rw [as]; exact B) (fun y hy => ?_) (by rw [as]; exact N) ?_
          · rcases List.mem_append.mp hy with hy | hy
            · exact Z y hy
            · have w := List.mem_singleton.mp hy
              injection w with w1 _
              exact f0 w1.symm
          · rw [as, List.length_append, List.length_singleton]
            omega
  unfold wpX_writeCode
  dsimp only
  refine xw_push (L := []) (f := 0) (x := 0) (by decide) trivial (fun pf pb s => ⟨101, ?_⟩)
  refine lp18 100 0 101 pf pb _ _ _ _ _ [] [(0, 0)] rfl (by decide) s (fun i f x e => by cases e) (fun b hb => by cases hb) (fun b hb => by cases hb) (fun b hb => by cases hb) (lk_I_0 _ _ _ _ _ _ _ _ H) (fun i hi => ?_) (fun x hx => by cases hx) (lk_nd_p 0 []) rfl
  have w := List.mem_singleton.mp hi
  rw [w]
  exact ⟨by decide, by decide⟩
end
