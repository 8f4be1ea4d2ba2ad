/-! the component's order, and studyShape whole -/
theorem lk_n_a (c m : Nat) (l : List Nat) : lk_n c (l ++ [m]) = lk_n c l + (if m = c then 1 else 0) := by
  induction l with
  | nil =>
    show (if m = c then 1 else 0) + 0 = 0 + _
    omega
  | cons x r ih =>
    show (if x = c then 1 else 0) + lk_n c (r ++ [m]) = (if x = c then 1 else 0) + lk_n c r + _
    rw [ih]
    omega
def odl (od : Nat → Int32) (ol : List Nat) : Prop := ∀ i c, ol[i]? = some c → od i = nI c
theorem odl_a {od : Nat → Int32} {ol : List Nat} (h : odl od ol) (m : Nat) : odl (upd od ol.length (nI m)) (ol ++ [m]) := by
  intro i c e
  rcases la_c e with e | ⟨e1, e2⟩
  · have hi : i < ol.length := (List.getElem?_eq_some_iff.mp e).1
    rw [pk_un (by omega)]
    exact h i c e
  · rw [e1, e2, pk_us]
/-- a list of the blocks of a set, each once -/
def osl (ol : List Nat) (P : Nat → Prop) : Prop := (∀ c, lk_n c ol ≤ 1) ∧ (∀ c, c ∈ ol ↔ P c)
theorem osl_a {ol : List Nat} {P Q : Nat → Prop} {m : Nat} (h : osl ol P) (hm : ¬ P m) (hQ : ∀ c, Q c ↔ P c ∨ c = m) : osl (ol ++ [m]) Q := by
  refine ⟨fun c => ?_, fun c => ?_⟩
  · rw [lk_n_a]
    have a := h.1 c
    by_cases e : m = c
    · subst e
      have z : lk_n m ol = 0 := by
        apply Classical.byContradiction
        intro n
        exact hm ((h.2 m).mp (lk_n_m.mp (by omega)))
      rw [z, if_pos rfl]
      omega
    · rw [if_neg e]
      omega
  · rw [List.mem_append, hQ, h.2, List.mem_singleton]
theorem osl_l {ol : List Nat} {P : Nat → Prop} (h : osl ol P) (h8 : ∀ c, P c → c < 8) : ol.length ≤ 8 := lk_n_len h.1 (fun c hc => h8 c ((h.2 c).mp hc))
theorem rf_lo {T : Nat → Int32} (hT : rt_lo T) {b : Nat} (hb : b < 8) : rs_lo (rf T b) := fun i hi => rb_tf (fun z => by
  have a := rs_lt8 (hT b hb) ((rf_iff hT hb i).mp z).2.1
  omega)
section
variable {f_liveSet f_loopSet f_mergeSet f_orderedSet f_orderedCount f_pendingCount f_codeLength f_outCount f_carriedCount f_lastOutcome : Int32} {a_actionKind a_actionNumber a_wayKind a_wayFirst a_waySecond a_dominatorSet a_forwardSet a_order a_pendingForm a_pendingBlock a_codeForm a_codeBlock a_loopPlace a_scopeEndPlace a_elsePlace a_registers a_visitCounts a_outNumbers : Nat → Int32} {kd fi se : Nat → Nat}
theorem xw_ob25 {F : Nat → Int32} {L os : Int32} (hL : rs_lo L) (hos : rs_sub os L) {post : SX → Prop} {J12 : Int32 → Int32 → Int32 → (Nat → Int32) → (Nat → Int32) → (Nat → Int32) → (Nat → Int32) → (Nat → Int32) → (Nat → Int32) → (Nat → Int32) → (Nat → Int32) → (Nat → Int32) → (Nat → Int32) → (Nat → Int32) → (Nat → Int32) → (Nat → Int32) → (Nat → Int32) → (Nat → Int32) → (Nat → Int32) → (Nat → Int32) → (Nat → Int32) → Prop} {x1 : Int32}
    (hJ : ∀ od ol, odl od ol → osl ol (fun c => bt (os ||| ka_r F L os) c = true) → J12 (x1 + 1) (os ||| ka_r F L os) (nI ol.length) a_actionKind a_actionNumber a_wayKind a_wayFirst a_waySecond a_dominatorSet a_forwardSet od a_pendingForm a_pendingBlock a_codeForm a_codeBlock a_loopPlace a_scopeEndPlace a_elsePlace a_registers a_visitCounts a_outNumbers) :
    ∀ d i n od ol, i + d = 8 → d < n → odl od ol → osl ol (fun c => bt os c = true ∨ (c < i ∧ bt (ka_r F L os) c = true)) →
      wX_orderBlocks_25 post J12 x1 (ka_r F L os) L f_loopSet f_mergeSet os f_pendingCount f_codeLength f_outCount f_carriedCount f_lastOutcome n (nI i) (nI ol.length) a_actionKind a_actionNumber a_wayKind a_wayFirst a_waySecond a_dominatorSet a_forwardSet od a_pendingForm a_pendingBlock a_codeForm a_codeBlock a_loopPlace a_scopeEndPlace a_elsePlace a_registers a_visitCounts a_outNumbers := by
  have rl : ∀ c, bt (ka_r F L os) c = true → c < 8 ∧ bt os c = false := by
    intro c hc
    obtain ⟨h1, h2⟩ := (ka_wi _ _ _).mp ((ka_ri _ _ _ _).mp hc).1
    exact ⟨rs_lt8 hL h1, h2⟩
  intro d
  induction d with
  | zero =>
    intro i n od ol hi hn h1 h2
    obtain ⟨k, rfl⟩ : ∃ k, n = k + 1 := ⟨n - 1, by omega⟩
    obtain rfl : i = 8 := by omega
    refine br_t x8_t (nm_e (nm_e (hJ od ol h1 ⟨h2.1, fun c => ?_⟩)))
    rw [h2.2]
    dsimp only
    rw [b_or, Bool.or_eq_true]
    constructor
    · rintro (z | ⟨_, z⟩)
      · exact Or.inl z
      · exact Or.inr z
    · rintro (z | z)
      · exact Or.inl z
      · exact Or.inr ⟨(rl c z).1, z⟩
  | succ d ih =>
    intro i n od ol hi hn h1 h2
    obtain ⟨k, rfl⟩ : ∃ k, n = k + 1 := ⟨n - 1, by omega⟩
    have h8 : i < 8 := by omega
    refine br_f (x8_f h8) (xw_has h8 (fun z => br_f x10 ?_) (fun z => br_t rfl (nm_r (nI_1 i) (ih (i + 1) k od ol (by omega) (by omega) h1 ⟨h2.1, fun c => ?_⟩))))
    · have h3 : osl (ol ++ [i]) (fun c => bt os c = true ∨ (c < i + 1 ∧ bt (ka_r F L os) c = true)) := by
        refine osl_a h2 (m := i) ?_ (fun c => ?_)
        · rintro (y | ⟨y, _⟩)
          · rw [(rl i z).2] at y
            cases y
          · omega
        · constructor
          · rintro (y | ⟨y1, y2⟩)
            · exact Or.inl (Or.inl y)
            · by_cases e : c = i
              · exact Or.inr e
              · exact Or.inl (Or.inr ⟨by omega, y2⟩)
          · rintro ((y | ⟨y1, y2⟩) | y)
            · exact Or.inl y
            · exact Or.inr ⟨by omega, y2⟩
            · subst y
              exact Or.inr ⟨by omega, z⟩
      have l8 : (ol ++ [i]).length ≤ 8 := osl_l h3 (fun c hc => by
        rcases hc with y | ⟨_, y⟩
        · exact rs_lt8 hL (hos c y)
        · exact (rl c y).1)
      rw [List.length_append] at l8
      have l7 : ol.length < 8 := l8
      have e := ih (i + 1) k _ _ (by omega) (by omega) (odl_a h1 i) h3
      rw [List.length_append] at e
      refine br_f (x8_f l7) ⟨xw_in l7, nm_r (e' := upd od ol.length (nI i)) (by rw [xw_c l7]) (nm_r (nI_1 _) (nm_r (nI_1 i) e))⟩
    · rw [h2.2]
      constructor
      · rintro (y | ⟨y1, y2⟩)
        · exact Or.inl y
        · exact Or.inr ⟨by omega, y2⟩
      · rintro (y | ⟨y1, y2⟩)
        · exact Or.inl y
        · refine Or.inr ⟨?_, y2⟩
          by_cases e : c = i
          · subst e
            rw [z] at y2
            cases y2
          · omega
theorem xw_ob {F : Nat → Int32} {L : Int32} (hL : rs_lo L) (hf : ∀ b, b < 8 → a_forwardSet b = F b) {post : SX → Prop}
    (hp : ∀ od ol, odl od ol → osl ol (fun c => bt (ka F L 8) c = true) → post (L, f_loopSet, f_mergeSet, ka F L 8, nI ol.length, f_pendingCount, f_codeLength, f_outCount, f_carriedCount, f_lastOutcome, a_actionKind, a_actionNumber, a_wayKind, a_wayFirst, a_waySecond, a_dominatorSet, a_forwardSet, od, a_pendingForm, a_pendingBlock, a_codeForm, a_codeBlock, a_loopPlace, a_scopeEndPlace, a_elsePlace, a_registers, a_visitCounts, a_outNumbers)) : wpX_orderBlocks post (L, f_loopSet, f_mergeSet, f_orderedSet, f_orderedCount, f_pendingCount, f_codeLength, f_outCount, f_carriedCount, f_lastOutcome, a_actionKind, a_actionNumber, a_wayKind, a_wayFirst, a_waySecond, a_dominatorSet, a_forwardSet, a_order, a_pendingForm, a_pendingBlock, a_codeForm, a_codeBlock, a_loopPlace, a_scopeEndPlace, a_elsePlace, a_registers, a_visitCounts, a_outNumbers) := by
  have l : ∀ d r n od ol, r + d = 8 → d < n → odl od ol → osl ol (fun c => bt (ka F L r) c = true) →
      wX_orderBlocks_12 post L f_loopSet f_mergeSet f_pendingCount f_codeLength f_outCount f_carriedCount f_lastOutcome n (nI r) (ka F L r) (nI ol.length) a_actionKind a_actionNumber a_wayKind a_wayFirst a_waySecond a_dominatorSet a_forwardSet od a_pendingForm a_pendingBlock a_codeForm a_codeBlock a_loopPlace a_scopeEndPlace a_elsePlace a_registers a_visitCounts a_outNumbers := by
    intro d
    induction d with
    | zero =>
      intro r n od ol hr hn h1 h2
      obtain ⟨k, rfl⟩ : ∃ k, n = k + 1 := ⟨n - 1, by omega⟩
      obtain rfl : r = 8 := by omega
      exact br_t x8_t (hp od ol h1 h2)
    | succ d ih =>
      intro r n od ol hr hn h1 h2
      obtain ⟨k, rfl⟩ : ∃ k, n = k + 1 := ⟨n - 1, by omega⟩
      refine br_f (x8_f (by omega)) (xw_rto hf ⟨9, ?_⟩)
      refine xw_ob25 hL (ka_sub F L r) (fun od' ol' h1' h2' => ?_) 8 0 9 od ol rfl (by decide) h1 ⟨h2.1, fun c => ?_⟩
      · rw [nI_1]
        exact ih (r + 1) k od' ol' (by omega) (by omega) h1' h2'
      · rw [h2.2]
        exact ⟨fun z => Or.inl z, fun z => by
          rcases z with z | z
          · exact z
          · exact absurd z.1 (Nat.not_lt_zero c)⟩
  refine ⟨9, l 8 0 9 a_order [] rfl (by decide) (fun i c e => by cases e) ⟨fun c => Nat.zero_le 1, fun c => ?_⟩⟩
  show c ∈ [] ↔ bt 0 c = true
  rw [b_0]
  exact ⟨fun z => (by cases z), fun z => by cases z⟩
end
/-- the component's fields of the shape -/
def shp (T : Nat → Int32) (lv lo me os oc : Int32) (ds od : Nat → Int32) : Prop :=
  lv = rc T 0 ∧ lo = rl T ∧ me = rm T ∧ os = ka (rf T) (rc T 0) 8 ∧ (∀ b, b < 8 → ds b = rd T b) ∧ ∃ ol : List Nat, oc = nI ol.length ∧ odl od ol ∧ osl ol (fun c => bt (ka (rf T) (rc T 0) 8) c = true)
section
variable {f_liveSet f_loopSet f_mergeSet f_orderedSet f_orderedCount f_pendingCount f_codeLength f_outCount f_carriedCount f_lastOutcome : Int32} {a_actionKind a_actionNumber a_wayKind a_wayFirst a_waySecond a_dominatorSet a_forwardSet a_order a_pendingForm a_pendingBlock a_codeForm a_codeBlock a_loopPlace a_scopeEndPlace a_elsePlace a_registers a_visitCounts a_outNumbers : Nat → Int32} {kd fi se : Nat → Nat}
theorem xw_ss (V : vw a_wayKind a_wayFirst a_waySecond kd fi se) (K : vk kd fi se) {T : Nat → Int32} (hT : T = tm kd fi se) {post : SX → Prop}
    (hp : ∀ lv lo me os oc ds fs od, shp T lv lo me os oc ds od → post (lv, lo, me, os, oc, f_pendingCount, f_codeLength, f_outCount, f_carriedCount, f_lastOutcome, a_actionKind, a_actionNumber, a_wayKind, a_wayFirst, a_waySecond, ds, fs, od, a_pendingForm, a_pendingBlock, a_codeForm, a_codeBlock, a_loopPlace, a_scopeEndPlace, a_elsePlace, a_registers, a_visitCounts, a_outNumbers)) : wpX_studyShape post (f_liveSet, f_loopSet, f_mergeSet, f_orderedSet, f_orderedCount, f_pendingCount, f_codeLength, f_outCount, f_carriedCount, f_lastOutcome, a_actionKind, a_actionNumber, a_wayKind, a_wayFirst, a_waySecond, a_dominatorSet, a_forwardSet, a_order, a_pendingForm, a_pendingBlock, a_codeForm, a_codeBlock, a_loopPlace, a_scopeEndPlace, a_elsePlace, a_registers, a_visitCounts, a_outNumbers) := by
  have tl : rt_lo T := by
    rw [hT]
    exact tg_lo K
  unfold wpX_studyShape
  refine xw_ro V K ?_
  rw [← hT]
  refine xw_sd V K hT (fun ds h1 => ?_)
  refine xw_se V K hT h1 (fun fs h2 => ?_)
  refine xw_ob (F := rf T) (rc_cl tl 0).1 h2 (fun od ol h3 h4 => ?_)
  exact hp _ _ _ _ _ _ _ _ ⟨rfl, rfl, rfl, rfl, h1, ol, rfl, h3, h4⟩
end
