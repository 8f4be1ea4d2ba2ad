/-! run of the reference -/
theorem x80 : (80 : Int32) ≤ nI 80 := by decide
section
variable {f_came f_said f_done : Int32} {a_acts a_numbers a_ways a_first a_second a_over a_reg a_last a_often : Nat → Int32}
theorem yw_80 {post : SY → Prop} {a : Nat} (h4 : 4 ≤ a) (h6 : a ≤ 6) {rg : Nat → Int32} {os : List Int32} {la : Nat → Int32} (hr : ∀ i, i < 3 → a_reg i = rg i) (hy : ouY la os)
    (hp : ∀ la', ouY la' (rg (a - 4) :: os) → post (f_came, nI (os.length + 1), f_done, a_acts, a_numbers, a_ways, a_first, a_second, a_over, a_reg, la', a_often)) :
    ∀ i n l, i < 8 → i < n → (∀ j, i < j → j < 8 → l j = la (j - 1)) → (∀ j, j ≤ i → l j = la j) → wY_carryOut_80 post (nI a) f_came (nI os.length) f_done n (nI i) a_acts a_numbers a_ways a_first a_second a_over a_reg l a_often := by
  have es : nI a - 4 = nI (a - 4) := pk_sub (b := 4) h4
  have cs : (nI (a - 4)).toNatClampNeg = a - 4 := nI_clamp (by omega)
  intro i
  induction i with
  | zero =>
    intro n l hi hn h1 h2
    obtain ⟨k, rfl⟩ : ∃ k, n = k + 1 := ⟨n - 1, by omega⟩
    refine br_t (by decide) ?_
    rw [es, cs, hr _ (by omega)]
    refine ⟨vp_in_nI (by omega) (by decide), nm_e (nm_r (nI_1 _) (hp _ (ouY_c hy _ pk_us (fun k hk => ?_))))⟩
    rw [pk_un (by omega), h1 (k + 1) (by omega) (by omega), Nat.add_sub_cancel]
  | succ i ih =>
    intro n l hi hn h1 h2
    obtain ⟨k, rfl⟩ : ∃ k, n = k + 1 := ⟨n - 1, by omega⟩
    have e1 : nI (i + 1) - 1 = nI i := nI_pred i
    have m1 : nI (i + 1) + (-1) = nI i := pk_m1 i
    refine br_f (nI_nle (by omega) (by omega)) ?_
    rw [e1]
    refine ⟨xw_in (by omega), xw_in (by omega), nm_e (nm_r m1 (ih k _ (by omega) (by omega) (fun j hj hj8 => ?_) (fun j hj => ?_)))⟩
    · rw [xw_c (by omega), xw_c (by omega)]
      by_cases e : j = i + 1
      · rw [e, pk_us, Nat.add_sub_cancel]
        exact h2 i (by omega)
      · rw [pk_un e]
        exact h1 j (by omega) hj8
    · rw [xw_c (by omega), pk_un (by omega)]
      exact h2 j (by omega)
theorem yw_co {ac : Nat → Nat} (VA : va a_acts a_numbers ac) {post : SY → Prop} {b n : Nat} (hb : b < 8) {rg vs : Nat → Int32} {os : List Int32}
    (hr : ∀ i, i < 3 → a_reg i = rg i) (hv : ∀ i, i < 8 → a_often i = vs i) (hy : ouY a_last os)
    (hp : ∀ rs vc la, (∀ i, i < 3 → rs i = pu_rg ac a_numbers b rg i) → (∀ i, i < 8 → vc i = pu_vs b vs i) → ouY la (pu_os ac b rg os) →
      post (f_came, nI (pu_os ac b rg os).length, nI (n + 1), a_acts, a_numbers, a_ways, a_first, a_second, a_over, rs, la, vc)) :
    wpY_carryOut post (f_came, nI os.length, nI n, a_acts, a_numbers, a_ways, a_first, a_second, a_over, a_reg, a_last, a_often) (nI b) := by
  obtain ⟨v1, v2, v3⟩ := VA b hb
  have c := xw_c hb
  have hin := xw_in hb
  have hv' : ∀ i, i < 8 → upd a_often b (a_often b + 1) i = pu_vs b vs i := up_w hv (by rw [hv b hb])
  unfold wpY_carryOut
  dsimp only
  rw [c]
  refine ⟨hin, nm_r v1 ⟨hin, nm_e (nm_r (nI_1 n) ⟨hin, hin, nm_e ?_⟩)⟩⟩
  unfold pu_rg pu_os at hp
  by_cases k7 : 7 ≤ ac b
  · rw [if_pos k7] at hp
    rw [if_neg (fun z : 4 ≤ ac b ∧ ac b < 7 => by omega)] at hp
    obtain ⟨j, j3, ej⟩ := v3 k7
    have es : nI (ac b) - 7 = nI (ac b - 7) := pk_sub (b := 7) k7
    have cs : (nI (ac b - 7)).toNatClampNeg = ac b - 7 := nI_clamp (by omega)
    have cj : (nI j).toNatClampNeg = j := nI_clamp (by omega)
    refine br_f (nI_nlt (b := 1) (by omega) (by omega)) (br_t (nI_lt (a := 3) (by omega) (by omega)) (br_f (nI_nlt (b := 4) (by omega) (by omega)) (br_t (nI_lt (a := 6) (by omega) (by omega)) (br_f (nI_nlt (b := 7) k7 (by omega)) ?_))))
    rw [ej, es, cs, cj]
    rw [ej, cj] at hp
    exact ⟨vp_in_nI j3 (by decide), vp_in_nI (by omega) (by decide), nm_e (hp _ _ a_last (up_w hr (hr j j3)) hv' hy)⟩
  · rw [if_neg k7] at hp
    by_cases k4 : 4 ≤ ac b
    · rw [if_pos k4, if_pos (⟨k4, by omega⟩ : 4 ≤ ac b ∧ ac b < 7)] at hp
      refine br_f (nI_nlt (b := 1) (by omega) (by omega)) (br_t (nI_lt (a := 3) (by omega) (by omega)) (br_f (nI_nlt (b := 4) k4 (by omega)) (br_f (nI_nlt (a := 6) (by omega) (by decide)) ⟨8, ?_⟩)))
      exact yw_80 (a := ac b) k4 (by omega) hr hy (fun la' h' => hp _ _ la' hr hv' h') 7 8 a_last (by decide) (by decide) (fun j h1 h2 => absurd h1 (by omega)) (fun j _ => rfl)
    · rw [if_neg k4, if_neg (fun z : 4 ≤ ac b ∧ ac b < 7 => k4 z.1)] at hp
      by_cases k1 : 1 ≤ ac b
      · rw [if_pos k1] at hp
        have es : nI (ac b) - 1 = nI (ac b - 1) := pk_sub (b := 1) k1
        have cs : (nI (ac b - 1)).toNatClampNeg = ac b - 1 := nI_clamp (by omega)
        have hi3 : vp_in (nI (ac b - 1)) 3 := vp_in_nI (by omega) (by decide)
        refine br_f (nI_nlt (b := 1) k1 (by omega)) (br_f (nI_nlt (a := 3) (by omega) (by decide)) ?_)
        rw [es, cs]
        exact ⟨hi3, hi3, nm_e (hp _ _ a_last (up_w hr (by rw [hr _ (by omega)])) hv' hy)⟩
      · rw [if_neg k1] at hp
        exact br_t (nI_lt (b := 1) (by omega) (by decide)) (br_t (nI_lt (b := 4) (by omega) (by decide)) (br_t (nI_lt (b := 7) (by omega) (by decide)) (hp _ _ a_last hr hv' hy)))
theorem yw_71 {kd fi se : Nat → Nat} (V : vw a_ways a_first a_second kd fi se) (K : vk kd fi se) {ac : Nat → Nat} (VA : va a_acts a_numbers ac) {post : Int32 → SY → Prop} :
    ∀ fl b k rg os vs n rs vc la, fl + k = 80 → b < 8 → fl + 1 < n → (∀ i, i < 3 → rs i = rg i) → (∀ i, i < 8 → vc i = vs i) → ouY la os →
      (∀ rs' vc' la', (∀ i, i < 3 → rs' i = (pu ac a_numbers kd fi se fl b rg os vs k).1 i) → (∀ i, i < 8 → vc' i = (pu ac a_numbers kd fi se fl b rg os vs k).2.2.1 i) → ouY la' (pu ac a_numbers kd fi se fl b rg os vs k).2.1 →
        post (nI (pu ac a_numbers kd fi se fl b rg os vs k).2.2.2.2) (nI (pu ac a_numbers kd fi se fl b rg os vs k).2.2.2.2, nI (pu ac a_numbers kd fi se fl b rg os vs k).2.1.length, nI (pu ac a_numbers kd fi se fl b rg os vs k).2.2.2.1, a_acts, a_numbers, a_ways, a_first, a_second, a_over, rs', la', vc')) →
      wY_run_71 post n (nI b) (nI k) 2 (nI os.length) (nI k) a_acts a_numbers a_ways a_first a_second a_over rs la vc := by
  intro fl
  induction fl with
  | zero =>
    intro b k rg os vs n rs vc la hk hb hn hr hv hy hp
    obtain ⟨w, rfl⟩ : ∃ w, n = w + 1 := ⟨n - 1, by omega⟩
    obtain rfl : k = 80 := by omega
    exact br_t x80 (hp rs vc la hr hv hy)
  | succ fl ih =>
    intro b k rg os vs n rs vc la hk hb hn hr hv hy hp
    obtain ⟨w, rfl⟩ : ∃ w, n = w + 1 := ⟨n - 1, by omega⟩
    obtain ⟨v1, v2, v3⟩ := V b hb
    obtain ⟨k1, k2, k3⟩ := K b hb
    have hin := xw_in hb
    have c := xw_c hb
    refine br_f (nI_ge (b := 80) (by omega) (by decide)) (br_t rfl (yw_co VA hb hr hv hy (fun rs' vc' la' q1 q2 q3 => ⟨hin, nm_r (e' := nI (kd b)) (by rw [c]; exact v1) ?_⟩)))
    by_cases k0 : kd b = 0
    · rw [pu_z _ _ _ _ _ _ _ _ _ _ _ k0] at hp
      rw [k0]
      obtain ⟨w2, rfl⟩ : ∃ w2, w = w2 + 1 := ⟨w - 1, by omega⟩
      refine br_t rfl (br_t (by decide) ⟨hin, nm_e (nm_r (nI_1 k) ?_)⟩)
      have fin := hp rs' vc' la' q1 q2 q3
      exact br_c (fun _ => fin) (fun _ => br_f (by decide) fin)
    · rw [pu_s _ _ _ _ _ _ _ _ _ _ _ k0] at hp
      have n0 : ¬ nI (kd b) = 0 := nI_ne0 (by omega) (by omega)
      have key : pu_nx kd fi se b (pu_rg ac a_numbers b rg) < 8 → wY_run_71 post w (nI (pu_nx kd fi se b (pu_rg ac a_numbers b rg))) (nI (k + 1)) 2 (nI (pu_os ac b rg os).length) (nI (k + 1)) a_acts a_numbers a_ways a_first a_second a_over rs' la' vc' := by
        intro h8
        exact ih _ (k + 1) _ _ _ w rs' vc' la' (by omega) h8 (by omega) q1 q2 q3 hp
      refine br_f n0 ?_
      by_cases e1 : kd b = 1
      · have nx : pu_nx kd fi se b (pu_rg ac a_numbers b rg) = fi b := if_pos (Or.inl e1)
        rw [nx] at key
        refine br_t (nI_lt (b := 2) (by omega) (by decide)) ⟨hin, nm_r (e' := nI (fi b)) (by rw [c]; exact v2 k0) (nm_r (nI_1 k) (key (k2 k0)))⟩
      · have g2 : 2 ≤ kd b := by omega
        have es : nI (kd b) - 2 = nI (kd b - 2) := pk_sub (b := 2) g2
        have cs : (nI (kd b - 2)).toNatClampNeg = kd b - 2 := nI_clamp (by omega)
        refine br_f (nI_nlt (b := 2) g2 (by omega)) ?_
        rw [es, cs, q1 (kd b - 2) (by omega)]
        refine ⟨vp_in_nI (by omega) (by decide), br_c (fun z => ?_) (fun z => ?_)⟩
        · have nx : pu_nx kd fi se b (pu_rg ac a_numbers b rg) = se b := if_neg (fun y => by
            rcases y with y | y
            · exact e1 y
            · exact absurd y (Int32.not_lt.mpr z))
          rw [nx] at key
          exact ⟨hin, nm_r (e' := nI (se b)) (by rw [c]; exact v3 g2) (nm_r (nI_1 k) (key (k3 g2)))⟩
        · have nx : pu_nx kd fi se b (pu_rg ac a_numbers b rg) = fi b := if_pos (Or.inr (Int32.not_le.mp z))
          rw [nx] at key
          exact ⟨hin, nm_r (e' := nI (fi b)) (by rw [c]; exact v2 k0) (nm_r (nI_1 k) (key (k2 k0)))⟩
theorem yw_run {kd fi se : Nat → Nat} (V : vw a_ways a_first a_second kd fi se) (K : vk kd fi se) {ac : Nat → Nat} (VA : va a_acts a_numbers ac) (hreg : rgn (rf (tm kd fi se)) 8 = false) {post : Int32 → SY → Prop} {x y : Int32}
    (hp : ∀ ov rs vc la, (∀ i, i < 3 → rs i = (pu ac a_numbers kd fi se 80 0 (rg0 x y) [] (fun _ => 0) 0).1 i) → (∀ i, i < 8 → vc i = (pu ac a_numbers kd fi se 80 0 (rg0 x y) [] (fun _ => 0) 0).2.2.1 i) → ouY la (pu ac a_numbers kd fi se 80 0 (rg0 x y) [] (fun _ => 0) 0).2.1 →
      post (nI (pu ac a_numbers kd fi se 80 0 (rg0 x y) [] (fun _ => 0) 0).2.2.2.2) (nI (pu ac a_numbers kd fi se 80 0 (rg0 x y) [] (fun _ => 0) 0).2.2.2.2, nI (pu ac a_numbers kd fi se 80 0 (rg0 x y) [] (fun _ => 0) 0).2.1.length, nI (pu ac a_numbers kd fi se 80 0 (rg0 x y) [] (fun _ => 0) 0).2.2.2.1, a_acts, a_numbers, a_ways, a_first, a_second, ov, rs, la, vc)) :
    wpY_run post (f_came, f_said, f_done, a_acts, a_numbers, a_ways, a_first, a_second, a_over, a_reg, a_last, a_often) x y := by
  unfold wpY_run
  refine yw_reg V K (fun z => absurd z (by rw [hreg]; decide)) (fun _ ov => br_f x10 (nm_e (nm_e (nm_e ⟨9, ?_⟩))))
  have l : ∀ d i n vc, i + d = 8 → d < n → (∀ j, j < i → vc j = 0) → wY_run_47 post 2 0 0 n (nI i) a_acts a_numbers a_ways a_first a_second ov (upd (upd (upd a_reg 0 x) 1 y) 2 0) a_last vc := by
    intro d
    induction d with
    | zero =>
      intro i n vc hi hn h
      obtain ⟨k, rfl⟩ : ∃ k, n = k + 1 := ⟨n - 1, by omega⟩
      obtain rfl : i = 8 := by omega
      refine br_t x8_t ⟨82, ?_⟩
      refine yw_71 V K VA 80 0 0 (rg0 x y) [] (fun _ => 0) 82 _ vc a_last rfl (by decide) (by decide) (fun i hi => ?_) (fun i hi => h i hi) (fun k _ hk => absurd hk (Nat.not_lt_zero k)) (fun rs' vc' la' q1 q2 q3 => hp ov rs' vc' la' q1 q2 q3)
      unfold rg0
      rcases (by omega : i = 0 ∨ i = 1 ∨ i = 2) with e | e | e
      · subst e
        rfl
      · subst e
        rfl
      · subst e
        rfl
    | succ d ih =>
      intro i n vc hi hn h
      obtain ⟨k, rfl⟩ : ∃ k, n = k + 1 := ⟨n - 1, by omega⟩
      have h8 : i < 8 := by omega
      refine br_f (x8_f h8) ⟨xw_in h8, nm_e (nm_r (nI_1 i) (ih (i + 1) k _ (by omega) (by omega) (fun j hj => ?_)))⟩
      rw [xw_c h8]
      by_cases e : j = i
      · rw [e, pk_us]
      · rw [pk_un e]
        exact h j (by omega)
  exact l 8 0 9 a_often rfl (by decide) (fun j hj => absurd hj (Nat.not_lt_zero j))
theorem yw_runb {kd fi se : Nat → Nat} (V : vw a_ways a_first a_second kd fi se) (K : vk kd fi se) (hreg : rgn (rf (tm kd fi se)) 8 = true) {post : Int32 → SY → Prop} {x y : Int32} (hp : ∀ ov, post (-1) (f_came, f_said, f_done, a_acts, a_numbers, a_ways, a_first, a_second, ov, a_reg, a_last, a_often)) : wpY_run post (f_came, f_said, f_done, a_acts, a_numbers, a_ways, a_first, a_second, a_over, a_reg, a_last, a_often) x y := by
  unfold wpY_run
  exact yw_reg V K (fun _ ov => br_t rfl (hp ov)) (fun z => absurd z (by rw [hreg]; decide))
end
