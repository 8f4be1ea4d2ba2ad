/-! the reference's shape -/
theorem rc_st0 {T : Nat → Int32} {m s : Int32} {b : Nat} (hs : ∀ i, bt m i = true → bt s i = false) : (if bt s b = true then s ||| T b else s) &&& (m ^^^ (-1)) = rc_st T m s b := by
  apply b_ext
  intro i _
  rw [rb_an]
  unfold rc_st
  split
  · rw [b_or, b_or, rb_an]
    cases e : bt m i with
    | true => rw [hs i e]; cases bt (T b) i <;> rfl
    | false => cases bt s i <;> cases bt (T b) i <;> rfl
  · cases e : bt m i with
    | true => rw [hs i e]; rfl
    | false => cases bt s i <;> rfl
theorem rc_st1 {T : Nat → Int32} {s : Int32} {b : Nat} : (if bt s b = true then s ||| T b else s) = rc_st T 0 s b := by
  rw [← rc_st0 (T := T) (m := 0) (s := s) (b := b) (fun i z => by rw [b_0] at z; cases z)]
  apply b_ext
  intro i _
  rw [rb_an, b_0, Bool.not_false, Bool.and_true]
theorem rc_dis {T : Nat → Int32} {m s : Int32} (hs : ∀ i, bt m i = true → bt s i = false) (n : Nat) : ∀ i, bt m i = true → bt (rc_ps T m s n) i = false := by
  induction n with
  | zero => exact hs
  | succ n ih =>
    intro i hi
    apply rb_tf
    intro z
    rcases rc_st_in (T := T) (m := m) (s := rc_ps T m s n) (b := n) z with y | y
    · rw [ih i hi] at y
      cases y
    · rw [hi] at y
      cases y.2.2
theorem ts_nf {x : Bool} (h : ¬ x = false) : x = true := by
  cases x
  · exact absurd rfl h
  · rfl
theorem rd_z {T : Nat → Int32} (hT : rt_lo T) (b : Nat) : rd T b = 0 ↔ ¬ rv T b := by
  constructor
  · intro h z
    have a := rd_self hT z
    rw [h, b_0] at a
    cases a
  · intro h
    apply b_ext
    intro i _
    rw [b_0]
    exact rb_tf (fun z => h ((rd_iff hT b i).mp z).2.1)
def rgn (F : Nat → Int32) : Nat → Bool
  | 0 => false
  | n + 1 => rgn F n || bt (ow_c F n) n
def rgi (F : Nat → Int32) (n : Nat) : Int32 := if rgn F n = true then 1 else 0
theorem rgn_f (F : Nat → Int32) (n : Nat) : rgn F n = false ↔ ∀ b, b < n → bt (ow_c F b) b = false := by
  induction n with
  | zero => exact ⟨fun _ b hb => absurd hb (Nat.not_lt_zero b), fun _ => rfl⟩
  | succ n ih =>
    show (rgn F n || bt (ow_c F n) n) = false ↔ _
    rw [Bool.or_eq_false_iff, ih]
    constructor
    · rintro ⟨h1, h2⟩ b hb
      by_cases e : b = n
      · rw [e]
        exact h2
      · exact h1 b (by omega)
    · exact fun h => ⟨fun b hb => h b (by omega), h n (by omega)⟩
theorem x7_f {j : Nat} (h : j < 8) : ¬ (7 : Int32) < nI j := nI_nlt (a := 7) (b := j) (by omega) (by decide)
theorem xn_f {j : Nat} (h : j < 8) : ¬ nI j < 0 := nI_pos (by omega)
theorem x8_n {x : Int32} (h : nI 8 ≤ x) : ¬ x < 0 := fun z => absurd (Int32.lt_of_le_of_lt h z) (by decide)
theorem x8_7 {x : Int32} (h : nI 8 ≤ x) : (7 : Int32) < x := Int32.lt_of_lt_of_le (by decide : (7 : Int32) < nI 8) h
section
variable {f_came f_said f_done : Int32} {a_acts a_numbers a_ways a_first a_second a_over a_reg a_last a_often : Nat → Int32} {kd fi se : Nat → Nat}
theorem yw_blk {post : Int32 → Prop} {j : Nat} (hj : j < 8) (h : post 1) : wpY_block post (f_came, f_said, f_done, a_acts, a_numbers, a_ways, a_first, a_second, a_over, a_reg, a_last, a_often) (nI j) := br_f (xn_f hj) (br_f (x7_f hj) h)
theorem yw_nblk {post : Int32 → Prop} {x : Int32} (hx : x < 0 ∨ nI 8 ≤ x) (h : post 0) : wpY_block post (f_came, f_said, f_done, a_acts, a_numbers, a_ways, a_first, a_second, a_over, a_reg, a_last, a_often) x := by
  rcases hx with z | z
  · exact br_t z h
  · exact br_f (x8_n z) (br_t (x8_7 z) h)
theorem yw_nam (V : vw a_ways a_first a_second kd fi se) (K : vk kd fi se) {post : Int32 → Prop} {b : Nat} (hb : b < 8) (hp : post (tm kd fi se b)) : wpY_named post (f_came, f_said, f_done, a_acts, a_numbers, a_ways, a_first, a_second, a_over, a_reg, a_last, a_often) (nI b) := by
  obtain ⟨v1, v2, v3⟩ := V b hb
  obtain ⟨k1, k2, k3⟩ := K b hb
  have hi := xw_in hb
  unfold wpY_named
  dsimp only
  rw [xw_c hb]
  unfold tm at hp
  refine ⟨hi, ?_⟩
  by_cases k0 : kd b = 0
  · rw [if_pos k0] at hp
    exact br_t (by rw [v1, k0]; rfl) hp
  · rw [if_neg k0] at hp
    have n0 : ¬ a_ways b = 0 := by
      rw [v1]
      exact nI_ne0 (by omega) (by omega)
    refine br_f n0 ⟨hi, ?_⟩
    by_cases k4 : 2 ≤ kd b
    · rw [if_pos k4] at hp
      have n1 : ¬ a_ways b = 1 := by
        rw [v1]
        exact fun z => by
          have y := (nI_eq (a := kd b) (b := 1) (by omega) (by decide)).mp z
          omega
      refine br_f n1 ⟨hi, hi, ?_⟩
      rw [v2 k0, v3 k4]
      exact hp
    · rw [if_neg k4] at hp
      have e1 : kd b = 1 := by omega
      refine br_t (by rw [v1, e1]; rfl) ⟨hi, ?_⟩
      rw [v2 k0]
      exact hp
/-- what never says, as a mask -/
def nev (x m : Int32) : Prop := (x < 0 ∧ m = 0) ∨ ∃ h, h < 8 ∧ x = nI h ∧ m = rb_p h
theorem yw_50 {T : Nat → Int32} {post : Int32 → Prop} {J12 J21 : Int32 → Int32 → Prop} {x1 x3 x4 m s z0 : Int32} {i : Nat} (N : nev x1 m) (hs : ∀ i, bt m i = true → bt s i = false) (hz : z0 = if bt s i = true then s ||| T i else s)
    (h : J21 (rc_st T m s i) (x4 + 1)) : wY_reached_50 post J12 J21 x1 x3 x4 z0 f_came f_said f_done a_acts a_numbers a_ways a_first a_second a_over a_reg a_last a_often := by
  rcases N with ⟨n1, n2⟩ | ⟨b, n1, n2, n3⟩
  · subst n2
    rw [hz, rc_st1]
    exact br_t n1 (nm_e h)
  · subst n2 n3
    rw [hz]
    exact br_f (xn_f n1) (nm_r (e' := rc_st T (rb_p b) s i) (rc_st0 hs) (nm_e h))
theorem yw_re (V : vw a_ways a_first a_second kd fi se) (K : vk kd fi se) {post : Int32 → Prop} {x1 m : Int32} (N : nev x1 m) (hp : post (rc (tm kd fi se) m)) : wpY_reached post (f_came, f_said, f_done, a_acts, a_numbers, a_ways, a_first, a_second, a_over, a_reg, a_last, a_often) x1 := by
  have l21 : ∀ (J12 : Int32 → Int32 → Prop) (x3 s0 : Int32), (∀ i, bt m i = true → bt s0 i = false) → J12 (rc_ps (tm kd fi se) m s0 8) (x3 + 1) →
      ∀ d i n, i + d = 8 → d < n → wY_reached_21 post J12 x1 x3 f_came f_said f_done a_acts a_numbers a_ways a_first a_second a_over a_reg a_last a_often n (rc_ps (tm kd fi se) m s0 i) (nI i) := by
    intro J12 x3 s0 hs hJ d
    induction d with
    | zero =>
      intro i n hi hn
      obtain ⟨k, rfl⟩ : ∃ k, n = k + 1 := ⟨n - 1, by omega⟩
      obtain rfl : i = 8 := by omega
      exact br_t x8_t (nm_e hJ)
    | succ d ih =>
      intro i n hi hn
      obtain ⟨k, rfl⟩ : ∃ k, n = k + 1 := ⟨n - 1, by omega⟩
      have h8 : i < 8 := by omega
      have st := ih (i + 1) k (by omega) (by omega)
      have dis := rc_dis (T := tm kd fi se) hs i
      refine br_f (x8_f h8) (ek_if (rb_has _ (by omega)) (fun z => yw_nam V K h8 ?_) (fun z => ?_))
      · refine yw_50 (T := tm kd fi se) (i := i) (s := rc_ps (tm kd fi se) m s0 i) N dis (by rw [if_pos z]) ?_
        rw [nI_1]
        exact st
      · refine yw_50 (T := tm kd fi se) (i := i) (s := rc_ps (tm kd fi se) m s0 i) N dis (by rw [if_neg z]) ?_
        rw [nI_1]
        exact st
  have dit : ∀ r i, bt m i = true → bt (rs_it (fun s => rc_ps (tm kd fi se) m s 8) (rc_s0 m) r) i = false := by
    intro r
    induction r with
    | zero =>
      intro i hi
      show bt (rc_s0 m) i = false
      rw [rc_s0_b, hi, Bool.not_true, Bool.and_false]
    | succ r ih => exact rc_dis ih 8
  have l12 : ∀ d r n, r + d = 8 → d < n → wY_reached_12 post x1 f_came f_said f_done a_acts a_numbers a_ways a_first a_second a_over a_reg a_last a_often n (rs_it (fun s => rc_ps (tm kd fi se) m s 8) (rc_s0 m) r) (nI r) := by
    intro d
    induction d with
    | zero =>
      intro r n hr hn
      obtain ⟨k, rfl⟩ : ∃ k, n = k + 1 := ⟨n - 1, by omega⟩
      obtain rfl : r = 8 := by omega
      exact br_t x8_t hp
    | succ d ih =>
      intro r n hr hn
      obtain ⟨k, rfl⟩ : ∃ k, n = k + 1 := ⟨n - 1, by omega⟩
      refine br_f (x8_f (by omega)) ⟨9, l21 _ _ _ (dit r) ?_ 8 0 9 rfl (by decide)⟩
      rw [nI_1]
      exact ih (r + 1) k (by omega) (by omega)
  have st := l12 8 0 9 rfl (by decide)
  have s0 : rs_it (fun s => rc_ps (tm kd fi se) m s 8) (rc_s0 m) 0 = rc_s0 m := rfl
  rw [s0] at st
  have z1 : ∀ m, bt m 0 = false → rc_s0 m = 1 := by
    intro m hm
    apply b_ext
    intro i _
    rw [rc_s0_b, b_1]
    by_cases e : i = 0
    · subst e
      rw [hm]
      rfl
    · rw [decide_eq_false e]
      rfl
  rcases N with ⟨n1, n2⟩ | ⟨b, n1, n2, n3⟩
  · have e : rc_s0 m = 1 := z1 m (by rw [n2, b_0])
    rw [e] at st
    exact br_f (fun z => by rw [z] at n1; exact absurd n1 (by decide)) ⟨9, st⟩
  · by_cases b0 : b = 0
    · have e : rc_s0 m = 0 := by
        apply b_ext
        intro i _
        rw [rc_s0_b, b_0, n3, b0, rb_pb (by decide)]
        by_cases e : i = 0
        · rw [decide_eq_true e]
          rfl
        · rw [decide_eq_false e]
          rfl
      rw [e] at st
      exact br_t (by rw [n2, b0]; rfl) ⟨9, st⟩
    · have e : rc_s0 m = 1 := z1 m (by rw [n3, rb_pb (by omega)]; exact decide_eq_false (fun z => b0 z.symm))
      rw [e] at st
      exact br_f (by rw [n2]; exact nI_ne0 (by omega) (by omega)) ⟨9, st⟩
theorem yw_live (V : vw a_ways a_first a_second kd fi se) (K : vk kd fi se) {post : Int32 → Prop} (hp : post (rc (tm kd fi se) 0)) : wpY_live post (f_came, f_said, f_done, a_acts, a_numbers, a_ways, a_first, a_second, a_over, a_reg, a_last, a_often) := by
  unfold wpY_live
  exact yw_re V K (Or.inl ⟨by decide, rfl⟩) hp
theorem yw_dom (V : vw a_ways a_first a_second kd fi se) (K : vk kd fi se) {post : Int32 → Prop} {b : Nat} (hb : b < 8) (hp : post (rd (tm kd fi se) b)) : wpY_dominators post (f_came, f_said, f_done, a_acts, a_numbers, a_ways, a_first, a_second, a_over, a_reg, a_last, a_often) (nI b) := by
  have tl := tg_lo K
  have l : ∀ d i n, i + d = 8 → d < n → wY_dominators_10 post (nI b) (rc (tm kd fi se) 0) f_came f_said f_done a_acts a_numbers a_ways a_first a_second a_over a_reg a_last a_often n (rd_f (tm kd fi se) b i) (nI i) := by
    intro d
    induction d with
    | zero =>
      intro i n hi hn
      obtain ⟨k, rfl⟩ : ∃ k, n = k + 1 := ⟨n - 1, by omega⟩
      obtain rfl : i = 8 := by omega
      exact br_t x8_t hp
    | succ d ih =>
      intro i n hi hn
      obtain ⟨k, rfl⟩ : ∃ k, n = k + 1 := ⟨n - 1, by omega⟩
      have h8 : i < 8 := by omega
      have st := ih (i + 1) k (by omega) (by omega)
      have def1 : rd_f (tm kd fi se) b (i + 1) = if (bt (rc (tm kd fi se) 0) b && !bt (rc (tm kd fi se) (rb_p i)) b) = true then rd_f (tm kd fi se) b i ||| rb_p i else rd_f (tm kd fi se) b i := by
        show (if _ then _ else _) = _
        rw [rb_an]
      have no : (bt (rc (tm kd fi se) 0) b && !bt (rc (tm kd fi se) (rb_p i)) b) = false → wY_dominators_61 post (wY_dominators_10 post (nI b) (rc (tm kd fi se) 0) f_came f_said f_done a_acts a_numbers a_ways a_first a_second a_over a_reg a_last a_often k) (nI b) (rc (tm kd fi se) 0) (rd_f (tm kd fi se) b i) (nI i) f_came f_said f_done a_acts a_numbers a_ways a_first a_second a_over a_reg a_last a_often := by
        intro e
        rw [e, if_neg (by decide)] at def1
        rw [def1] at st
        exact br_t rfl (nm_r (nI_1 i) st)
      refine br_f (x8_f h8) (yw_blk hb (br_f x10 (ek_if (rb_has _ (by omega)) (fun z => ek_if (rb_has _ (by omega)) (fun y => yw_re V K (Or.inr ⟨i, h8, rfl, rfl⟩) (ek_if (rb_hz _ (by omega)) (fun w => ?_) (fun w => ?_))) (fun y => ?_)) (fun z => ?_))))
      · rw [z, w, if_pos (by decide)] at def1
        rw [def1] at st
        exact br_f x10 (nm_e (nm_r (nI_1 i) st))
      · exact no (by rw [ts_nf w]; simp)
      · apply no
        have lb := (rv_iff tl b).mp z
        have q : rq (tm kd fi se) i b := Classical.byContradiction (fun n => y ((rv_iff tl i).mpr (rq_lv lb n)))
        rw [(rq_iff tl h8 b).mpr q]
        simp
      · exact no (by rw [rb_tf z]; rfl)
  unfold wpY_dominators
  exact yw_live V K ⟨9, l 8 0 9 rfl (by decide)⟩
theorem yw_domn (V : vw a_ways a_first a_second kd fi se) (K : vk kd fi se) {post : Int32 → Prop} {x : Int32} (hx : x < 0 ∨ nI 8 ≤ x) (hp : post 0) : wpY_dominators post (f_came, f_said, f_done, a_acts, a_numbers, a_ways, a_first, a_second, a_over, a_reg, a_last, a_often) x := by
  unfold wpY_dominators
  exact yw_live V K ⟨1, br_f (by decide) (yw_nblk hx (br_t rfl hp))⟩
theorem yw_fo (V : vw a_ways a_first a_second kd fi se) (K : vk kd fi se) {post : SY → Prop} (hp : ∀ ov, (∀ b, b < 8 → ov b = rd (tm kd fi se) b) → post (f_came, f_said, f_done, a_acts, a_numbers, a_ways, a_first, a_second, ov, a_reg, a_last, a_often)) : wpY_findOver post (f_came, f_said, f_done, a_acts, a_numbers, a_ways, a_first, a_second, a_over, a_reg, a_last, a_often) := by
  have l : ∀ d i n ov, i + d = 8 → d < n → (∀ b, b < i → ov b = rd (tm kd fi se) b) → wY_findOver_2 post f_came f_said f_done n (nI i) a_acts a_numbers a_ways a_first a_second ov a_reg a_last a_often := by
    intro d
    induction d with
    | zero =>
      intro i n ov hi hn h
      obtain ⟨k, rfl⟩ : ∃ k, n = k + 1 := ⟨n - 1, by omega⟩
      obtain rfl : i = 8 := by omega
      exact br_t x8_t (hp ov h)
    | succ d ih =>
      intro i n ov hi hn h
      obtain ⟨k, rfl⟩ : ∃ k, n = k + 1 := ⟨n - 1, by omega⟩
      have h8 : i < 8 := by omega
      refine br_f (x8_f h8) (yw_dom V K h8 ⟨xw_in h8, nm_e (nm_r (nI_1 i) (ih (i + 1) k _ (by omega) (by omega) (fun b hb => ?_)))⟩)
      rw [xw_c h8]
      by_cases e : b = i
      · rw [e, pk_us]
      · rw [pk_un e]
        exact h b (by omega)
  exact ⟨9, l 8 0 9 a_over rfl (by decide) (fun b hb => absurd hb (Nat.not_lt_zero b))⟩
theorem yw_en0 (V : vw a_ways a_first a_second kd fi se) (K : vk kd fi se) (O : ∀ b, b < 8 → a_over b = rd (tm kd fi se) b) {post : Int32 → Prop} {b : Nat} (hb : b < 8) (hp : post (rf (tm kd fi se) b)) : wpY_ends post (f_came, f_said, f_done, a_acts, a_numbers, a_ways, a_first, a_second, a_over, a_reg, a_last, a_often) (nI b) 0 := by
  have tl := tg_lo K
  unfold wpY_ends
  dsimp only
  rw [xw_c hb, O b hb]
  refine ⟨xw_in hb, br_c (fun z => ?_) (fun z => br_t rfl (yw_nam V K hb ⟨xw_in hb, ?_⟩))⟩
  · have e : rf (tm kd fi se) b = 0 := by
      unfold rf rg
      rw [if_neg (fun y => (rd_z tl b).mp z ((rv_iff tl b).mp y)), Int32.zero_and]
    rw [e] at hp
    exact hp
  · have e : rg (tm kd fi se) b = tm kd fi se b := by
      unfold rg
      rw [if_pos ((rv_iff tl b).mpr (Classical.byContradiction (fun n => z ((rd_z tl b).mpr n))))]
    unfold rf at hp
    rw [e] at hp
    exact hp
theorem yw_en1 (V : vw a_ways a_first a_second kd fi se) (K : vk kd fi se) (O : ∀ b, b < 8 → a_over b = rd (tm kd fi se) b) {post : Int32 → Prop} {b : Nat} (hb : b < 8) (hp : post (rg (tm kd fi se) b &&& rd (tm kd fi se) b)) : wpY_ends post (f_came, f_said, f_done, a_acts, a_numbers, a_ways, a_first, a_second, a_over, a_reg, a_last, a_often) (nI b) 1 := by
  have tl := tg_lo K
  unfold wpY_ends
  dsimp only
  rw [xw_c hb, O b hb]
  refine ⟨xw_in hb, br_c (fun z => ?_) (fun z => br_f x10 (yw_nam V K hb ⟨xw_in hb, ?_⟩))⟩
  · rw [z, Int32.and_zero] at hp
    exact hp
  · have e : rg (tm kd fi se) b = tm kd fi se b := by
      unfold rg
      rw [if_pos ((rv_iff tl b).mpr (Classical.byContradiction (fun n => z ((rd_z tl b).mpr n))))]
    rw [e] at hp
    exact hp
theorem yw_on (V : vw a_ways a_first a_second kd fi se) (K : vk kd fi se) (O : ∀ b, b < 8 → a_over b = rd (tm kd fi se) b) {post : Int32 → Prop} {s : Int32} (hp : post (ow (rf (tm kd fi se)) s)) : wpY_onward post (f_came, f_said, f_done, a_acts, a_numbers, a_ways, a_first, a_second, a_over, a_reg, a_last, a_often) s := by
  have l : ∀ d i n, i + d = 8 → d < n → wY_onward_4 post s f_came f_said f_done a_acts a_numbers a_ways a_first a_second a_over a_reg a_last a_often n (ow_f (rf (tm kd fi se)) s i) (nI i) := by
    intro d
    induction d with
    | zero =>
      intro i n hi hn
      obtain ⟨k, rfl⟩ : ∃ k, n = k + 1 := ⟨n - 1, by omega⟩
      obtain rfl : i = 8 := by omega
      exact br_t x8_t hp
    | succ d ih =>
      intro i n hi hn
      obtain ⟨k, rfl⟩ : ∃ k, n = k + 1 := ⟨n - 1, by omega⟩
      have h8 : i < 8 := by omega
      have st := ih (i + 1) k (by omega) (by omega)
      have def1 : ow_f (rf (tm kd fi se)) s (i + 1) = if bt s i = true then ow_f (rf (tm kd fi se)) s i ||| rf (tm kd fi se) i else ow_f (rf (tm kd fi se)) s i := rfl
      refine br_f (x8_f h8) (ek_if (rb_has _ (by omega)) (fun z => yw_en0 V K O h8 ?_) (fun z => ?_))
      · rw [if_pos z] at def1
        rw [def1] at st
        exact nm_e (nm_r (nI_1 i) st)
      · rw [if_neg z] at def1
        rw [def1] at st
        exact nm_r (nI_1 i) st
  exact ⟨9, l 8 0 9 rfl (by decide)⟩
theorem yw_reg (V : vw a_ways a_first a_second kd fi se) (K : vk kd fi se) {post : Int32 → SY → Prop} (h0 : rgn (rf (tm kd fi se)) 8 = true → ∀ ov, post 0 (f_came, f_said, f_done, a_acts, a_numbers, a_ways, a_first, a_second, ov, a_reg, a_last, a_often)) (h1 : rgn (rf (tm kd fi se)) 8 = false → ∀ ov, post 1 (f_came, f_said, f_done, a_acts, a_numbers, a_ways, a_first, a_second, ov, a_reg, a_last, a_often)) : wpY_regular post (f_came, f_said, f_done, a_acts, a_numbers, a_ways, a_first, a_second, a_over, a_reg, a_last, a_often) := by
  unfold wpY_regular
  dsimp only
  refine yw_fo V K (fun ov O => ?_)
  have l24 : ∀ (J8 : Int32 → Int32 → Prop) b, b < 8 → J8 (rgi (rf (tm kd fi se)) (b + 1)) (nI b + 1) → ∀ d i n, i + d = 8 → d < n →
      wY_regular_24 post J8 (rgi (rf (tm kd fi se)) b) (nI b) f_came f_said f_done a_acts a_numbers a_ways a_first a_second ov a_reg a_last a_often n (rs_it (ow (rf (tm kd fi se))) (rf (tm kd fi se) b) i) (nI i) := by
    intro J8 b hb hJ d
    induction d with
    | zero =>
      intro i n hi hn
      obtain ⟨k, rfl⟩ : ∃ k, n = k + 1 := ⟨n - 1, by omega⟩
      obtain rfl : i = 8 := by omega
      have def1 : rgn (rf (tm kd fi se)) (b + 1) = (rgn (rf (tm kd fi se)) b || bt (ow_c (rf (tm kd fi se)) b) b) := rfl
      refine br_t x8_t ?_
      unfold rgi at hJ ⊢
      rw [def1] at hJ
      cases e : rgn (rf (tm kd fi se)) b with
      | true =>
        rw [e, Bool.true_or, if_pos rfl] at hJ
        rw [if_pos rfl]
        exact br_f x10 (nm_e hJ)
      | false =>
        rw [e, Bool.false_or] at hJ
        rw [if_neg (by decide)]
        refine br_t rfl (ek_if (rb_has _ (by omega)) (fun z => ?_) (fun z => ?_))
        · have z' : bt (ow_c (rf (tm kd fi se)) b) b = true := z
          rw [if_pos z'] at hJ
          exact nm_e hJ
        · have z' : ¬ bt (ow_c (rf (tm kd fi se)) b) b = true := z
          rw [if_neg z'] at hJ
          exact nm_e hJ
    | succ d ih =>
      intro i n hi hn
      obtain ⟨k, rfl⟩ : ∃ k, n = k + 1 := ⟨n - 1, by omega⟩
      exact br_f (x8_f (by omega)) (yw_on V K O (nm_r (nI_1 i) (ih (i + 1) k (by omega) (by omega))))
  have l8 : ∀ d i n, i + d = 8 → d < n → wY_regular_8 post f_came f_said f_done a_acts a_numbers a_ways a_first a_second ov a_reg a_last a_often n (rgi (rf (tm kd fi se)) i) (nI i) := by
    intro d
    induction d with
    | zero =>
      intro i n hi hn
      obtain ⟨k, rfl⟩ : ∃ k, n = k + 1 := ⟨n - 1, by omega⟩
      obtain rfl : i = 8 := by omega
      refine br_t x8_t ?_
      unfold rgi
      cases e : rgn (rf (tm kd fi se)) 8 with
      | true =>
        rw [if_pos rfl]
        exact br_f x10 (h0 e ov)
      | false =>
        rw [if_neg (by decide)]
        exact br_t rfl (h1 e ov)
    | succ d ih =>
      intro i n hi hn
      obtain ⟨k, rfl⟩ : ∃ k, n = k + 1 := ⟨n - 1, by omega⟩
      refine br_f (x8_f (by omega)) (yw_en0 V K O (by omega) ⟨9, l24 _ i (by omega) ?_ 8 0 9 rfl (by decide)⟩)
      rw [nI_1]
      exact ih (i + 1) k (by omega) (by omega)
  exact ⟨9, l8 8 0 9 rfl (by decide)⟩
theorem yw_lps (V : vw a_ways a_first a_second kd fi se) (K : vk kd fi se) {post : Int32 → SY → Prop} (hp : ∀ ov, post (rl (tm kd fi se)) (f_came, f_said, f_done, a_acts, a_numbers, a_ways, a_first, a_second, ov, a_reg, a_last, a_often)) : wpY_loops post (f_came, f_said, f_done, a_acts, a_numbers, a_ways, a_first, a_second, a_over, a_reg, a_last, a_often) := by
  unfold wpY_loops
  dsimp only
  refine yw_fo V K (fun ov O => ?_)
  have l : ∀ d i n, i + d = 8 → d < n → wY_loops_8 post f_came f_said f_done a_acts a_numbers a_ways a_first a_second ov a_reg a_last a_often n (rl_f (tm kd fi se) i) (nI i) := by
    intro d
    induction d with
    | zero =>
      intro i n hi hn
      obtain ⟨k, rfl⟩ : ∃ k, n = k + 1 := ⟨n - 1, by omega⟩
      obtain rfl : i = 8 := by omega
      exact br_t x8_t (hp ov)
    | succ d ih =>
      intro i n hi hn
      obtain ⟨k, rfl⟩ : ∃ k, n = k + 1 := ⟨n - 1, by omega⟩
      exact br_f (x8_f (by omega)) (yw_en1 V K O (by omega) (nm_r (e' := rl_f (tm kd fi se) (i + 1)) rfl (nm_r (nI_1 i) (ih (i + 1) k (by omega) (by omega)))))
  exact ⟨9, l 8 0 9 rfl (by decide)⟩
theorem yw_mer (V : vw a_ways a_first a_second kd fi se) (K : vk kd fi se) {post : Int32 → SY → Prop} (hp : ∀ ov, post (rm (tm kd fi se)) (f_came, f_said, f_done, a_acts, a_numbers, a_ways, a_first, a_second, ov, a_reg, a_last, a_often)) : wpY_merges post (f_came, f_said, f_done, a_acts, a_numbers, a_ways, a_first, a_second, a_over, a_reg, a_last, a_often) := by
  unfold wpY_merges
  dsimp only
  refine yw_fo V K (fun ov O => ?_)
  have l : ∀ d i n, i + d = 8 → d < n → wY_merges_10 post f_came f_said f_done a_acts a_numbers a_ways a_first a_second ov a_reg a_last a_often n (rm_o (tm kd fi se) i) (rm_f (tm kd fi se) i) (nI i) := by
    intro d
    induction d with
    | zero =>
      intro i n hi hn
      obtain ⟨k, rfl⟩ : ∃ k, n = k + 1 := ⟨n - 1, by omega⟩
      obtain rfl : i = 8 := by omega
      exact br_t x8_t (hp ov)
    | succ d ih =>
      intro i n hi hn
      obtain ⟨k, rfl⟩ : ∃ k, n = k + 1 := ⟨n - 1, by omega⟩
      exact br_f (x8_f (by omega)) (yw_en0 V K O (by omega) (nm_r (e' := rm_f (tm kd fi se) (i + 1)) rfl (nm_r (e' := rm_o (tm kd fi se) (i + 1)) rfl (nm_r (nI_1 i) (ih (i + 1) k (by omega) (by omega))))))
  exact ⟨9, l 8 0 9 rfl (by decide)⟩
end
