/-! the ways on as naturals, and what the component's code takes of them -/
def tm (kd fi se : Nat → Nat) (b : Nat) : Int32 := if kd b = 0 then 0 else if 2 ≤ kd b then rb_p (fi b) ||| rb_p (se b) else rb_p (fi b)
/-- the ways on hold what way lets in -/
def vk (kd fi se : Nat → Nat) : Prop := ∀ b, b < 8 → kd b ≤ 4 ∧ (kd b ≠ 0 → fi b < 8) ∧ (2 ≤ kd b → se b < 8)
/-- three arrays that hold them -/
def vw (wk wf ws : Nat → Int32) (kd fi se : Nat → Nat) : Prop :=
  ∀ b, b < 8 → wk b = nI (kd b) ∧ (kd b ≠ 0 → wf b = nI (fi b)) ∧ (2 ≤ kd b → ws b = nI (se b))
theorem tg_iff {kd fi se : Nat → Nat} (V : vk kd fi se) {b : Nat} (hb : b < 8) (c : Nat) :
    bt (tm kd fi se b) c = true ↔ kd b ≠ 0 ∧ (c = fi b ∨ (2 ≤ kd b ∧ c = se b)) := by
  obtain ⟨v2, v3, v4⟩ := V b hb
  unfold tm
  by_cases k0 : kd b = 0
  · rw [if_pos k0, b_0]
    exact ⟨fun z => (by cases z), fun z => absurd k0 z.1⟩
  · have f2 := v3 k0
    rw [if_neg k0]
    by_cases k2 : 2 ≤ kd b
    · have s2 := v4 k2
      rw [if_pos k2, b_or, rb_pb (by omega), rb_pb (by omega), Bool.or_eq_true, decide_eq_true_iff, decide_eq_true_iff]
      constructor
      · rintro (h | h)
        · exact ⟨k0, Or.inl h⟩
        · exact ⟨k0, Or.inr ⟨k2, h⟩⟩
      · rintro ⟨_, h | h⟩
        · exact Or.inl h
        · exact Or.inr h.2
    · rw [if_neg k2, rb_pb (by omega), decide_eq_true_iff]
      constructor
      · exact fun h => ⟨k0, Or.inl h⟩
      · rintro ⟨_, h | h⟩
        · exact h
        · exact absurd h.1 k2
theorem tg_lo {kd fi se : Nat → Nat} (V : vk kd fi se) : rt_lo (tm kd fi se) := by
  intro b hb i hi
  apply rb_tf
  intro z
  obtain ⟨v2, v3, v4⟩ := V b hb
  obtain ⟨z1, z2⟩ := (tg_iff V hb i).mp z
  rcases z2 with z2 | ⟨z2, z3⟩
  · have := v3 z1
    omega
  · have := v4 z2
    omega
/-- the form of an edge -/
def ef (T : Nat → Int32) (b c : Nat) : Nat := if bt (rd T b) c = true then 10 else if bt (rm T) c = true then 9 else 0
theorem ef_3 (T : Nat → Int32) (b c : Nat) : ef T b c = 0 ∨ ef T b c = 9 ∨ ef T b c = 10 := by
  unfold ef
  split
  · exact Or.inr (Or.inr rfl)
  · split
    · exact Or.inr (Or.inl rfl)
    · exact Or.inl rfl
theorem ef_0 {T : Nat → Int32} {b c : Nat} : ef T b c = 0 ↔ bt (rd T b) c = false ∧ bt (rm T) c = false := by
  unfold ef
  constructor
  · intro h
    split at h
    · exact absurd h (by decide)
    · split at h
      · exact absurd h (by decide)
      · rename_i h1 h2
        exact ⟨rb_tf h1, rb_tf h2⟩
  · rintro ⟨h1, h2⟩
    rw [if_neg (by rw [h1]; decide), if_neg (by rw [h2]; decide)]
/-- c is a merge whose code stands behind the scope of b -/
def mub (T : Nat → Int32) (b c : Nat) : Bool := bt (rm T) c && decide (rd T b = (rd T c &&& (rb_p c ^^^ (-1))))
def mul (T : Nat → Int32) (ol : List Nat) (b : Nat) : List Nat := ol.filter (mub T b)
def lps (T : Nat → Int32) (b : Nat) : Bool := bt (rl T) b
theorem lk_n_f (c : Nat) (p : Nat → Bool) (l : List Nat) : lk_n c (l.filter p) = if p c = true then lk_n c l else 0 := by
  induction l with
  | nil =>
    split <;> rfl
  | cons m r ih =>
    rw [List.filter_cons]
    by_cases e : p m = true
    · rw [if_pos e]
      show (if m = c then 1 else 0) + lk_n c (r.filter p) = if p c = true then (if m = c then 1 else 0) + lk_n c r else 0
      rw [ih]
      by_cases y : p c = true
      · rw [if_pos y, if_pos y]
      · have ne : ¬ m = c := fun z => y (by rw [← z]; exact e)
        rw [if_neg y, if_neg y, if_neg ne]
    · rw [if_neg e, ih]
      show _ = if p c = true then (if m = c then 1 else 0) + lk_n c r else 0
      by_cases y : p c = true
      · have ne : ¬ m = c := fun z => e (by rw [z]; exact y)
        rw [if_pos y, if_pos y, if_neg ne, Nat.zero_add]
      · rw [if_neg y, if_neg y]
theorem lk_n_m {c : Nat} {l : List Nat} : 0 < lk_n c l ↔ c ∈ l := by
  induction l with
  | nil => exact ⟨fun h => absurd h (Nat.lt_irrefl 0), fun h => by cases h⟩
  | cons m r ih =>
    show 0 < (if m = c then 1 else 0) + lk_n c r ↔ _
    rw [List.mem_cons, ← ih]
    by_cases e : m = c
    · rw [if_pos e]
      exact ⟨fun _ => Or.inl e.symm, fun _ => by omega⟩
    · rw [if_neg e, Nat.zero_add]
      exact ⟨fun h => Or.inr h, fun h => by
        rcases h with h | h
        · exact absurd h.symm e
        · exact h⟩
theorem lk_c_e (T : Nat → Int32) (b f c : Nat) : lk_c c (ef T b f, f) = if ef T b f = 0 ∧ f = c then 1 else 0 := by
  unfold lk_c
  have h := ef_3 T b f
  by_cases e : ef T b f = 0 ∧ f = c
  · rw [if_pos ⟨Or.inl e.1, e.2⟩, if_pos e]
  · rw [if_neg e, if_neg (fun z => e ⟨by
      have z1 : ef T b f = 0 ∨ ef T b f = 5 := z.1
      omega, z.2⟩)]
theorem wy_c {kd fi se : Nat → Nat} (V : vk kd fi se) {T : Nat → Int32} (hT : T = tm kd fi se) {b : Nat} (hb : b < 8) (c : Nat) :
    lk_w (lk_c c) (lk_way (ef T) kd fi se b) = if bt (T b) c = true ∧ ef T b c = 0 then 1 else 0 := by
  have ti := tg_iff V hb c
  rw [← hT] at ti
  obtain ⟨v2, v3, v4⟩ := V b hb
  unfold lk_way
  by_cases k0 : kd b = 0
  · rw [if_pos k0, if_neg (fun z => (ti.mp z.1).1 k0)]
    show lk_c c (11, b) + 0 = 0
    rw [lk_c_n (by decide) (by decide)]
  · rw [if_neg k0]
    by_cases k1 : kd b = 1 ∨ fi b = se b
    · rw [if_pos k1]
      show lk_c c (ef T b (fi b), fi b) + 0 = _
      rw [lk_c_e, Nat.add_zero]
      by_cases e : fi b = c
      · subst e
        by_cases z : ef T b (fi b) = 0
        · rw [if_pos ⟨z, rfl⟩, if_pos ⟨ti.mpr ⟨k0, Or.inl rfl⟩, z⟩]
        · rw [if_neg (fun y => z y.1), if_neg (fun y => z y.2)]
      · rw [if_neg (fun y => e y.2), if_neg (fun y => by
          rcases (ti.mp y.1).2 with q | ⟨q1, q2⟩
          · exact e q.symm
          · rcases k1 with k1 | k1
            · omega
            · exact e (k1.trans q2.symm))]
    · rw [if_neg k1]
      show lk_c c (6, b) + (lk_c c (ef T b (fi b), fi b) + (lk_c c (7, b) + (lk_c c (ef T b (se b), se b) + (lk_c c (8, b) + 0)))) = _
      rw [lk_c_e, lk_c_e, lk_c_n (by decide) (by decide), lk_c_n (by decide) (by decide), lk_c_n (by decide) (by decide)]
      have k2 : 2 ≤ kd b := by omega
      by_cases e : fi b = c
      · subst e
        rw [if_neg (fun y : ef T b (se b) = 0 ∧ se b = fi b => k1 (Or.inr y.2.symm))]
        by_cases z : ef T b (fi b) = 0
        · rw [if_pos ⟨z, rfl⟩, if_pos ⟨ti.mpr ⟨k0, Or.inl rfl⟩, z⟩]
        · rw [if_neg (fun y => z y.1), if_neg (fun y => z y.2)]
      · rw [if_neg (fun y : ef T b (fi b) = 0 ∧ fi b = c => e y.2)]
        by_cases e2 : se b = c
        · subst e2
          by_cases z : ef T b (se b) = 0
          · rw [if_pos ⟨z, rfl⟩, if_pos ⟨ti.mpr ⟨k0, Or.inr ⟨k2, rfl⟩⟩, z⟩]
          · rw [if_neg (fun y => z y.1), if_neg (fun y => z y.2)]
        · rw [if_neg (fun y => e2 y.2), if_neg (fun y => by
            rcases (ti.mp y.1).2 with q | ⟨q1, q2⟩
            · exact e q.symm
            · exact e2 q2.symm)]
theorem mub_iff (T : Nat → Int32) (b c : Nat) : mub T b c = true ↔ bt (rm T) c = true ∧ rd T b = (rd T c &&& (rb_p c ^^^ (-1))) := by
  unfold mub
  rw [Bool.and_eq_true, decide_eq_true_iff]
/-- the order lists the live blocks, each once -/
def olk (T : Nat → Int32) (ol : List Nat) : Prop := (∀ c, lk_n c ol ≤ 1) ∧ ∀ c, c ∈ ol ↔ rv T c
theorem sh_H {kd fi se : Nat → Nat} (V : vk kd fi se) {T : Nat → Int32} (hT : T = tm kd fi se) {ol : List Nat} (O : olk T ol) :
    lk_H (mul T ol) (ef T) kd fi se (rk T) (rv T) := by
  have tl : rt_lo T := by
    rw [hT]
    exact tg_lo V
  have nm : ∀ b c, lk_n c (mul T ol b) = if mub T b c = true then lk_n c ol else 0 := fun b c => lk_n_f c (mub T b) ol
  refine ⟨ef_3 T, fun c h => rr_lt tl h, rv_0, fun b b' c h h' => rk_u tl h h', fun b c h => ⟨rk_ne tl h, rk_0 tl h, h.2.2.2.1⟩, fun b c hb => ?_, fun b c hb h => ?_, fun b c hb h => ?_⟩
  · rw [wy_c V hT (rr_lt tl hb), nm]
    have := O.1 c
    by_cases w : bt (T b) c = true ∧ ef T b c = 0
    · rw [if_pos w, if_neg (fun y => by
        have y1 := ((mub_iff T b c).mp y).1
        rw [(ef_0.mp w.2).2] at y1
        cases y1)]
      exact Nat.le_refl 1
    · rw [if_neg w]
      split <;> omega
  · have b8 := rr_lt tl hb
    rw [wy_c V hT b8, nm] at h
    by_cases w : bt (T b) c = true ∧ ef T b c = 0
    · obtain ⟨w1, w2⟩ := w
      obtain ⟨w3, w4⟩ := ef_0.mp w2
      refine ⟨b8, rs_lt8 (tl b b8) w1, hb, rv_s b8 hb w1, Or.inr ⟨w4, ?_⟩⟩
      unfold rf
      rw [rb_an, (rg_iff tl b c).mpr ⟨hb, w1⟩, w3]
      rfl
    · rw [if_neg w, Nat.zero_add] at h
      by_cases y : mub T b c = true
      · rw [if_pos y] at h
        have hc := (O.2 c).mp (lk_n_m.mp h)
        obtain ⟨y1, y2⟩ := (mub_iff T b c).mp y
        exact ⟨b8, rr_lt tl hc, hb, hc, Or.inl ⟨y1, y2⟩⟩
      · rw [if_neg y] at h
        exact absurd h (Nat.lt_irrefl 0)
  · have b8 := rr_lt tl hb
    rw [wy_c V hT b8, nm]
    obtain ⟨_, c8, _, hc, h5⟩ := h
    rcases h5 with ⟨m, e⟩ | ⟨m, e⟩
    · have p : 0 < lk_n c ol := lk_n_m.mpr ((O.2 c).mpr hc)
      rw [if_pos ((mub_iff T b c).mpr ⟨m, e⟩)]
      omega
    · obtain ⟨a1, a2, a3⟩ := (rf_iff tl b8 c).mp e
      rw [if_pos ⟨a2, ef_0.mpr ⟨rb_tf (fun y => ((rd_iff tl b c).mp y).2.2 a3), m⟩⟩]
      omega
theorem sh_all {kd fi se : Nat → Nat} (V : vk kd fi se) {T : Nat → Int32} (hT : T = tm kd fi se) {ol : List Nat} {lp : Nat → Bool} {Z : List (Nat × Nat)}
    (I : lk_I lp (mul T ol) (ef T) kd fi se (rk T) (rv T) Z) (hP : ∀ x, ¬ (0, x) ∈ Z) : ∀ c, rv T c → (5, c) ∈ Z := by
  have tl : rt_lo T := by
    rw [hT]
    exact tg_lo V
  obtain ⟨i1, i2, i3, i4, i5, i6, i7⟩ := I
  have pre : ∀ c, 0 < lk_w (lk_c c) Z → (5, c) ∈ Z := by
    intro c h
    rcases lk_c_mem h with y | y
    · exact absurd y (hP c)
    · exact y
  have k : ∀ n c, rs_cn (bt (rd T c)) 8 < n → rv T c → (5, c) ∈ Z := by
    intro n
    induction n with
    | zero => exact fun c h => absurd h (Nat.not_lt_zero _)
    | succ n ih =>
      intro c h hc
      by_cases e : c = 0
      · subst e
        exact pre 0 i6
      · obtain ⟨b, hb, l⟩ := rk_ex tl hc e
        have b5 := ih b (by omega) hb.2.2.1
        exact pre c ((i5 b b5).2.2.2 c hb)
  exact fun c hc => k _ c (Nat.lt_succ_self _) hc
