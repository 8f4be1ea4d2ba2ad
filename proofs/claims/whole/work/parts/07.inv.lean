/-! the invariant of written and pending forms -/
theorem lk_m_scs (i : Nat × Nat) : ∀ (ms : List Nat) (L : List (Nat × Nat)), i ∈ lk_scs ms L ↔ (∃ m, m ∈ ms ∧ i = (3, m)) ∨ i ∈ L := by
  intro ms
  induction ms with
  | nil =>
    intro L
    exact ⟨fun h => Or.inr h, fun h => by
      rcases h with ⟨m, hm, _⟩ | h
      · cases hm
      · exact h⟩
  | cons m r ih =>
    intro L
    show i ∈ lk_scs r ((3, m) :: L) ↔ _
    rw [ih]
    constructor
    · rintro (⟨x, hx, e⟩ | h)
      · exact Or.inl ⟨x, List.mem_cons_of_mem _ hx, e⟩
      · rcases List.mem_cons.mp h with e | e
        · exact Or.inl ⟨m, List.mem_cons_self .., e⟩
        · exact Or.inr e
    · rintro (⟨x, hx, e⟩ | h)
      · rcases List.mem_cons.mp hx with y | y
        · subst y
          exact Or.inr (List.mem_cons.mpr (Or.inl e))
        · exact Or.inl ⟨x, y, e⟩
      · exact Or.inr (List.mem_cons_of_mem _ h)
theorem lk_m_ends (i : Nat × Nat) (ms : List Nat) : i ∈ lk_ends ms ↔ ∃ m, m ∈ ms ∧ (i = (4, m) ∨ i = (0, m)) := by
  induction ms with
  | nil => exact ⟨fun h => (by cases h), fun ⟨m, h, _⟩ => by cases h⟩
  | cons m r ih =>
    show i ∈ (4, m) :: (0, m) :: lk_ends r ↔ _
    rw [List.mem_cons, List.mem_cons, ih]
    constructor
    · rintro (h | h | ⟨x, hx, e⟩)
      · exact ⟨m, List.mem_cons_self .., Or.inl h⟩
      · exact ⟨m, List.mem_cons_self .., Or.inr h⟩
      · exact ⟨x, List.mem_cons_of_mem _ hx, e⟩
    · rintro ⟨x, hx, e⟩
      rcases List.mem_cons.mp hx with y | y
      · subst y
        rcases e with e | e
        · exact Or.inl e
        · exact Or.inr (Or.inl e)
      · exact Or.inr (Or.inr ⟨x, y, e⟩)
theorem lk_m_t (i : Nat × Nat) (lp : Nat → Bool) (f b : Nat) (S : List (Nat × Nat)) : i ∈ lk_t lp f b S ↔ (lp b = true ∧ i = (f, b)) ∨ i ∈ S := by
  unfold lk_t
  split
  · rename_i h
    rw [List.mem_cons]
    exact ⟨fun z => by
      rcases z with z | z
      · exact Or.inl ⟨h, z⟩
      · exact Or.inr z, fun z => by
      rcases z with z | z
      · exact Or.inl z.2
      · exact Or.inr z⟩
  · rename_i h
    exact ⟨fun z => Or.inr z, fun z => by
      rcases z with z | z
      · exact absurd z.1 h
      · exact z⟩
section
variable (lp : Nat → Bool) (mu : Nat → List Nat) (ef : Nat → Nat → Nat) (kd fi se : Nat → Nat)
theorem lk_m_ex (i : Nat × Nat) (b : Nat) (S : List (Nat × Nat)) : i ∈ lk_ex lp mu ef kd fi se b S ↔ (lp b = true ∧ i = (1, b)) ∨ (∃ m, m ∈ mu b ∧ i = (3, m)) ∨ i = (5, b) ∨ i ∈ lk_way ef kd fi se b ∨ i ∈ lk_ends (mu b) ∨ (lp b = true ∧ i = (2, b)) ∨ i ∈ S := by
  unfold lk_ex
  rw [lk_m_t, lk_m_scs, List.mem_cons, List.mem_append, List.mem_append, lk_m_t]
theorem lk_m_way (hef : ∀ b c, ef b c = 0 ∨ ef b c = 9 ∨ ef b c = 10) (x b : Nat) : ¬ (5, x) ∈ lk_way ef kd fi se b := by
  have e : ∀ c y, ¬ ((5, x) : Nat × Nat) = (ef b c, y) := by
    intro c y z
    injection z with z1 z2
    have := hef b c
    omega
  unfold lk_way
  split
  · intro h
    rcases List.mem_cons.mp h with h | h
    · injection h with h1 _
      exact absurd h1 (by decide)
    · cases h
  · split
    · intro h
      rcases List.mem_cons.mp h with h | h
      · exact e _ _ h
      · cases h
    · intro h
      rcases List.mem_cons.mp h with h | h
      · injection h with h1 _
        exact absurd h1 (by decide)
      · rcases List.mem_cons.mp h with h | h
        · exact e _ _ h
        · rcases List.mem_cons.mp h with h | h
          · injection h with h1 _
            exact absurd h1 (by decide)
          · rcases List.mem_cons.mp h with h | h
            · exact e _ _ h
            · rcases List.mem_cons.mp h with h | h
              · injection h with h1 _
                exact absurd h1 (by decide)
              · cases h
theorem lk_m_5 (hef : ∀ b c, ef b c = 0 ∨ ef b c = 9 ∨ ef b c = 10) {x b : Nat} {S : List (Nat × Nat)} (h : (5, x) ∈ lk_ex lp mu ef kd fi se b S) : x = b ∨ (5, x) ∈ S := by
  rcases (lk_m_ex lp mu ef kd fi se _ b S).mp h with ⟨_, z⟩ | ⟨m, _, z⟩ | z | z | z | ⟨_, z⟩ | z
  · injection z with z1 _
    exact absurd z1 (by decide)
  · injection z with z1 _
    exact absurd z1 (by decide)
  · injection z with z1 z2
    exact Or.inl z2
  · exact absurd z (lk_m_way ef kd fi se hef x b)
  · obtain ⟨m, _, z⟩ := (lk_m_ends _ _).mp z
    rcases z with z | z
    · injection z with z1 _
      exact absurd z1 (by decide)
    · injection z with z1 _
      exact absurd z1 (by decide)
  · injection z with z1 _
    exact absurd z1 (by decide)
  · exact Or.inr z
variable (ch : Nat → Nat → Prop) (lv : Nat → Prop)
def lk_I (Z : List (Nat × Nat)) : Prop :=
  lk_ok ef kd fi se Z ∧ (∀ c, lk_w (lk_c c) Z ≤ 1) ∧ (∀ c, c ≠ 0 → 0 < lk_w (lk_c c) Z → ∃ b, ch b c ∧ (5, b) ∈ Z) ∧ (∀ c, 0 < lk_w (lk_c c) Z → lv c) ∧
  (∀ b, (5, b) ∈ Z → (lp b = true → (1, b) ∈ Z) ∧ (kd b ≠ 0 → ¬ (kd b = 1 ∨ fi b = se b) → (7, b) ∈ Z) ∧ (∀ m, m ∈ mu b → (4, m) ∈ Z) ∧ (∀ c, ch b c → 0 < lk_w (lk_c c) Z)) ∧
  0 < lk_w (lk_c 0) Z ∧ Z.length + 7 * lk_w lk_P Z + 2 ≤ 10 * (lk_w lk_P Z + lk_w lk_D Z)
/-- what the shape of the program gives -/
def lk_H : Prop :=
  (∀ b c, ef b c = 0 ∨ ef b c = 9 ∨ ef b c = 10) ∧ (∀ c, lv c → c < 8) ∧ lv 0 ∧ (∀ b b' c, ch b c → ch b' c → b = b') ∧ (∀ b c, ch b c → b ≠ c ∧ c ≠ 0 ∧ lv c) ∧
  (∀ b c, lv b → lk_w (lk_c c) (lk_way ef kd fi se b) + lk_n c (mu b) ≤ 1) ∧
  (∀ b c, lv b → 0 < lk_w (lk_c c) (lk_way ef kd fi se b) + lk_n c (mu b) → ch b c) ∧
  (∀ b c, lv b → ch b c → 0 < lk_w (lk_c c) (lk_way ef kd fi se b) + lk_n c (mu b))
theorem lk_I_0 (H : lk_H mu ef kd fi se ch lv) : lk_I lp mu ef kd fi se ch lv [(0, 0)] := by
  have cz : ∀ c, lk_w (lk_c c) [(0, 0)] = if 0 = c then 1 else 0 := by
    intro c
    show lk_c c (0, 0) + 0 = _
    rw [lk_c_0, Nat.add_zero]
  refine ⟨⟨fun z => (by cases z), fun z => (by cases z), fun z => (by cases z), fun z => (by cases z), trivial⟩, fun c => ?_, fun c hc h => ?_, fun c h => ?_, fun b h => ?_, ?_, by decide⟩
  · rw [cz]
    split <;> omega
  · rw [cz, if_neg (fun z => hc z.symm)] at h
    exact absurd h (Nat.lt_irrefl 0)
  · rw [cz] at h
    by_cases e : 0 = c
    · rw [← e]
      exact H.2.2.1
    · rw [if_neg e] at h
      exact absurd h (Nat.lt_irrefl 0)
  · rcases List.mem_cons.mp h with h | h
    · injection h with h1 _
      exact absurd h1 (by decide)
    · cases h
  · rw [cz, if_pos rfl]
    exact Nat.one_pos
theorem lk_I_r (H : lk_H mu ef kd fi se ch lv) (A S : List (Nat × Nat)) (b : Nat) (I : lk_I lp mu ef kd fi se ch lv (A ++ (0, b) :: S)) : lk_I lp mu ef kd fi se ch lv (A ++ lk_ex lp mu ef kd fi se b S) := by
  obtain ⟨hef, hl8, hl0, hu, hn, h1, h2, h3⟩ := H
  obtain ⟨i1, i2, i3, i4, i5, i6, i7⟩ := I
  have wZ : ∀ w : Nat × Nat → Nat, lk_w w (A ++ (0, b) :: S) = lk_w w A + (w (0, b) + lk_w w S) := fun w => lk_w_a w A _
  have wZ' : ∀ w : Nat × Nat → Nat, lk_w w (A ++ lk_ex lp mu ef kd fi se b S) = lk_w w A + lk_w w (lk_ex lp mu ef kd fi se b S) := fun w => lk_w_a w A _
  have cc : ∀ c, lk_w (lk_c c) (A ++ lk_ex lp mu ef kd fi se b S) = lk_w (lk_c c) (A ++ (0, b) :: S) + (lk_w (lk_c c) (lk_way ef kd fi se b) + lk_n c (mu b)) := by
    intro c
    rw [wZ, wZ', lk_c_ex, lk_c_0]
    omega
  have inZ : 0 < lk_w (lk_c b) (A ++ (0, b) :: S) := by
    rw [wZ, lk_c_0, if_pos rfl]
    omega
  have hb : lv b := i4 b inZ
  have no5 : ¬ (5, b) ∈ A ++ (0, b) :: S := by
    intro h
    have a := i2 b
    rw [wZ, lk_c_0, if_pos rfl] at a
    rcases List.mem_append.mp h with h | h
    · have := lk_mem_c (Or.inr rfl) h
      omega
    · rcases List.mem_cons.mp h with h | h
      · injection h with h1 _
        exact absurd h1 (by decide)
      · have := lk_mem_c (Or.inr rfl) h
        omega
  have fresh : ∀ c, 0 < lk_w (lk_c c) (lk_way ef kd fi se b) + lk_n c (mu b) → lk_w (lk_c c) (A ++ (0, b) :: S) = 0 := by
    intro c hk
    have hc := h2 b c hb hk
    apply Classical.byContradiction
    intro n
    obtain ⟨b', hb', m⟩ := i3 c (hn b c hc).2.1 (by omega)
    rw [hu b' b c hb' hc] at m
    exact no5 m
  have up : ∀ i : Nat × Nat, i.1 ≠ 0 → i ∈ A ++ (0, b) :: S → i ∈ A ++ lk_ex lp mu ef kd fi se b S := by
    intro i hi h
    rcases List.mem_append.mp h with h | h
    · exact List.mem_append.mpr (Or.inl h)
    · rcases List.mem_cons.mp h with h | h
      · rw [h] at hi
        exact absurd rfl hi
      · exact List.mem_append.mpr (Or.inr ((lk_m_ex lp mu ef kd fi se i b S).mpr (Or.inr (Or.inr (Or.inr (Or.inr (Or.inr (Or.inr h))))))))
  have inx : ∀ i, i ∈ lk_ex lp mu ef kd fi se b S → i ∈ A ++ lk_ex lp mu ef kd fi se b S := fun i h => List.mem_append.mpr (Or.inr h)
  have new5 : (5, b) ∈ A ++ lk_ex lp mu ef kd fi se b S := inx _ ((lk_m_ex lp mu ef kd fi se _ b S).mpr (Or.inr (Or.inr (Or.inl rfl))))
  refine ⟨lk_ok_r lp mu ef kd fi se hef b S A i1, fun c => ?_, fun c hc h => ?_, fun c h => ?_, fun b' h => ?_, ?_, ?_⟩
  · rw [cc]
    have a := h1 b c hb
    have d := i2 c
    rcases Nat.eq_zero_or_pos (lk_w (lk_c c) (lk_way ef kd fi se b) + lk_n c (mu b)) with e | e
    · omega
    · have := fresh c e
      omega
  · rw [cc] at h
    rcases Nat.eq_zero_or_pos (lk_w (lk_c c) (lk_way ef kd fi se b) + lk_n c (mu b)) with e | e
    · obtain ⟨b', hb', m⟩ := i3 c hc (by omega)
      exact ⟨b', hb', up _ (by decide : (5 : Nat) ≠ 0) m⟩
    · exact ⟨b, h2 b c hb e, new5⟩
  · rw [cc] at h
    rcases Nat.eq_zero_or_pos (lk_w (lk_c c) (lk_way ef kd fi se b) + lk_n c (mu b)) with e | e
    · exact i4 c (by omega)
    · exact (hn b c (h2 b c hb e)).2.2
  · have old : (5, b') ∈ A ++ (0, b) :: S ∨ b' = b := by
      rcases List.mem_append.mp h with h | h
      · exact Or.inl (List.mem_append.mpr (Or.inl h))
      · rcases lk_m_5 lp mu ef kd fi se hef h with h | h
        · exact Or.inr h
        · exact Or.inl (List.mem_append.mpr (Or.inr (List.mem_cons_of_mem _ h)))
    rcases old with o | o
    · obtain ⟨o1, o2, o3, o4⟩ := i5 b' o
      refine ⟨fun z => up _ (by decide : (1 : Nat) ≠ 0) (o1 z), fun z y => up _ (by decide : (7 : Nat) ≠ 0) (o2 z y), fun m hm => up _ (by decide : (4 : Nat) ≠ 0) (o3 m hm), fun c hc => ?_⟩
      rw [cc]
      have := o4 c hc
      omega
    · subst o
      refine ⟨fun z => inx _ ((lk_m_ex lp mu ef kd fi se _ b' S).mpr (Or.inl ⟨z, rfl⟩)), fun z y => inx _ ((lk_m_ex lp mu ef kd fi se _ b' S).mpr (Or.inr (Or.inr (Or.inr (Or.inl ?_))))), fun m hm => inx _ ((lk_m_ex lp mu ef kd fi se _ b' S).mpr (Or.inr (Or.inr (Or.inr (Or.inr (Or.inl ((lk_m_ends _ _).mpr ⟨m, hm, Or.inl rfl⟩))))))), fun c hc => ?_⟩
      · unfold lk_way
        rw [if_neg z, if_neg y]
        exact List.mem_cons_of_mem _ (List.mem_cons_of_mem _ (List.mem_cons_self ..))
      · rw [cc]
        have := h3 b' c hb hc
        omega
  · rw [cc]
    omega
  · obtain ⟨e1, e2, e3⟩ := lk_nm_ex lp mu ef hef kd fi se b S
    have p := wZ lk_P
    have p' := wZ' lk_P
    have d := wZ lk_D
    have d' := wZ' lk_D
    have p0 : lk_P (0, b) = 1 := rfl
    have d0 : lk_D (0, b) = 0 := rfl
    rw [List.length_append, List.length_cons] at i7
    rw [List.length_append]
    omega
theorem lk_I_n (H : lk_H mu ef kd fi se ch lv) {Z : List (Nat × Nat)} (I : lk_I lp mu ef kd fi se ch lv Z) : lk_w lk_P Z + lk_w lk_D Z ≤ 8 ∧ Z.length ≤ 78 := by
  obtain ⟨hef, hl8, hl0, hu, hn, h1, h2, h3⟩ := H
  obtain ⟨i1, i2, i3, i4, i5, i6, i7⟩ := I
  have s : ∀ n, lk_sm Z n ≤ n := by
    intro n
    induction n with
    | zero => exact Nat.le_refl 0
    | succ n ih =>
      show lk_sm Z n + lk_w (lk_c n) Z ≤ n + 1
      have := i2 n
      omega
  have e : lk_sm Z 8 = lk_w lk_P Z + lk_w lk_D Z := by
    apply lk_sm_8
    intro i hi hf
    apply hl8
    apply i4
    obtain ⟨f, x⟩ := i
    exact lk_mem_c hf hi
  have := s 8
  exact ⟨by omega, by omega⟩
end
