/-! the nested code as a list of forms: what is written, then what is pending. 0 PIECE, 1 LOOP, 2 LOOP_END, 3 SCOPE, 4 SCOPE_END, 5 DO, 6 IF, 7 ELSE, 8 IF_END, 9 LEAVE, 10 AGAIN, 11 FINISH -/
def lk_nd (c : Nat) : List (Nat × Nat) → Prop
  | [] => False
  | i :: r => if i.1 = 1 ∨ i.1 = 3 then lk_nd c r else ((i.1 = 0 ∨ i.1 = 5) ∧ i.2 = c)
def lk_ed (ef : Nat → Nat → Nat) (b c : Nat) (r : List (Nat × Nat)) : Prop := (ef b c = 0 → lk_nd c r) ∧ (ef b c ≠ 0 → ∃ r', r = (ef b c, c) :: r')
def lk_wy (ef : Nat → Nat → Nat) (kd fi se : Nat → Nat) (b : Nat) (r : List (Nat × Nat)) : Prop :=
  (kd b = 0 → ∃ r', r = (11, b) :: r') ∧ (kd b ≠ 0 → (kd b = 1 ∨ fi b = se b) → lk_ed ef b (fi b) r) ∧ (kd b ≠ 0 → ¬ (kd b = 1 ∨ fi b = se b) → ∃ r', r = (6, b) :: r' ∧ lk_ed ef b (fi b) r')
def lk_ok (ef : Nat → Nat → Nat) (kd fi se : Nat → Nat) : List (Nat × Nat) → Prop
  | [] => True
  | i :: r => (i.1 = 1 → lk_nd i.2 r) ∧ (i.1 = 4 → lk_nd i.2 r) ∧ (i.1 = 5 → lk_wy ef kd fi se i.2 r) ∧ (i.1 = 7 → lk_ed ef i.2 (se i.2) r) ∧ lk_ok ef kd fi se r
def lk_way (ef : Nat → Nat → Nat) (kd fi se : Nat → Nat) (b : Nat) : List (Nat × Nat) :=
  if kd b = 0 then [(11, b)] else if kd b = 1 ∨ fi b = se b then [(ef b (fi b), fi b)] else [(6, b), (ef b (fi b), fi b), (7, b), (ef b (se b), se b), (8, b)]
def lk_ends : List Nat → List (Nat × Nat)
  | [] => []
  | m :: r => (4, m) :: (0, m) :: lk_ends r
def lk_scs : List Nat → List (Nat × Nat) → List (Nat × Nat)
  | [], L => L
  | m :: r, L => lk_scs r ((3, m) :: L)
def lk_t (lp : Nat → Bool) (f b : Nat) (S : List (Nat × Nat)) : List (Nat × Nat) := if lp b = true then (f, b) :: S else S
def lk_ex (lp : Nat → Bool) (mu : Nat → List Nat) (ef : Nat → Nat → Nat) (kd fi se : Nat → Nat) (b : Nat) (S : List (Nat × Nat)) : List (Nat × Nat) :=
  lk_t lp 1 b (lk_scs (mu b) ((5, b) :: (lk_way ef kd fi se b ++ (lk_ends (mu b) ++ lk_t lp 2 b S))))
theorem lk_nd_scs (c : Nat) : ∀ (ms : List Nat) (L : List (Nat × Nat)), lk_nd c L → lk_nd c (lk_scs ms L) := by
  intro ms
  induction ms with
  | nil => exact fun L h => h
  | cons m r ih =>
    intro L h
    refine ih ((3, m) :: L) ?_
    show if (3 : Nat) = 1 ∨ (3 : Nat) = 3 then lk_nd c L else _
    rw [if_pos (Or.inr rfl)]
    exact h
theorem lk_nd_d (b : Nat) (r : List (Nat × Nat)) : lk_nd b ((5, b) :: r) := by
  show if (5 : Nat) = 1 ∨ (5 : Nat) = 3 then lk_nd b r else (((5 : Nat) = 0 ∨ (5 : Nat) = 5) ∧ b = b)
  rw [if_neg (by decide)]
  exact ⟨Or.inr rfl, rfl⟩
theorem lk_nd_p (b : Nat) (r : List (Nat × Nat)) : lk_nd b ((0, b) :: r) := by
  show if (0 : Nat) = 1 ∨ (0 : Nat) = 3 then lk_nd b r else (((0 : Nat) = 0 ∨ (0 : Nat) = 5) ∧ b = b)
  rw [if_neg (by decide)]
  exact ⟨Or.inl rfl, rfl⟩
section
variable (lp : Nat → Bool) (mu : Nat → List Nat) (ef : Nat → Nat → Nat) (kd fi se : Nat → Nat)
theorem lk_nd_ex (b : Nat) (S : List (Nat × Nat)) : lk_nd b (lk_ex lp mu ef kd fi se b S) := by
  unfold lk_ex lk_t
  split
  · show if (1 : Nat) = 1 ∨ (1 : Nat) = 3 then _ else _
    rw [if_pos (Or.inl rfl)]
    exact lk_nd_scs b _ _ (lk_nd_d b _)
  · exact lk_nd_scs b _ _ (lk_nd_d b _)
theorem lk_nd_r (c b : Nat) (S : List (Nat × Nat)) : ∀ A : List (Nat × Nat), lk_nd c (A ++ (0, b) :: S) → lk_nd c (A ++ lk_ex lp mu ef kd fi se b S) := by
  intro A
  induction A with
  | nil =>
    intro h
    have h' : if (0 : Nat) = 1 ∨ (0 : Nat) = 3 then lk_nd c S else (((0 : Nat) = 0 ∨ (0 : Nat) = 5) ∧ b = c) := h
    rw [if_neg (by decide)] at h'
    rw [← h'.2]
    exact lk_nd_ex lp mu ef kd fi se b S
  | cons i A ih =>
    intro h
    simp only [List.cons_append, lk_nd] at h ⊢
    by_cases w : i.1 = 1 ∨ i.1 = 3
    · rw [if_pos w] at h ⊢
      exact ih h
    · rw [if_neg w] at h ⊢
      exact h
theorem lk_hd {f x b : Nat} {S A r : List (Nat × Nat)} (hf : f ≠ 0) (e : A ++ (0, b) :: S = (f, x) :: r) : ∃ A', A = (f, x) :: A' ∧ r = A' ++ (0, b) :: S := by
  cases A with
  | nil =>
    rw [List.nil_append] at e
    injection e with e1 e2
    injection e1 with e3 e4
    exact absurd e3.symm hf
  | cons i A =>
    rw [List.cons_append] at e
    injection e with e1 e2
    exact ⟨A, by rw [e1], e2.symm⟩
theorem lk_ed_r (b' c b : Nat) (S A : List (Nat × Nat)) (h : lk_ed ef b' c (A ++ (0, b) :: S)) : lk_ed ef b' c (A ++ lk_ex lp mu ef kd fi se b S) := by
  refine ⟨fun z => lk_nd_r lp mu ef kd fi se c b S A (h.1 z), fun z => ?_⟩
  obtain ⟨r, e⟩ := h.2 z
  obtain ⟨A', e1, _⟩ := lk_hd z e
  exact ⟨A' ++ lk_ex lp mu ef kd fi se b S, by rw [e1, List.cons_append]⟩
theorem lk_wy_r (b' b : Nat) (S A : List (Nat × Nat)) (h : lk_wy ef kd fi se b' (A ++ (0, b) :: S)) : lk_wy ef kd fi se b' (A ++ lk_ex lp mu ef kd fi se b S) := by
  refine ⟨fun z => ?_, fun z y => lk_ed_r lp mu ef kd fi se b' _ b S A (h.2.1 z y), fun z y => ?_⟩
  · obtain ⟨r, e⟩ := h.1 z
    obtain ⟨A', e1, _⟩ := lk_hd (by decide) e
    exact ⟨A' ++ lk_ex lp mu ef kd fi se b S, by rw [e1, List.cons_append]⟩
  · obtain ⟨r, e, d⟩ := h.2.2 z y
    obtain ⟨A', e1, e2⟩ := lk_hd (by decide) e
    rw [e2] at d
    exact ⟨A' ++ lk_ex lp mu ef kd fi se b S, by rw [e1, List.cons_append], lk_ed_r lp mu ef kd fi se b' _ b S A' d⟩
theorem lk_ok_scs : ∀ (ms : List Nat) (L : List (Nat × Nat)), lk_ok ef kd fi se L → lk_ok ef kd fi se (lk_scs ms L) := by
  intro ms
  induction ms with
  | nil => exact fun L h => h
  | cons m r ih => exact fun L h => ih ((3, m) :: L) ⟨fun z => (by cases z), fun z => (by cases z), fun z => (by cases z), fun z => (by cases z), h⟩
theorem lk_ok_ends (L : List (Nat × Nat)) (h : lk_ok ef kd fi se L) : ∀ ms : List Nat, lk_ok ef kd fi se (lk_ends ms ++ L) := by
  intro ms
  induction ms with
  | nil => exact h
  | cons m r ih => exact ⟨fun z => (by cases z), fun _ => lk_nd_p m _, fun z => (by cases z), fun z => (by cases z), fun z => (by cases z), fun z => (by cases z), fun z => (by cases z), fun z => (by cases z), ih⟩
theorem lk_ed_h (b c : Nat) (r : List (Nat × Nat)) : lk_ed ef b c ((ef b c, c) :: r) := by
  refine ⟨fun z => ?_, fun _ => ⟨r, rfl⟩⟩
  rw [z]
  exact lk_nd_p c r
theorem lk_ok_e {b c : Nat} (hef : ef b c = 0 ∨ ef b c = 9 ∨ ef b c = 10) (r : List (Nat × Nat)) (h : lk_ok ef kd fi se r) : lk_ok ef kd fi se ((ef b c, c) :: r) := by
  have n : ∀ k, k = 1 ∨ k = 4 ∨ k = 5 ∨ k = 7 → ¬ ef b c = k := by
    intro k hk
    omega
  exact ⟨fun z => absurd z (n 1 (by omega)), fun z => absurd z (n 4 (by omega)), fun z => absurd z (n 5 (by omega)), fun z => absurd z (n 7 (by omega)), h⟩
theorem lk_ok_way (hef : ∀ b c, ef b c = 0 ∨ ef b c = 9 ∨ ef b c = 10) (b : Nat) (r : List (Nat × Nat)) (h : lk_ok ef kd fi se r) : lk_ok ef kd fi se (lk_way ef kd fi se b ++ r) ∧ lk_wy ef kd fi se b (lk_way ef kd fi se b ++ r) := by
  unfold lk_way
  by_cases k0 : kd b = 0
  · rw [if_pos k0]
    exact ⟨⟨fun z => (by cases z), fun z => (by cases z), fun z => (by cases z), fun z => (by cases z), h⟩, fun _ => ⟨r, rfl⟩, fun z => absurd k0 z, fun z => absurd k0 z⟩
  · rw [if_neg k0]
    by_cases k1 : kd b = 1 ∨ fi b = se b
    · rw [if_pos k1]
      exact ⟨lk_ok_e ef kd fi se (hef _ _) r h, fun z => absurd z k0, fun _ _ => lk_ed_h ef b _ r, fun _ z => absurd k1 z⟩
    · rw [if_neg k1]
      refine ⟨?_, fun z => absurd z k0, fun _ z => absurd z k1, fun _ _ => ⟨_, rfl, lk_ed_h ef b _ _⟩⟩
      refine ⟨fun z => (by cases z), fun z => (by cases z), fun z => (by cases z), fun z => (by cases z), lk_ok_e ef kd fi se (hef _ _) _ ?_⟩
      refine ⟨fun z => (by cases z), fun z => (by cases z), fun z => (by cases z), fun _ => lk_ed_h ef b _ _, lk_ok_e ef kd fi se (hef _ _) _ ?_⟩
      exact ⟨fun z => (by cases z), fun z => (by cases z), fun z => (by cases z), fun z => (by cases z), h⟩
theorem lk_ok_ex (hef : ∀ b c, ef b c = 0 ∨ ef b c = 9 ∨ ef b c = 10) (b : Nat) (S : List (Nat × Nat)) (h : lk_ok ef kd fi se S) : lk_ok ef kd fi se (lk_ex lp mu ef kd fi se b S) := by
  have h1 : lk_ok ef kd fi se (lk_t lp 2 b S) := by
    unfold lk_t
    split
    · exact ⟨fun z => (by cases z), fun z => (by cases z), fun z => (by cases z), fun z => (by cases z), h⟩
    · exact h
  have h2 := lk_ok_ends ef kd fi se _ h1 (mu b)
  obtain ⟨h3, h4⟩ := lk_ok_way ef kd fi se hef b _ h2
  have h5 : lk_ok ef kd fi se ((5, b) :: (lk_way ef kd fi se b ++ (lk_ends (mu b) ++ lk_t lp 2 b S))) :=
    ⟨fun z => (by cases z), fun z => (by cases z), fun _ => h4, fun z => (by cases z), h3⟩
  have h6 := lk_ok_scs ef kd fi se (mu b) _ h5
  unfold lk_ex
  generalize lk_t lp 2 b S = S2 at h6 ⊢
  unfold lk_t
  split
  · exact ⟨fun _ => lk_nd_scs b _ _ (lk_nd_d b _), fun z => (by cases z), fun z => (by cases z), fun z => (by cases z), h6⟩
  · exact h6
theorem lk_ok_r (hef : ∀ b c, ef b c = 0 ∨ ef b c = 9 ∨ ef b c = 10) (b : Nat) (S : List (Nat × Nat)) : ∀ A : List (Nat × Nat), lk_ok ef kd fi se (A ++ (0, b) :: S) → lk_ok ef kd fi se (A ++ lk_ex lp mu ef kd fi se b S) := by
  intro A
  induction A with
  | nil => exact fun h => lk_ok_ex lp mu ef kd fi se hef b S h.2.2.2.2
  | cons i A ih =>
    intro h
    obtain ⟨h1, h2, h3, h4, h5⟩ := h
    exact ⟨fun z => lk_nd_r lp mu ef kd fi se _ b S A (h1 z), fun z => lk_nd_r lp mu ef kd fi se _ b S A (h2 z), fun z => lk_wy_r lp mu ef kd fi se _ b S A (h3 z), fun z => lk_ed_r lp mu ef kd fi se _ _ b S A (h4 z), ih h5⟩
end
/-! weights -/
def lk_w (w : Nat × Nat → Nat) : List (Nat × Nat) → Nat
  | [] => 0
  | i :: r => w i + lk_w w r
theorem lk_w_a (w : Nat × Nat → Nat) (A B : List (Nat × Nat)) : lk_w w (A ++ B) = lk_w w A + lk_w w B := by
  induction A with
  | nil => exact (Nat.zero_add _).symm
  | cons i A ih =>
    show w i + lk_w w (A ++ B) = w i + lk_w w A + lk_w w B
    rw [ih, Nat.add_assoc]
def lk_sw (w : Nat × Nat → Nat) : List Nat → Nat
  | [] => 0
  | m :: r => w (3, m) + lk_sw w r
theorem lk_w_scs (w : Nat × Nat → Nat) : ∀ (ms : List Nat) (L : List (Nat × Nat)), lk_w w (lk_scs ms L) = lk_sw w ms + lk_w w L := by
  intro ms
  induction ms with
  | nil => exact fun L => (Nat.zero_add _).symm
  | cons m r ih =>
    intro L
    show lk_w w (lk_scs r ((3, m) :: L)) = w (3, m) + lk_sw w r + lk_w w L
    rw [ih]
    show lk_sw w r + (w (3, m) + lk_w w L) = _
    omega
theorem lk_w_t (w : Nat × Nat → Nat) (lp : Nat → Bool) (f b : Nat) (S : List (Nat × Nat)) : lk_w w (lk_t lp f b S) = (if lp b = true then w (f, b) else 0) + lk_w w S := by
  unfold lk_t
  split
  · rfl
  · exact (Nat.zero_add _).symm
theorem lk_w_ex (w : Nat × Nat → Nat) (lp : Nat → Bool) (mu : Nat → List Nat) (ef : Nat → Nat → Nat) (kd fi se : Nat → Nat) (b : Nat) (S : List (Nat × Nat)) :
    lk_w w (lk_ex lp mu ef kd fi se b S) = (if lp b = true then w (1, b) else 0) + (if lp b = true then w (2, b) else 0) + lk_sw w (mu b) + w (5, b) + lk_w w (lk_way ef kd fi se b) + lk_w w (lk_ends (mu b)) + lk_w w S := by
  unfold lk_ex
  rw [lk_w_t, lk_w_scs]
  show _ + (_ + (w (5, b) + lk_w w (_ ++ (_ ++ _)))) = _
  rw [lk_w_a, lk_w_a, lk_w_t]
  omega
def lk_c (c : Nat) (i : Nat × Nat) : Nat := if (i.1 = 0 ∨ i.1 = 5) ∧ i.2 = c then 1 else 0
def lk_P (i : Nat × Nat) : Nat := if i.1 = 0 then 1 else 0
def lk_D (i : Nat × Nat) : Nat := if i.1 = 5 then 1 else 0
theorem lk_c_n {c f x : Nat} (h : f ≠ 0) (h' : f ≠ 5) : lk_c c (f, x) = 0 := if_neg (fun z => by rcases z.1 with y | y; exact h y; exact h' y)
theorem lk_c_0 (c x : Nat) : lk_c c (0, x) = if x = c then 1 else 0 := by
  unfold lk_c
  by_cases e : x = c
  · rw [if_pos ⟨Or.inl rfl, e⟩, if_pos e]
  · rw [if_neg (fun z => e z.2), if_neg e]
theorem lk_c_5 (c x : Nat) : lk_c c (5, x) = if x = c then 1 else 0 := by
  unfold lk_c
  by_cases e : x = c
  · rw [if_pos ⟨Or.inr rfl, e⟩, if_pos e]
  · rw [if_neg (fun z => e z.2), if_neg e]
theorem lk_sw_0 {w : Nat × Nat → Nat} (h : ∀ m, w (3, m) = 0) (ms : List Nat) : lk_sw w ms = 0 := by
  induction ms with
  | nil => rfl
  | cons m r ih =>
    show w (3, m) + lk_sw w r = 0
    rw [h, ih]
/-- how often c stands in a list -/
def lk_n (c : Nat) : List Nat → Nat
  | [] => 0
  | m :: r => (if m = c then 1 else 0) + lk_n c r
theorem lk_c_ends (c : Nat) (ms : List Nat) : lk_w (lk_c c) (lk_ends ms) = lk_n c ms := by
  induction ms with
  | nil => rfl
  | cons m r ih =>
    show lk_c c (4, m) + (lk_c c (0, m) + lk_w (lk_c c) (lk_ends r)) = (if m = c then 1 else 0) + lk_n c r
    rw [ih, lk_c_0, lk_c_n (by decide) (by decide), Nat.zero_add]
theorem lk_c_ex (c : Nat) (lp : Nat → Bool) (mu : Nat → List Nat) (ef : Nat → Nat → Nat) (kd fi se : Nat → Nat) (b : Nat) (S : List (Nat × Nat)) :
    lk_w (lk_c c) (lk_ex lp mu ef kd fi se b S) = (if b = c then 1 else 0) + lk_w (lk_c c) (lk_way ef kd fi se b) + lk_n c (mu b) + lk_w (lk_c c) S := by
  rw [lk_w_ex, lk_sw_0 (fun m => lk_c_n (by decide) (by decide)), lk_c_n (by decide) (by decide), lk_c_n (by decide) (by decide), lk_c_5, lk_c_ends]
  split <;> omega
theorem lk_1_ends (ms : List Nat) : lk_w (fun _ => 1) (lk_ends ms) = 2 * ms.length := by
  induction ms with
  | nil => rfl
  | cons m r ih =>
    show 1 + (1 + lk_w (fun _ => 1) (lk_ends r)) = 2 * (r.length + 1)
    omega
theorem lk_1_sw (ms : List Nat) : lk_sw (fun _ => 1) ms = ms.length := by
  induction ms with
  | nil => rfl
  | cons m r ih =>
    show 1 + lk_sw (fun _ => 1) r = r.length + 1
    omega
theorem lk_1_len (L : List (Nat × Nat)) : lk_w (fun _ => 1) L = L.length := by
  induction L with
  | nil => rfl
  | cons m r ih =>
    show 1 + lk_w (fun _ => 1) r = r.length + 1
    omega
theorem lk_P_ends (ms : List Nat) : lk_w lk_P (lk_ends ms) = ms.length := by
  induction ms with
  | nil => rfl
  | cons m r ih =>
    show 0 + (1 + lk_w lk_P (lk_ends r)) = r.length + 1
    omega
theorem lk_D_ends (ms : List Nat) : lk_w lk_D (lk_ends ms) = 0 := by
  induction ms with
  | nil => rfl
  | cons m r ih =>
    show 0 + (0 + lk_w lk_D (lk_ends r)) = 0
    omega
theorem lk_way_len (ef : Nat → Nat → Nat) (kd fi se : Nat → Nat) (b : Nat) : lk_w (fun _ => 1) (lk_way ef kd fi se b) ≤ 5 := by
  rw [lk_1_len]
  unfold lk_way
  split
  · exact (by decide : (1 : Nat) ≤ 5)
  · split
    · exact (by decide : (1 : Nat) ≤ 5)
    · exact (by decide : (5 : Nat) ≤ 5)
theorem lk_D_way (ef : Nat → Nat → Nat) (hef : ∀ b c, ef b c = 0 ∨ ef b c = 9 ∨ ef b c = 10) (kd fi se : Nat → Nat) (b : Nat) : lk_w lk_D (lk_way ef kd fi se b) = 0 := by
  have e : ∀ c x, lk_D (ef b c, x) = 0 := fun c x => if_neg (fun z => by have := hef b c; have z' : ef b c = 5 := z; omega)
  unfold lk_way
  split
  · rfl
  · split
    · show lk_D (ef b (fi b), fi b) + 0 = 0
      rw [e]
    · show 0 + (lk_D (ef b (fi b), fi b) + (0 + (lk_D (ef b (se b), se b) + (0 + 0)))) = 0
      rw [e, e]
theorem lk_nm_ex (lp : Nat → Bool) (mu : Nat → List Nat) (ef : Nat → Nat → Nat) (hef : ∀ b c, ef b c = 0 ∨ ef b c = 9 ∨ ef b c = 10) (kd fi se : Nat → Nat) (b : Nat) (S : List (Nat × Nat)) :
    (lk_ex lp mu ef kd fi se b S).length ≤ 8 + 3 * (mu b).length + S.length ∧ lk_w lk_P (lk_ex lp mu ef kd fi se b S) = lk_w lk_P (lk_way ef kd fi se b) + (mu b).length + lk_w lk_P S ∧ lk_w lk_D (lk_ex lp mu ef kd fi se b S) = 1 + lk_w lk_D S := by
  refine ⟨?_, ?_, ?_⟩
  · rw [← lk_1_len, ← lk_1_len S, lk_w_ex, lk_1_sw, lk_1_ends]
    have := lk_way_len ef kd fi se b
    split <;> omega
  · rw [lk_w_ex, lk_sw_0 (fun m => rfl), lk_P_ends]
    show (if lp b = true then 0 else 0) + (if lp b = true then 0 else 0) + 0 + 0 + _ + _ + _ = _
    split <;> omega
  · rw [lk_w_ex, lk_sw_0 (fun m => rfl), lk_D_ends, lk_D_way ef hef]
    show (if lp b = true then 0 else 0) + (if lp b = true then 0 else 0) + 0 + 1 + 0 + 0 + _ = _
    split <;> omega
/-- the blocks below n, summed -/
def lk_sm (L : List (Nat × Nat)) : Nat → Nat
  | 0 => 0
  | n + 1 => lk_sm L n + lk_w (lk_c n) L
theorem lk_sm_c (i : Nat × Nat) (r : List (Nat × Nat)) (n : Nat) : lk_sm (i :: r) n = lk_sm r n + (if (i.1 = 0 ∨ i.1 = 5) ∧ i.2 < n then 1 else 0) := by
  induction n with
  | zero =>
    rw [if_neg (fun z => Nat.not_lt_zero _ z.2)]
    rfl
  | succ n ih =>
    show lk_sm (i :: r) n + (lk_c n i + lk_w (lk_c n) r) = lk_sm r n + lk_w (lk_c n) r + _
    rw [ih]
    unfold lk_c
    by_cases h : i.1 = 0 ∨ i.1 = 5
    · by_cases e : i.2 = n
      · rw [if_neg (fun z => by have := z.2; omega), if_pos ⟨h, e⟩, if_pos ⟨h, by omega⟩]
        omega
      · by_cases l : i.2 < n
        · rw [if_pos ⟨h, l⟩, if_neg (fun z => e z.2), if_pos ⟨h, by omega⟩]
          omega
        · rw [if_neg (fun z => l z.2), if_neg (fun z => e z.2), if_neg (fun z => by have := z.2; omega)]
          omega
    · rw [if_neg (fun z => h z.1), if_neg (fun z => h z.1), if_neg (fun z => h z.1)]
      omega
theorem lk_sm_8 (L : List (Nat × Nat)) (h : ∀ i, i ∈ L → (i.1 = 0 ∨ i.1 = 5) → i.2 < 8) : lk_sm L 8 = lk_w lk_P L + lk_w lk_D L := by
  induction L with
  | nil => rfl
  | cons i r ih =>
    have a := ih (fun j hj => h j (List.mem_cons_of_mem _ hj))
    have b := h i (List.mem_cons_self ..)
    rw [lk_sm_c]
    show _ = lk_P i + lk_w lk_P r + (lk_D i + lk_w lk_D r)
    rw [show lk_P i = (if i.1 = 0 then 1 else 0) from rfl, show lk_D i = (if i.1 = 5 then 1 else 0) from rfl]
    by_cases e0 : i.1 = 0
    · rw [if_pos ⟨Or.inl e0, b (Or.inl e0)⟩, if_pos e0, if_neg (by omega)]
      omega
    · by_cases e5 : i.1 = 5
      · rw [if_pos ⟨Or.inr e5, b (Or.inr e5)⟩, if_neg e0, if_pos e5]
        omega
      · rw [if_neg (fun z => by rcases z.1 with y | y; exact e0 y; exact e5 y), if_neg e0, if_neg e5]
        omega
theorem lk_c_mem {c : Nat} {L : List (Nat × Nat)} (h : 0 < lk_w (lk_c c) L) : (0, c) ∈ L ∨ (5, c) ∈ L := by
  induction L with
  | nil => exact absurd h (Nat.lt_irrefl 0)
  | cons i r ih =>
    have h' : 0 < lk_c c i + lk_w (lk_c c) r := h
    by_cases e : (i.1 = 0 ∨ i.1 = 5) ∧ i.2 = c
    · obtain ⟨e1, e2⟩ := e
      obtain ⟨f, x⟩ := i
      have e2' : x = c := e2
      subst e2'
      rcases e1 with e1 | e1
      · have e1' : f = 0 := e1
        subst e1'
        exact Or.inl (List.mem_cons_self ..)
      · have e1' : f = 5 := e1
        subst e1'
        exact Or.inr (List.mem_cons_self ..)
    · have z : lk_c c i = 0 := if_neg e
      rw [z, Nat.zero_add] at h'
      rcases ih h' with y | y
      · exact Or.inl (List.mem_cons_of_mem _ y)
      · exact Or.inr (List.mem_cons_of_mem _ y)
theorem lk_mem_c {c f : Nat} (hf : f = 0 ∨ f = 5) {L : List (Nat × Nat)} (h : (f, c) ∈ L) : 0 < lk_w (lk_c c) L := by
  induction L with
  | nil => cases h
  | cons i r ih =>
    show 0 < lk_c c i + lk_w (lk_c c) r
    rcases List.mem_cons.mp h with e | e
    · have z : lk_c c i = 1 := by
        rw [← e]
        exact if_pos ⟨hf, rfl⟩
      omega
    · have := ih e
      omega
