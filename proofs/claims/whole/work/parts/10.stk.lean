/-! the pending forms and the written code in their arrays -/
def stk (pf pb : Nat → Int32) : List (Nat × Nat) → Prop
  | [] => True
  | i :: r => pf r.length = nI i.1 ∧ pb r.length = nI i.2 ∧ stk pf pb r
theorem stk_u {pf pb : Nat → Int32} {x y : Int32} : ∀ {L : List (Nat × Nat)} {n : Nat}, L.length ≤ n → stk pf pb L → stk (upd pf n x) (upd pb n y) L := by
  intro L
  induction L with
  | nil => exact fun _ _ => trivial
  | cons i r ih =>
    intro n hn h
    have hn' : r.length + 1 ≤ n := hn
    exact ⟨(pk_un (by omega)).trans h.1, (pk_un (by omega)).trans h.2.1, ih (by omega) h.2.2⟩
theorem stk_c {pf pb : Nat → Int32} {f x : Nat} {L : List (Nat × Nat)} (h : stk pf pb L) : stk (upd pf L.length (nI f)) (upd pb L.length (nI x)) ((f, x) :: L) := ⟨pk_us, pk_us, stk_u (Nat.le_refl _) h⟩
def cod (cf cb : Nat → Int32) (A : List (Nat × Nat)) : Prop := ∀ i f x, A[i]? = some (f, x) → cf i = nI f ∧ cb i = nI x
theorem la_l {α : Type} {A : List α} {j : α} {i : Nat} {y : α} (h : A[i]? = some y) : (A ++ [j])[i]? = some y := by
  have hi : i < A.length := (List.getElem?_eq_some_iff.mp h).1
  rw [List.getElem?_append_left hi]
  exact h
theorem la_n {α : Type} (A : List α) (j : α) : (A ++ [j])[A.length]? = some j := by
  rw [List.getElem?_append_right (Nat.le_refl _), Nat.sub_self]
  rfl
theorem la_c {α : Type} {A : List α} {j y : α} {i : Nat} (h : (A ++ [j])[i]? = some y) : A[i]? = some y ∨ (i = A.length ∧ y = j) := by
  rcases Nat.lt_trichotomy i A.length with l | l | l
  · rw [List.getElem?_append_left l] at h
    exact Or.inl h
  · subst l
    rw [la_n] at h
    injection h with h
    exact Or.inr ⟨rfl, h.symm⟩
  · rw [List.getElem?_eq_none (by rw [List.length_append]; show A.length + 1 ≤ i; omega)] at h
    cases h
theorem cod_a {cf cb : Nat → Int32} {A : List (Nat × Nat)} (f x : Nat) (h : cod cf cb A) : cod (upd cf A.length (nI f)) (upd cb A.length (nI x)) (A ++ [(f, x)]) := by
  intro i f' x' e
  rcases la_c e with e | ⟨e1, e2⟩
  · have hi : i < A.length := (List.getElem?_eq_some_iff.mp e).1
    rw [pk_un (by omega), pk_un (by omega)]
    exact h i f' x' e
  · subst e1
    injection e2 with e3 e4
    rw [pk_us, pk_us, e3, e4]
    exact ⟨rfl, rfl⟩
/-- where a form of a kind stands, by its block -/
def plc (k : Nat) (pl : Nat → Int32) (A : List (Nat × Nat)) : Prop := ∀ b, (k, b) ∈ A → ∃ j, A[j]? = some (k, b) ∧ pl b = nI j
theorem plc_o {k f x : Nat} {pl : Nat → Int32} {A : List (Nat × Nat)} (hf : f ≠ k) (h : plc k pl A) : plc k pl (A ++ [(f, x)]) := by
  intro b hb
  rcases List.mem_append.mp hb with hb | hb
  · obtain ⟨j, h1, h2⟩ := h b hb
    exact ⟨j, la_l h1, h2⟩
  · rcases List.mem_cons.mp hb with e | e
    · injection e with e1 _
      exact absurd e1.symm hf
    · cases e
theorem plc_s {k x : Nat} {pl : Nat → Int32} {A : List (Nat × Nat)} (h : plc k pl A) : plc k (upd pl x (nI A.length)) (A ++ [(k, x)]) := by
  intro b hb
  by_cases e : b = x
  · subst e
    exact ⟨A.length, la_n A _, pk_us⟩
  · rcases List.mem_append.mp hb with hb | hb
    · obtain ⟨j, h1, h2⟩ := h b hb
      exact ⟨j, la_l h1, (pk_un e).trans h2⟩
    · rcases List.mem_cons.mp hb with y | y
      · injection y with _ y2
        exact absurd y2 e
      · cases y
/-- the places behind p -/
theorem dr_c {A : List (Nat × Nat)} {p : Nat} {i : Nat × Nat} {r : List (Nat × Nat)} (h : A.drop p = i :: r) : A[p]? = some i ∧ A.drop (p + 1) = r ∧ p < A.length := by
  have hp : p < A.length := by
    rcases Nat.lt_or_ge p A.length with l | l
    · exact l
    · rw [List.drop_eq_nil_of_le l] at h
      cases h
  rw [List.drop_eq_getElem_cons hp] at h
  injection h with h1 h2
  exact ⟨by rw [List.getElem?_eq_getElem hp, h1], h2, hp⟩
theorem dr_g {A : List (Nat × Nat)} {p : Nat} {i : Nat × Nat} (h : A[p]? = some i) : A.drop p = i :: A.drop (p + 1) := by
  obtain ⟨hp, e⟩ := List.getElem?_eq_some_iff.mp h
  rw [List.drop_eq_getElem_cons hp, e]
theorem lk_ok_d {ef : Nat → Nat → Nat} {kd fi se : Nat → Nat} {A : List (Nat × Nat)} (h : lk_ok ef kd fi se A) (p : Nat) : lk_ok ef kd fi se (A.drop p) := by
  induction p with
  | zero => exact h
  | succ p ih =>
    cases e : A.drop p with
    | nil =>
      have l : A.length ≤ p := List.drop_eq_nil_iff.mp e
      rw [List.drop_eq_nil_of_le (by omega)]
      trivial
    | cons i r =>
      rw [e] at ih
      rw [(dr_c e).2.1]
      exact ih.2.2.2.2
theorem lk_ok_g {ef : Nat → Nat → Nat} {kd fi se : Nat → Nat} {A : List (Nat × Nat)} (h : lk_ok ef kd fi se A) {p f x : Nat} (e : A[p]? = some (f, x)) :
    (f = 1 → lk_nd x (A.drop (p + 1))) ∧ (f = 4 → lk_nd x (A.drop (p + 1))) ∧ (f = 5 → lk_wy ef kd fi se x (A.drop (p + 1))) ∧ (f = 7 → lk_ed ef x (se x) (A.drop (p + 1))) := by
  have a := lk_ok_d h p
  rw [dr_g e] at a
  exact ⟨a.1, a.2.1, a.2.2.1, a.2.2.2.1⟩
/-! the order: what is pushed of it -/
theorem lk_scs_a (m : Nat) : ∀ (ms : List Nat) (L : List (Nat × Nat)), lk_scs (ms ++ [m]) L = (3, m) :: lk_scs ms L := by
  intro ms
  induction ms with
  | nil => exact fun L => rfl
  | cons x r ih => exact fun L => ih ((3, x) :: L)
theorem lk_scs_l : ∀ (ms : List Nat) (L : List (Nat × Nat)), (lk_scs ms L).length = ms.length + L.length := by
  intro ms
  induction ms with
  | nil => exact fun L => (Nat.zero_add _).symm
  | cons x r ih =>
    intro L
    show (lk_scs r ((3, x) :: L)).length = r.length + 1 + L.length
    rw [ih]
    show r.length + (L.length + 1) = _
    omega
theorem lk_ends_l (ms : List Nat) : (lk_ends ms).length = 2 * ms.length := by rw [← lk_1_len, lk_1_ends]
theorem lk_n_len {l : List Nat} (h : ∀ c, lk_n c l ≤ 1) (h8 : ∀ c, c ∈ l → c < 8) : l.length ≤ 8 := by
  have a : ∀ l : List Nat, (∀ c, c ∈ l → c < 8) → lk_sm (l.map (fun c => (5, c))) 8 = l.length := by
    intro l hl
    rw [lk_sm_8]
    · induction l with
      | nil => rfl
      | cons m r ih =>
        have := ih (fun c hc => hl c (List.mem_cons_of_mem _ hc))
        show 0 + lk_w lk_P (r.map (fun c => (5, c))) + (1 + lk_w lk_D (r.map (fun c => (5, c)))) = r.length + 1
        omega
    · intro i hi _
      obtain ⟨c, hc, e⟩ := List.mem_map.mp hi
      rw [← e]
      exact hl c hc
  have b : ∀ c (l : List Nat), lk_w (lk_c c) (l.map (fun c => (5, c))) = lk_n c l := by
    intro c l
    induction l with
    | nil => rfl
    | cons m r ih =>
      show lk_c c (5, m) + lk_w (lk_c c) (r.map (fun c => (5, c))) = (if m = c then 1 else 0) + lk_n c r
      rw [ih, lk_c_5]
  have s : ∀ n, lk_sm (l.map (fun c => (5, c))) n ≤ n := by
    intro n
    induction n with
    | zero => exact Nat.le_refl 0
    | succ n ih =>
      show lk_sm (l.map (fun c => (5, c))) n + lk_w (lk_c n) (l.map (fun c => (5, c))) ≤ n + 1
      rw [b]
      have := h n
      omega
  have := s 8
  rw [a l h8] at this
  exact this
