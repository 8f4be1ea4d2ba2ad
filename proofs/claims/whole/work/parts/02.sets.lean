/-! counting below a bound -/
def rs_cn (f : Nat → Bool) : Nat → Nat
  | 0 => 0
  | n + 1 => rs_cn f n + (if f n = true then 1 else 0)
theorem rs_cn_le (f : Nat → Bool) (n : Nat) : rs_cn f n ≤ n := by
  induction n with
  | zero => exact Nat.le_refl 0
  | succ n ih =>
    simp only [rs_cn]
    split <;> omega
theorem rs_cn_mono {f g : Nat → Bool} {n : Nat} (h : ∀ i, i < n → f i = true → g i = true) : rs_cn f n ≤ rs_cn g n := by
  induction n with
  | zero => exact Nat.le_refl 0
  | succ n ih =>
    have a := ih (fun i hi => h i (by omega))
    have b := h n (by omega)
    simp only [rs_cn]
    by_cases hf : f n = true
    · rw [if_pos hf, if_pos (b hf)]
      omega
    · rw [if_neg hf]
      split <;> omega
theorem rs_cn_lt {f g : Nat → Bool} {n : Nat} (h : ∀ i, i < n → f i = true → g i = true) (k : Nat) (hk : k < n) (hf : f k = false) (hg : g k = true) : rs_cn f n < rs_cn g n := by
  induction n with
  | zero => omega
  | succ n ih =>
    simp only [rs_cn]
    by_cases e : k = n
    · subst e
      have a : rs_cn f k ≤ rs_cn g k := rs_cn_mono (fun i hi => h i (by omega))
      have nf : ¬ f k = true := by rw [hf]; decide
      rw [if_neg nf, if_pos hg]
      omega
    · have a := ih (fun i hi => h i (by omega)) (by omega)
      have b := h n (by omega)
      by_cases hf : f n = true
      · rw [if_pos hf, if_pos (b hf)]
        omega
      · rw [if_neg hf]
        split <;> omega
theorem rs_cn_full {f : Nat → Bool} {n : Nat} (h : n ≤ rs_cn f n) : ∀ i, i < n → f i = true := by
  induction n with
  | zero =>
    intro i hi
    omega
  | succ n ih =>
    intro i hi
    have a := rs_cn_le f n
    simp only [rs_cn] at h
    by_cases hf : f n = true
    · rw [if_pos hf] at h
      by_cases e : i = n
      · rw [e]
        exact hf
      · exact ih (by omega) i (by omega)
    · rw [if_neg hf] at h
      omega
theorem rs_cn_0 {f : Nat → Bool} {n : Nat} (h : rs_cn f n = 0) : ∀ i, i < n → f i = false := by
  intro i hi
  cases e : f i with
  | false => rfl
  | true =>
    have a : rs_cn (fun _ => false) n < rs_cn f n := rs_cn_lt (fun j _ z => by cases z) i hi rfl e
    omega
/-! sets of blocks as masks -/
def rs_lo (s : Int32) : Prop := ∀ i, 8 ≤ i → bt s i = false
def rs_sub (s t : Int32) : Prop := ∀ i, bt s i = true → bt t i = true
theorem rs_eq {s t : Int32} (h : rs_sub s t) (h' : rs_sub t s) : s = t := by
  apply b_ext
  intro i _
  cases hs : bt s i with
  | false =>
    cases ht : bt t i with
    | false => rfl
    | true =>
      have b := h' i ht
      rw [hs] at b
      exact b
  | true => exact (h i hs).symm
theorem rs_lt8 {s : Int32} (h : rs_lo s) {i : Nat} (hi : bt s i = true) : i < 8 := by
  rcases Nat.lt_or_ge i 8 with l | l
  · exact l
  · rw [h i l] at hi
    cases hi
def rs_it (g : Int32 → Int32) (s : Int32) : Nat → Int32
  | 0 => s
  | k + 1 => g (rs_it g s k)
theorem rs_fix (g : Int32 → Int32) (s : Int32) (hs : rs_lo s) (hl : ∀ s, rs_lo s → rs_lo (g s)) (hi : ∀ s, rs_sub s (g s)) :
    rs_lo (rs_it g s 8) ∧ g (rs_it g s 8) = rs_it g s 8 := by
  have key : ∀ k, rs_lo (rs_it g s k) ∧ (g (rs_it g s k) = rs_it g s k ∨ k ≤ rs_cn (bt (rs_it g s k)) 8) := by
    intro k
    induction k with
    | zero => exact ⟨hs, Or.inr (Nat.zero_le _)⟩
    | succ k ih =>
      obtain ⟨l, o⟩ := ih
      refine ⟨hl _ l, ?_⟩
      show g (g (rs_it g s k)) = g (rs_it g s k) ∨ k + 1 ≤ rs_cn (bt (g (rs_it g s k))) 8
      generalize rs_it g s k = x at l o
      by_cases e : g x = x
      · left
        rw [e]
        exact e
      · right
        rcases o with o | o
        · exact absurd o e
        · by_cases w : ∃ i, i < 8 ∧ bt x i = false ∧ bt (g x) i = true
          · obtain ⟨i, h8, a, b⟩ := w
            have c : rs_cn (bt x) 8 < rs_cn (bt (g x)) 8 := rs_cn_lt (fun j _ z => hi x j z) i h8 a b
            omega
          · exfalso
            apply e
            apply rs_eq
            · intro i z
              have h8 := rs_lt8 (hl x l) z
              cases f : bt x i with
              | true => rfl
              | false => exact absurd ⟨i, h8, f, z⟩ w
            · exact hi x
  obtain ⟨l, o⟩ := key 8
  refine ⟨l, ?_⟩
  rcases o with o | o
  · exact o
  · generalize rs_it g s 8 = x at l o
    apply rs_eq
    · intro i z
      exact rs_cn_full o i (rs_lt8 (hl x l) z)
    · exact hi x
