section
theorem pk_us {f : Nat → Int32} {k : Nat} {x : Int32} : upd f k x k = x := if_pos rfl
theorem pk_un {f : Nat → Int32} {k j : Nat} {x : Int32} (h : j ≠ k) : upd f k x j = f j := if_neg h
theorem pk_sub {a b : Nat} (h : b ≤ a) : nI a - nI b = nI (a - b) := by
  obtain ⟨c, rfl⟩ : ∃ c, a = c + b := ⟨a - b, by omega⟩
  rw [← nI_add, Int32.add_sub_cancel, Nat.add_sub_cancel]
theorem pk_m1 (n : Nat) : nI (n + 1) + (-1) = nI n := by
  rw [← nI_1, Int32.add_assoc, show (1 : Int32) + (-1) = 0 from rfl, Int32.add_zero]
theorem pk_ix (x : Int32) {n : Nat} (hn : n < 2 ^ 31) : x < 0 ∨ nI n ≤ x ∨ ∃ j : Nat, j < n ∧ x = nI j := by
  by_cases h : x < 0
  · exact Or.inl h
  · obtain ⟨j, hj, rfl⟩ := nI_of h
    by_cases h2 : j < n
    · exact Or.inr (Or.inr ⟨j, h2, rfl⟩)
    · exact Or.inr (Or.inl (nI_le (by omega) hj))
theorem pk_le {x y : Int32} {A B : Prop} (a b : Nat) (f : a ≤ b → A) (g : b < a → B) (hx : x = nI a := by rfl) (hy : y = nI b := by rfl) (ha : a < 2 ^ 31 := by omega) (hb : b < 2 ^ 31 := by omega) : (x ≤ y → A) ∧ (¬ x ≤ y → B) := by
  subst hx hy
  rw [nI_leI ha hb]
  exact ⟨f, fun z => g (by omega)⟩
theorem pk_lt {x y : Int32} {A B : Prop} (a b : Nat) (f : a < b → A) (g : b ≤ a → B) (hx : x = nI a := by rfl) (hy : y = nI b := by rfl) (ha : a < 2 ^ 31 := by omega) (hb : b < 2 ^ 31 := by omega) : (x < y → A) ∧ (¬ x < y → B) := by
  subst hx hy
  rw [nI_ltI ha hb]
  exact ⟨f, fun z => g (by omega)⟩
theorem pk_eq {x y : Int32} {A B : Prop} (a b : Nat) (f : a = b → A) (g : a ≠ b → B) (hx : x = nI a := by rfl) (hy : y = nI b := by rfl) (ha : a < 2 ^ 31 := by omega) (hb : b < 2 ^ 31 := by omega) : (x = y → A) ∧ (¬ x = y → B) := by
  subst hx hy
  rw [nI_eq ha hb]
  exact ⟨f, g⟩
theorem pk_in {x : Int32} (n N : Nat) (h : n < N) (hx : x = nI n := by rfl) (hN : N < 2 ^ 31 := by omega) : vp_in x N := by
  subst hx
  exact vp_in_nI h hN
theorem pk_cl {x : Int32} (n : Nat) (hx : x = nI n := by rfl) (h : n < 2 ^ 31 := by omega) : x.toNatClampNeg = n := by
  subst hx
  exact nI_clamp h
theorem pk_loop {σ : Type} (W : Nat → Nat → σ → Prop) (I : Nat → σ → Prop) (e i0 : Nat) (s : σ) (hi : i0 ≤ e) (h0 : I i0 s) (hx : ∀ n s, I e s → W (n + 1) e s)
    (hs : ∀ n i s, i < e → I i s → (∀ s', I (i + 1) s' → W n (i + 1) s') → W (n + 1) i s) : ∃ n, W n i0 s :=
  ⟨e + 1, loop_i W I e hx hs (e + 1) i0 s hi (by omega) h0⟩
theorem pk_loopD {σ : Type} (W : Nat → Nat → σ → Prop) (I : Nat → σ → Prop) (hx : ∀ n s, I 0 s → W (n + 1) 0 s)
    (hs : ∀ n i s, I (i + 1) s → (∀ s', I i s' → W n i s') → W (n + 1) (i + 1) s) : ∀ (e : Nat) (s : σ), I e s → W (e + 1) e s := by
  intro e
  induction e with
  | zero => exact fun s h => hx 0 s h
  | succ e ih => exact fun s h => hs (e + 1) e s h (fun s' h' => ih s' h')
theorem ek_if {c d A B : Prop} (e : c ↔ d) (f : d → A) (g : ¬ d → B) : (c → A) ∧ (¬ c → B) :=
  ⟨fun z => f (e.mp z), fun z => g (fun y => z (e.mpr y))⟩
theorem ek_v {α : Sort _} {P : α → Prop} {a b : α} (e : a = b) (h : P b) : P a := e ▸ h
def bt (x : Int32) (i : Nat) : Bool := x.toBitVec.getLsbD i
theorem b_ext {x y : Int32} (h : ∀ i, i < 32 → bt x i = bt y i) : x = y := Int32.toBitVec_inj.mp (BitVec.eq_of_getLsbD_eq (fun i hi => h i hi))
theorem b_or (x y : Int32) (i : Nat) : bt (x ||| y) i = (bt x i || bt y i) := by unfold bt; rw [Int32.toBitVec_or, BitVec.getLsbD_or]
theorem b_and (x y : Int32) (i : Nat) : bt (x &&& y) i = (bt x i && bt y i) := by unfold bt; rw [Int32.toBitVec_and, BitVec.getLsbD_and]
theorem b_xor (x y : Int32) (i : Nat) : bt (x ^^^ y) i = (bt x i ^^ bt y i) := by unfold bt; rw [Int32.toBitVec_xor, BitVec.getLsbD_xor]
theorem b_big {x : Int32} {i : Nat} (h : 32 ≤ i) : bt x i = false := BitVec.getLsbD_of_ge _ _ h
theorem b_m1 : ∀ i, i < 32 → bt (-1) i = true := by decide +kernel
theorem b_0 (i : Nat) : bt 0 i = false := BitVec.getLsbD_zero
theorem s_l : ∀ n, n < 32 → ((nI n &&& 31).toBitVec.smod 32).toNat = n := by decide +kernel
theorem b_shl (n : Nat) (hn : n < 32) (x : Int32) {i : Nat} (hi : i < 32) : bt (x <<< (nI n &&& 31)) i = (decide (n ≤ i) && bt x (i - n)) := by
  unfold bt
  rw [Int32.toBitVec_shiftLeft]
  show (x.toBitVec <<< ((nI n &&& 31).toBitVec.smod 32).toNat).getLsbD i = _
  rw [s_l n hn, BitVec.getLsbD_shiftLeft]
  rcases Nat.lt_or_ge i n with h | h
  · simp [h, Nat.not_le.mpr h]
  · simp [hi, h, Nat.not_lt.mpr h]
theorem b_sshr (n : Nat) (hn : n < 32) (x : Int32) {i : Nat} (hi : i < 32) : bt (x >>> (nI n &&& 31)) i = if n + i < 32 then bt x (n + i) else bt x 31 := by
  unfold bt
  rw [Int32.toBitVec_shiftRight]
  show (x.toBitVec.sshiftRight ((nI n &&& 31).toBitVec.smod 32).toNat).getLsbD i = _
  rw [s_l n hn, BitVec.getLsbD_sshiftRight, BitVec.msb_eq_getLsbD_last]
  simp [hi]
theorem b_1 (i : Nat) : bt 1 i = decide (i = 0) := by
  rcases Nat.lt_or_ge i 32 with h | h
  · exact (by decide +kernel : ∀ i, i < 32 → bt 1 i = decide (i = 0)) i h
  · rw [b_big h, decide_eq_false (by omega)]
theorem rb_an (a m : Int32) (i : Nat) : bt (a &&& (m ^^^ (-1))) i = (bt a i && !bt m i) := by
  rcases Nat.lt_or_ge i 32 with h | h
  · rw [b_and, b_xor, b_m1 i h]
    cases bt m i <;> rfl
  · rw [b_big h, b_big h]
    rfl
/-- the mask of one block -/
def rb_p (h : Nat) : Int32 := (1 : Int32) <<< (nI h &&& 31)
theorem rb_pb {j : Nat} (hj : j < 32) (i : Nat) : bt (rb_p j) i = decide (i = j) := by
  rcases Nat.lt_or_ge i 32 with h | h
  · unfold rb_p
    rw [b_shl j hj 1 h, b_1]
    by_cases e : i = j
    · subst e
      simp
    · by_cases l : j ≤ i
      · rw [decide_eq_false (by omega : ¬ i - j = 0), decide_eq_false e, Bool.and_false]
      · rw [decide_eq_false l, decide_eq_false e, Bool.false_and]
  · rw [b_big h, decide_eq_false (by omega)]
theorem rb_ha1 (s : Int32) {j : Nat} (hj : j < 32) (i : Nat) : bt ((s >>> (nI j &&& 31)) &&& 1) i = (decide (i = 0) && bt s j) := by
  rw [b_and, b_1]
  by_cases e : i = 0
  · subst e
    rw [b_sshr j hj s (by omega), if_pos (by omega), Bool.and_comm]
    rfl
  · rw [decide_eq_false e, Bool.and_false, Bool.false_and]
theorem rb_has (s : Int32) {j : Nat} (hj : j < 32) : ((s >>> (nI j &&& 31)) &&& 1) = 1 ↔ bt s j = true := by
  constructor
  · intro h
    have a := rb_ha1 s hj 0
    rw [h, b_1] at a
    simpa using a.symm
  · intro h
    apply b_ext
    intro i _
    rw [rb_ha1 s hj i, b_1, h, Bool.and_true]
theorem rb_hz (s : Int32) {j : Nat} (hj : j < 32) : ((s >>> (nI j &&& 31)) &&& 1) = 0 ↔ bt s j = false := by
  constructor
  · intro h
    have a := rb_ha1 s hj 0
    rw [h, b_0] at a
    simpa using a.symm
  · intro h
    apply b_ext
    intro i _
    rw [rb_ha1 s hj i, b_0, h, Bool.and_false]
theorem rb_tf {x : Bool} (h : ¬ x = true) : x = false := by
  cases x
  · rfl
  · exact absurd rfl h
theorem rb_no {x : Bool} (h : x = false) (h' : x = true) : False := by
  rw [h] at h'
  cases h'
end
section
/-! counting below a bound -/
def rs_cn (f : Nat → Bool) : Nat → Nat
  | 0 => 0
  | n + 1 => rs_cn f n + (if f n = true then 1 else 0)
theorem rs_cn_le (f : Nat → Bool) (n : Nat) : rs_cn f n ≤ n := by
  induction n with
  | zero => exact Nat.le_refl 0
  | succ n ih =>
    simp only [rs_cn]
    split <;> omega
theorem rs_cn_mono {f g : Nat → Bool} {n : Nat} (h : ∀ i, i < n → f i = true → g i = true) : rs_cn f n ≤ rs_cn g n := by
  induction n with
  | zero => exact Nat.le_refl 0
  | succ n ih =>
    have a := ih (fun i hi => h i (by omega))
    have b := h n (by omega)
    simp only [rs_cn]
    by_cases hf : f n = true
    · rw [if_pos hf, if_pos (b hf)]
      omega
    · rw [if_neg hf]
      split <;> omega
theorem rs_cn_lt {f g : Nat → Bool} {n : Nat} (h : ∀ i, i < n → f i = true → g i = true) (k : Nat) (hk : k < n) (hf : f k = false) (hg : g k = true) : rs_cn f n < rs_cn g n := by
  induction n with
  | zero => omega
  | succ n ih =>
    simp only [rs_cn]
    by_cases e : k = n
    · subst e
      have a : rs_cn f k ≤ rs_cn g k := rs_cn_mono (fun i hi => h i (by omega))
      have nf : ¬ f k = true := by rw [hf]; decide
      rw [if_neg nf, if_pos hg]
      omega
    · have a := ih (fun i hi => h i (by omega)) (by omega)
      have b := h n (by omega)
      by_cases hf : f n = true
      · rw [if_pos hf, if_pos (b hf)]
        omega
      · rw [if_neg hf]
        split <;> omega
theorem rs_cn_full {f : Nat → Bool} {n : Nat} (h : n ≤ rs_cn f n) : ∀ i, i < n → f i = true := by
  induction n with
  | zero =>
    intro i hi
    omega
  | succ n ih =>
    intro i hi
    have a := rs_cn_le f n
    simp only [rs_cn] at h
    by_cases hf : f n = true
    · rw [if_pos hf] at h
      by_cases e : i = n
      · rw [e]
        exact hf
      · exact ih (by omega) i (by omega)
    · rw [if_neg hf] at h
      omega
theorem rs_cn_0 {f : Nat → Bool} {n : Nat} (h : rs_cn f n = 0) : ∀ i, i < n → f i = false := by
  intro i hi
  cases e : f i with
  | false => rfl
  | true =>
    have a : rs_cn (fun _ => false) n < rs_cn f n := rs_cn_lt (fun j _ z => by cases z) i hi rfl e
    omega
/-! sets of blocks as masks -/
def rs_lo (s : Int32) : Prop := ∀ i, 8 ≤ i → bt s i = false
def rs_sub (s t : Int32) : Prop := ∀ i, bt s i = true → bt t i = true
theorem rs_eq {s t : Int32} (h : rs_sub s t) (h' : rs_sub t s) : s = t := by
  apply b_ext
  intro i _
  cases hs : bt s i with
  | false =>
    cases ht : bt t i with
    | false => rfl
    | true =>
      have b := h' i ht
      rw [hs] at b
      exact b
  | true => exact (h i hs).symm
theorem rs_lt8 {s : Int32} (h : rs_lo s) {i : Nat} (hi : bt s i = true) : i < 8 := by
  rcases Nat.lt_or_ge i 8 with l | l
  · exact l
  · rw [h i l] at hi
    cases hi
def rs_it (g : Int32 → Int32) (s : Int32) : Nat → Int32
  | 0 => s
  | k + 1 => g (rs_it g s k)
theorem rs_fix (g : Int32 → Int32) (s : Int32) (hs : rs_lo s) (hl : ∀ s, rs_lo s → rs_lo (g s)) (hi : ∀ s, rs_sub s (g s)) :
    rs_lo (rs_it g s 8) ∧ g (rs_it g s 8) = rs_it g s 8 := by
  have key : ∀ k, rs_lo (rs_it g s k) ∧ (g (rs_it g s k) = rs_it g s k ∨ k ≤ rs_cn (bt (rs_it g s k)) 8) := by
    intro k
    induction k with
    | zero => exact ⟨hs, Or.inr (Nat.zero_le _)⟩
    | succ k ih =>
      obtain ⟨l, o⟩ := ih
      refine ⟨hl _ l, ?_⟩
      show g (g (rs_it g s k)) = g (rs_it g s k) ∨ k + 1 ≤ rs_cn (bt (g (rs_it g s k))) 8
      generalize rs_it g s k = x at l o
      by_cases e : g x = x
      · left
        rw [e]
        exact e
      · right
        rcases o with o | o
        · exact absurd o e
        · by_cases w : ∃ i, i < 8 ∧ bt x i = false ∧ bt (g x) i = true
          · obtain ⟨i, h8, a, b⟩ := w
            have c : rs_cn (bt x) 8 < rs_cn (bt (g x)) 8 := rs_cn_lt (fun j _ z => hi x j z) i h8 a b
            omega
          · exfalso
            apply e
            apply rs_eq
            · intro i z
              have h8 := rs_lt8 (hl x l) z
              cases f : bt x i with
              | true => rfl
              | false => exact absurd ⟨i, h8, f, z⟩ w
            · exact hi x
  obtain ⟨l, o⟩ := key 8
  refine ⟨l, ?_⟩
  rcases o with o | o
  · exact o
  · generalize rs_it g s 8 = x at l o
    apply rs_eq
    · intro i z
      exact rs_cn_full o i (rs_lt8 (hl x l) z)
    · exact hi x
end
section
/-! reachability: the passes that both sides make, and the least set -/
def rc_st (T : Nat → Int32) (m s : Int32) (b : Nat) : Int32 := if bt s b = true then s ||| (T b &&& (m ^^^ (-1))) else s
def rc_ps (T : Nat → Int32) (m s : Int32) : Nat → Int32
  | 0 => s
  | n + 1 => rc_st T m (rc_ps T m s n) n
def rc_s0 (m : Int32) : Int32 := 1 &&& (m ^^^ (-1))
def rc (T : Nat → Int32) (m : Int32) : Int32 := rs_it (fun s => rc_ps T m s 8) (rc_s0 m) 8
def rt_lo (T : Nat → Int32) : Prop := ∀ b, b < 8 → rs_lo (T b)
theorem rc_st_sub (T : Nat → Int32) (m s : Int32) (b : Nat) : rs_sub s (rc_st T m s b) := by
  intro i h
  unfold rc_st
  split
  · rw [b_or, h, Bool.true_or]
  · exact h
theorem rc_st_in {T : Nat → Int32} {m s : Int32} {b i : Nat} (h : bt (rc_st T m s b) i = true) : bt s i = true ∨ (bt s b = true ∧ bt (T b) i = true ∧ bt m i = false) := by
  unfold rc_st at h
  split at h
  · rename_i hb
    rw [b_or, rb_an] at h
    cases e : bt s i with
    | true => exact Or.inl rfl
    | false =>
      right
      rw [e, Bool.false_or] at h
      cases e1 : bt (T b) i with
      | false => rw [e1] at h; cases h
      | true =>
        cases e2 : bt m i with
        | true => rw [e1, e2] at h; cases h
        | false => exact ⟨hb, rfl, rfl⟩
  · exact Or.inl h
theorem rc_st_to {T : Nat → Int32} {m s : Int32} {b i : Nat} (hb : bt s b = true) (h1 : bt (T b) i = true) (h2 : bt m i = false) : bt (rc_st T m s b) i = true := by
  unfold rc_st
  rw [if_pos hb, b_or, rb_an, h1, h2]
  exact Bool.or_true _
theorem rc_ps_up (T : Nat → Int32) (m s : Int32) (n d : Nat) : rs_sub (rc_ps T m s n) (rc_ps T m s (n + d)) := by
  induction d with
  | zero => exact fun _ h => h
  | succ d ih => exact fun i h => rc_st_sub T m (rc_ps T m s (n + d)) (n + d) i (ih i h)
theorem rc_ps_lo {T : Nat → Int32} (hT : rt_lo T) {m s : Int32} (hs : rs_lo s) : ∀ n, n ≤ 8 → rs_lo (rc_ps T m s n) := by
  intro n
  induction n with
  | zero => exact fun _ => hs
  | succ n ih =>
    intro h i hi
    cases e : bt (rc_ps T m s (n + 1)) i with
    | false => rfl
    | true =>
      rcases rc_st_in (T := T) (m := m) (s := rc_ps T m s n) (b := n) e with z | z
      · rw [ih (by omega) i hi] at z
        cases z
      · rw [hT n (by omega) i hi] at z
        cases z.2.1
theorem rc_s0_b (m : Int32) (i : Nat) : bt (rc_s0 m) i = (decide (i = 0) && !bt m i) := by
  unfold rc_s0
  rw [rb_an, b_1]
theorem rc_s0_lo (m : Int32) : rs_lo (rc_s0 m) := by
  intro i hi
  rw [rc_s0_b, decide_eq_false (by omega)]
  rfl
theorem rc_cl {T : Nat → Int32} (hT : rt_lo T) (m : Int32) : rs_lo (rc T m) ∧ rc_ps T m (rc T m) 8 = rc T m :=
  rs_fix (fun s => rc_ps T m s 8) (rc_s0 m) (rc_s0_lo m) (fun s hs => rc_ps_lo hT hs 8 (by omega)) (fun s i h => by
    have a := rc_ps_up T m s 0 8 i h
    exact a)
/-- the least set: x can be come to from 0 with no block of A -/
def rr (T : Nat → Int32) (A : Nat → Prop) (x : Nat) : Prop :=
  ∀ S : Nat → Prop, (¬ A 0 → S 0) → (∀ u v, u < 8 → S u → bt (T u) v = true → ¬ A v → S v) → S x
theorem rr_0 {T : Nat → Int32} {A : Nat → Prop} (h : ¬ A 0) : rr T A 0 := fun _ h0 _ => h0 h
theorem rr_s {T : Nat → Int32} {A : Nat → Prop} {u v : Nat} (hu : u < 8) (h : rr T A u) (e : bt (T u) v = true) (ha : ¬ A v) : rr T A v :=
  fun S h0 hs => hs u v hu (h S h0 hs) e ha
theorem rr_lt {T : Nat → Int32} (hT : rt_lo T) {A : Nat → Prop} {x : Nat} (h : rr T A x) : x < 8 :=
  h (fun x => x < 8) (fun _ => by omega) (fun u v hu _ e _ => rs_lt8 (hT u hu) e)
theorem rr_na {T : Nat → Int32} {A : Nat → Prop} {x : Nat} (h : rr T A x) : ¬ A x :=
  h (fun x => ¬ A x) (fun z => z) (fun _ _ _ _ _ z => z)
theorem rr_mono {T : Nat → Int32} {A B : Nat → Prop} (hAB : ∀ x, A x → B x) {x : Nat} (h : rr T B x) : rr T A x :=
  h (rr T A) (fun z => rr_0 (fun y => z (hAB 0 y))) (fun u v hu s e z => rr_s hu s e (fun y => z (hAB v y)))
theorem rc_sound {T : Nat → Int32} {m : Int32} {S : Nat → Prop} (h0 : bt m 0 = false → S 0) (hs : ∀ u v, u < 8 → S u → bt (T u) v = true → bt m v = false → S v) {x : Nat} (h : bt (rc T m) x = true) : S x := by
  have ps : ∀ s, (∀ i, bt s i = true → S i) → ∀ n, n ≤ 8 → ∀ i, bt (rc_ps T m s n) i = true → S i := by
    intro s a n
    induction n with
    | zero => exact fun _ => a
    | succ n ih =>
      intro hn i z
      rcases rc_st_in (T := T) (m := m) (s := rc_ps T m s n) (b := n) z with y | ⟨y1, y2, y3⟩
      · exact ih (by omega) i y
      · exact hs n i (by omega) (ih (by omega) n y1) y2 y3
  have it : ∀ k, ∀ i, bt (rs_it (fun s => rc_ps T m s 8) (rc_s0 m) k) i = true → S i := by
    intro k
    induction k with
    | zero =>
      intro i z
      have z' : bt (rc_s0 m) i = true := z
      rw [rc_s0_b] at z'
      by_cases e : i = 0
      · subst e
        apply h0
        cases y : bt m 0 with
        | false => rfl
        | true => rw [y] at z'; cases z'
      · rw [decide_eq_false e] at z'
        cases z'
    | succ k ih => exact fun i z => ps _ ih 8 (by omega) i z
  exact it 8 x h
theorem rc_up0 {T : Nat → Int32} (m : Int32) : rs_sub (rc_s0 m) (rc T m) := by
  have it : ∀ k, rs_sub (rc_s0 m) (rs_it (fun s => rc_ps T m s 8) (rc_s0 m) k) := by
    intro k
    induction k with
    | zero => exact fun _ h => h
    | succ k ih => exact fun i h => rc_ps_up T m _ 0 8 i (ih i h)
  exact it 8
theorem rc_step {T : Nat → Int32} (hT : rt_lo T) {m : Int32} {u v : Nat} (hu : u < 8) (h : bt (rc T m) u = true) (e : bt (T u) v = true) (hm : bt m v = false) : bt (rc T m) v = true := by
  have a := (rc_cl hT m).2
  have b : bt (rc_ps T m (rc T m) u) u = true := by
    have c := rc_ps_up T m (rc T m) 0 u u h
    rw [Nat.zero_add] at c
    exact c
  have c : bt (rc_ps T m (rc T m) (u + 1)) v = true := rc_st_to b e hm
  have d := rc_ps_up T m (rc T m) (u + 1) (8 - (u + 1)) v c
  rw [show u + 1 + (8 - (u + 1)) = 8 by omega, a] at d
  exact d
theorem rc_iff {T : Nat → Int32} (hT : rt_lo T) (m : Int32) (x : Nat) : bt (rc T m) x = true ↔ rr T (fun i => bt m i = true) x := by
  constructor
  · intro h S h0 hs
    exact rc_sound (fun z => h0 (fun y => rb_no z y)) (fun u v hu su e z => hs u v hu su e (fun y => rb_no z y)) h
  · intro h
    refine h (fun x => bt (rc T m) x = true) (fun z => ?_) (fun u v hu su e z => ?_)
    · apply rc_up0 m
      rw [rc_s0_b, rb_tf z]
      rfl
    · exact rc_step hT hu su e (rb_tf z)
end
section
/-! dominators -/
def rv (T : Nat → Int32) (x : Nat) : Prop := rr T (fun _ => False) x
def rq (T : Nat → Int32) (h x : Nat) : Prop := rr T (fun i => i = h) x
theorem rv_iff {T : Nat → Int32} (hT : rt_lo T) (x : Nat) : bt (rc T 0) x = true ↔ rv T x := by
  rw [rc_iff hT]
  constructor
  · exact fun h => rr_mono (fun _ z => False.elim z) h
  · exact fun h => rr_mono (fun i z => rb_no (b_0 i) z) h
theorem rq_iff {T : Nat → Int32} (hT : rt_lo T) {h : Nat} (hh : h < 8) (x : Nat) : bt (rc T (rb_p h)) x = true ↔ rq T h x := by
  rw [rc_iff hT]
  constructor
  · exact fun z => rr_mono (fun i y => (rb_pb (by omega) i).trans (decide_eq_true y)) z
  · exact fun z => rr_mono (fun i y => of_decide_eq_true ((rb_pb (by omega) i).symm.trans y)) z
theorem rq_v {T : Nat → Int32} {h x : Nat} (z : rq T h x) : rv T x := rr_mono (fun _ y => False.elim y) z
theorem rq_self {T : Nat → Int32} (h : Nat) : ¬ rq T h h := fun z => rr_na z rfl
theorem rq_0 {T : Nat → Int32} (x : Nat) : ¬ rq T 0 x := fun z => z (fun _ => False) (fun y => y rfl) (fun _ _ _ y _ _ => y)
theorem rv_0 {T : Nat → Int32} : rv T 0 := rr_0 (fun z => z)
theorem rv_s {T : Nat → Int32} {u v : Nat} (hu : u < 8) (h : rv T u) (e : bt (T u) v = true) : rv T v := rr_s hu h e (fun z => z)
theorem rq_tr {T : Nat → Int32} {a b c : Nat} (h1 : ¬ rq T a b) (h2 : ¬ rq T b c) : ¬ rq T a c := by
  intro h
  have k : rq T a c ∧ (rq T b c ∨ rq T a b) := by
    refine h (fun x => rq T a x ∧ (rq T b x ∨ rq T a b)) (fun z => ⟨rr_0 z, ?_⟩) (fun u v hu s e z => ⟨rr_s hu s.1 e z, ?_⟩)
    · by_cases e : 0 = b
      · right
        rw [← e]
        exact rr_0 z
      · exact Or.inl (rr_0 e)
    · by_cases n : v = b
      · right
        rw [← n]
        exact rr_s hu s.1 e z
      · rcases s.2 with y | y
        · exact Or.inl (rr_s hu y e n)
        · exact Or.inr y
  rcases k.2 with y | y
  · exact h2 y
  · exact h1 y
theorem rq_an {T : Nat → Int32} {a b : Nat} (hn : a ≠ b) (hv : rv T b) (h1 : ¬ rq T a b) (h2 : ¬ rq T b a) : False := by
  have k : rq T a b ∨ rq T b a ∨ (rq T a b ∧ rq T b b) := by
    refine hv (fun x => rq T a b ∨ rq T b a ∨ (rq T a x ∧ rq T b x)) (fun _ => ?_) (fun u v hu s e _ => ?_)
    · by_cases ea : 0 = a
      · right; left
        rw [← ea]
        exact rr_0 (fun z => hn (ea.symm.trans z))
      · by_cases eb : 0 = b
        · left
          rw [← eb]
          exact rr_0 ea
        · exact Or.inr (Or.inr ⟨rr_0 ea, rr_0 eb⟩)
    · rcases s with s | s | ⟨s1, s2⟩
      · exact Or.inl s
      · exact Or.inr (Or.inl s)
      · by_cases ea : v = a
        · right; left
          rw [← ea]
          exact rr_s hu s2 e (fun z => hn (ea.symm.trans z))
        · by_cases eb : v = b
          · left
            rw [← eb]
            exact rr_s hu s1 e ea
          · exact Or.inr (Or.inr ⟨rr_s hu s1 e ea, rr_s hu s2 e eb⟩)
  rcases k with k | k | k
  · exact h1 k
  · exact h2 k
  · exact h1 k.1
theorem rq_to {T : Nat → Int32} {a b c : Nat} (hn : a ≠ b) (hv : rv T c) (h1 : ¬ rq T a c) (h2 : ¬ rq T b c) (h3 : rq T a b) : ¬ rq T b a := by
  intro h4
  have k : rq T a c ∨ rq T b c := by
    refine hv (fun x => rq T a x ∨ rq T b x) (fun _ => ?_) (fun u v hu s e _ => ?_)
    · by_cases ea : 0 = a
      · exact Or.inr (rr_0 (fun z => hn (ea.symm.trans z)))
      · exact Or.inl (rr_0 ea)
    · rcases s with s | s
      · by_cases ea : v = a
        · rw [ea]
          exact Or.inr h4
        · exact Or.inl (rr_s hu s e ea)
      · by_cases eb : v = b
        · rw [eb]
          exact Or.inl h3
        · exact Or.inr (rr_s hu s e eb)
  rcases k with k | k
  · exact h1 k
  · exact h2 k
theorem rq_lv {T : Nat → Int32} {h b : Nat} (hv : rv T b) (h1 : ¬ rq T h b) : rv T h := by
  apply Classical.byContradiction
  intro n
  have k : rv T b ∧ rq T h b := by
    refine hv (fun x => rv T x ∧ rq T h x) (fun _ => ⟨rv_0, rr_0 (fun z => n (z ▸ rv_0))⟩) (fun u v hu s e _ => ?_)
    have a : rv T v := rv_s hu s.1 e
    exact ⟨a, rr_s hu s.2 e (fun z => n (z ▸ a))⟩
  exact h1 k.2
theorem rq_id {T : Nat → Int32} {c : Nat} (hv : rv T c) (h0 : c ≠ 0) : ∃ b, b < 8 ∧ b ≠ c ∧ ¬ rq T b c ∧ ∀ a, a < 8 → a ≠ c → ¬ rq T a c → ¬ rq T a b := by
  have k : ∀ n, n ≤ 8 → ∃ b, b < 8 ∧ b ≠ c ∧ ¬ rq T b c ∧ ∀ a, a < n → a ≠ c → ¬ rq T a c → ¬ rq T a b := by
    intro n
    induction n with
    | zero => exact fun _ => ⟨0, by omega, fun z => h0 z.symm, rq_0 c, fun a z => absurd z (by omega)⟩
    | succ n ih =>
      intro hn
      obtain ⟨b, b8, bc, bd, ba⟩ := ih (by omega)
      by_cases w : n ≠ c ∧ ¬ rq T n c ∧ rq T n b
      · obtain ⟨w1, w2, w3⟩ := w
        have nb : n ≠ b := fun z => rq_self b (z ▸ w3)
        have dn : ¬ rq T b n := rq_to nb hv w2 bd w3
        refine ⟨n, by omega, w1, w2, fun a ha ac ad => ?_⟩
        by_cases e : a = n
        · rw [e]
          exact rq_self n
        · exact rq_tr (ba a (by omega) ac ad) dn
      · refine ⟨b, b8, bc, bd, fun a ha ac ad => ?_⟩
        by_cases e : a = n
        · subst e
          exact fun z => w ⟨ac, ad, z⟩
        · exact ba a (by omega) ac ad
  exact k 8 (Nat.le_refl 8)
/-! the masks of dominators, as the component reckons them -/
def rd_f (T : Nat → Int32) (b : Nat) : Nat → Int32
  | 0 => 0
  | n + 1 => if bt (rc T 0 &&& (rc T (rb_p n) ^^^ (-1))) b = true then rd_f T b n ||| rb_p n else rd_f T b n
def rd (T : Nat → Int32) (b : Nat) : Int32 := rd_f T b 8
theorem rd_fb (T : Nat → Int32) (b h : Nat) : ∀ n, n ≤ 8 → bt (rd_f T b n) h = (decide (h < n) && (bt (rc T 0) b && !bt (rc T (rb_p h)) b)) := by
  intro n
  induction n with
  | zero =>
    intro _
    exact b_0 h
  | succ n ih =>
    intro hn
    have a := ih (by omega)
    simp only [rd_f]
    rw [rb_an]
    by_cases e : h = n
    · subst e
      rw [decide_eq_false (Nat.lt_irrefl h), Bool.false_and] at a
      rw [decide_eq_true (Nat.lt_succ_self h), Bool.true_and]
      by_cases c : (bt (rc T 0) b && !bt (rc T (rb_p h)) b) = true
      · rw [if_pos c, c, b_or, rb_pb (by omega), decide_eq_true rfl, Bool.or_true]
      · rw [if_neg c, a, rb_tf c]
    · have d : decide (h < n + 1) = decide (h < n) := by
        by_cases l : h < n
        · rw [decide_eq_true l, decide_eq_true (by omega)]
        · rw [decide_eq_false l, decide_eq_false (by omega)]
      rw [d, ← a]
      split
      · rw [b_or, rb_pb (by omega), decide_eq_false e, Bool.or_false]
      · rfl
theorem rd_iff {T : Nat → Int32} (hT : rt_lo T) (b h : Nat) : bt (rd T b) h = true ↔ h < 8 ∧ rv T b ∧ ¬ rq T h b := by
  unfold rd
  rw [rd_fb T b h 8 (Nat.le_refl 8)]
  constructor
  · intro z
    have z1 : h < 8 := by
      by_cases l : h < 8
      · exact l
      · rw [decide_eq_false l] at z
        cases z
    rw [decide_eq_true z1, Bool.true_and] at z
    have z2 : bt (rc T 0) b = true := by
      cases y : bt (rc T 0) b with
      | true => rfl
      | false => rw [y] at z; cases z
    refine ⟨z1, (rv_iff hT b).mp z2, fun y => ?_⟩
    rw [(rq_iff hT z1 b).mpr y, z2] at z
    cases z
  · rintro ⟨z1, z2, z3⟩
    rw [decide_eq_true z1, (rv_iff hT b).mpr z2, rb_tf (fun y => z3 ((rq_iff hT z1 b).mp y))]
    rfl
theorem rd_lo {T : Nat → Int32} (hT : rt_lo T) (b : Nat) : rs_lo (rd T b) := fun i hi => rb_tf (fun z => by have a := ((rd_iff hT b i).mp z).1; omega)
theorem rd_self {T : Nat → Int32} (hT : rt_lo T) {b : Nat} (h : rv T b) : bt (rd T b) b = true := (rd_iff hT b b).mpr ⟨rr_lt hT h, h, rq_self b⟩
/-! forward edges, loops, merges -/
def rg (T : Nat → Int32) (b : Nat) : Int32 := if bt (rc T 0) b = true then T b else 0
def rf (T : Nat → Int32) (b : Nat) : Int32 := rg T b &&& (rd T b ^^^ (-1))
theorem rg_iff {T : Nat → Int32} (hT : rt_lo T) (b c : Nat) : bt (rg T b) c = true ↔ rv T b ∧ bt (T b) c = true := by
  unfold rg
  rw [← rv_iff hT b]
  split
  · rename_i h
    exact ⟨fun z => ⟨h, z⟩, fun z => z.2⟩
  · rename_i h
    rw [b_0]
    exact ⟨fun z => (by cases z), fun z => absurd z.1 h⟩
theorem rf_iff {T : Nat → Int32} (hT : rt_lo T) {b : Nat} (hb : b < 8) (c : Nat) : bt (rf T b) c = true ↔ rv T b ∧ bt (T b) c = true ∧ rq T c b := by
  unfold rf
  rw [rb_an]
  constructor
  · intro z
    have z1 : bt (rg T b) c = true := by
      cases y : bt (rg T b) c with
      | true => rfl
      | false => rw [y] at z; cases z
    obtain ⟨a1, a2⟩ := (rg_iff hT b c).mp z1
    refine ⟨a1, a2, Classical.byContradiction (fun n => ?_)⟩
    rw [(rd_iff hT b c).mpr ⟨rs_lt8 (hT b hb) a2, a1, n⟩, z1] at z
    cases z
  · rintro ⟨a1, a2, a3⟩
    rw [(rg_iff hT b c).mpr ⟨a1, a2⟩, rb_tf (fun y => ((rd_iff hT b c).mp y).2.2 a3)]
    rfl
def rl_f (T : Nat → Int32) : Nat → Int32
  | 0 => 0
  | n + 1 => rl_f T n ||| (rg T n &&& rd T n)
def rl (T : Nat → Int32) : Int32 := rl_f T 8
theorem rl_to {T : Nat → Int32} {b c : Nat} (h1 : bt (rg T b) c = true) (h2 : bt (rd T b) c = true) : ∀ n, b < n → bt (rl_f T n) c = true := by
  intro n
  induction n with
  | zero => exact fun z => absurd z (Nat.not_lt_zero b)
  | succ n ih =>
    intro z
    simp only [rl_f]
    by_cases e : b = n
    · subst e
      rw [b_or, b_and, h1, h2]
      exact Bool.or_true _
    · rw [b_or, ih (by omega), Bool.true_or]
def rm_o (T : Nat → Int32) : Nat → Int32
  | 0 => 0
  | n + 1 => rm_o T n ||| rf T n
def rm_f (T : Nat → Int32) : Nat → Int32
  | 0 => 0
  | n + 1 => rm_f T n ||| (rm_o T n &&& rf T n)
def rm (T : Nat → Int32) : Int32 := rm_f T 8
theorem rm_oi (T : Nat → Int32) (c n : Nat) : bt (rm_o T n) c = true ↔ ∃ p, p < n ∧ bt (rf T p) c = true := by
  induction n with
  | zero =>
    simp only [rm_o]
    rw [b_0]
    exact ⟨fun z => (by cases z), fun ⟨p, z, _⟩ => absurd z (Nat.not_lt_zero p)⟩
  | succ n ih =>
    simp only [rm_o]
    rw [b_or, Bool.or_eq_true, ih]
    constructor
    · rintro (⟨p, h, e⟩ | h)
      · exact ⟨p, by omega, e⟩
      · exact ⟨n, by omega, h⟩
    · rintro ⟨p, h, e⟩
      by_cases z : p = n
      · subst z
        exact Or.inr e
      · exact Or.inl ⟨p, by omega, e⟩
theorem rm_fi (T : Nat → Int32) (c n : Nat) : bt (rm_f T n) c = true ↔ ∃ p q, p < q ∧ q < n ∧ bt (rf T p) c = true ∧ bt (rf T q) c = true := by
  induction n with
  | zero =>
    simp only [rm_f]
    rw [b_0]
    exact ⟨fun z => (by cases z), fun ⟨p, q, _, z, _⟩ => absurd z (Nat.not_lt_zero q)⟩
  | succ n ih =>
    simp only [rm_f]
    rw [b_or, Bool.or_eq_true, ih, b_and, Bool.and_eq_true, rm_oi]
    constructor
    · rintro (⟨p, q, h1, h2, h3⟩ | ⟨⟨p, h, e⟩, h2⟩)
      · exact ⟨p, q, h1, by omega, h3⟩
      · exact ⟨p, n, h, by omega, e, h2⟩
    · rintro ⟨p, q, h1, h2, h3, h4⟩
      by_cases z : q = n
      · subst z
        exact Or.inr ⟨⟨p, h1, h3⟩, h4⟩
      · exact Or.inl ⟨p, q, h1, by omega, h3, h4⟩
theorem rm_un {T : Nat → Int32} {c p q : Nat} (hm : bt (rm T) c = false) (hp : p < 8) (hq : q < 8) (h1 : bt (rf T p) c = true) (h2 : bt (rf T q) c = true) : p = q := by
  apply Classical.byContradiction
  intro n
  have z : bt (rm T) c = true := by
    rcases Nat.lt_or_gt_of_ne n with l | l
    · exact (rm_fi T c 8).mpr ⟨p, q, l, hq, h1, h2⟩
    · exact (rm_fi T c 8).mpr ⟨q, p, l, hp, h2, h1⟩
  rw [hm] at z
  cases z
/-! the parent of a block in the nested code -/
def rk (T : Nat → Int32) (b c : Nat) : Prop :=
  b < 8 ∧ c < 8 ∧ rv T b ∧ rv T c ∧ ((bt (rm T) c = true ∧ rd T b = rd T c &&& (rb_p c ^^^ (-1))) ∨ (bt (rm T) c = false ∧ bt (rf T b) c = true))
theorem rd_inj {T : Nat → Int32} (hT : rt_lo T) {b c : Nat} (hb : rv T b) (hc : rv T c) (e : rd T b = rd T c) : b = c := by
  apply Classical.byContradiction
  intro n
  have h1 : bt (rd T c) b = true := e ▸ rd_self hT hb
  have h2 : bt (rd T b) c = true := e.symm ▸ rd_self hT hc
  exact rq_an n hc ((rd_iff hT c b).mp h1).2.2 ((rd_iff hT b c).mp h2).2.2
theorem rk_u {T : Nat → Int32} (hT : rt_lo T) {b b' c : Nat} (h : rk T b c) (h' : rk T b' c) : b = b' := by
  obtain ⟨a1, a2, a3, a4, a5⟩ := h
  obtain ⟨c1, c2, c3, c4, c5⟩ := h'
  rcases a5 with ⟨m, e⟩ | ⟨m, e⟩
  · rcases c5 with ⟨m', e'⟩ | ⟨m', e'⟩
    · exact rd_inj hT a3 c3 (e.trans e'.symm)
    · rw [m] at m'
      cases m'
  · rcases c5 with ⟨m', e'⟩ | ⟨m', e'⟩
    · rw [m] at m'
      cases m'
    · exact rm_un m a1 c1 e e'
theorem rf_n0 {T : Nat → Int32} (hT : rt_lo T) {b : Nat} (hb : b < 8) : ¬ bt (rf T b) 0 = true := fun z => rq_0 b ((rf_iff hT hb 0).mp z).2.2
theorem rm_n0 {T : Nat → Int32} (hT : rt_lo T) : bt (rm T) 0 = false := by
  apply rb_tf
  intro z
  obtain ⟨p, q, h1, h2, h3, _⟩ := (rm_fi T 0 8).mp z
  exact rf_n0 hT (by omega) h3
theorem rk_0 {T : Nat → Int32} (hT : rt_lo T) {b c : Nat} (h : rk T b c) : c ≠ 0 := by
  intro e
  subst e
  obtain ⟨a1, a2, a3, a4, a5⟩ := h
  rcases a5 with ⟨m, e⟩ | ⟨m, e⟩
  · rw [rm_n0 hT] at m
    cases m
  · exact rf_n0 hT a1 e
theorem rk_ne {T : Nat → Int32} (hT : rt_lo T) {b c : Nat} (h : rk T b c) : b ≠ c := by
  intro e
  subst e
  obtain ⟨a1, a2, a3, a4, a5⟩ := h
  rcases a5 with ⟨m, e⟩ | ⟨m, e⟩
  · have z := rd_self hT a3
    rw [e, rb_an, rb_pb (by omega), decide_eq_true rfl, Bool.not_true, Bool.and_false] at z
    cases z
  · exact rq_self b ((rf_iff hT a1 b).mp e).2.2
theorem rk_cn {T : Nat → Int32} (hT : rt_lo T) {b c : Nat} (h1 : ∀ a, ¬ rq T a b → ¬ rq T a c) (hc : rv T c) (h2 : rq T c b) : rs_cn (bt (rd T b)) 8 < rs_cn (bt (rd T c)) 8 := by
  refine rs_cn_lt (fun i _ z => ?_) c (rr_lt hT hc) (rb_tf (fun z => ((rd_iff hT b c).mp z).2.2 h2)) (rd_self hT hc)
  obtain ⟨z1, z2, z3⟩ := (rd_iff hT b i).mp z
  exact (rd_iff hT c i).mpr ⟨z1, hc, h1 i z3⟩
theorem rk_ex {T : Nat → Int32} (hT : rt_lo T) {c : Nat} (hc : rv T c) (h0 : c ≠ 0) : ∃ b, rk T b c ∧ rs_cn (bt (rd T b)) 8 < rs_cn (bt (rd T c)) 8 := by
  cases m : bt (rm T) c with
  | true =>
    obtain ⟨b, b8, bc, bd, ba⟩ := rq_id hc h0
    have hb : rv T b := rq_lv hc bd
    have hcb : rq T c b := Classical.byContradiction (fun n => rq_an bc hc bd n)
    refine ⟨b, ⟨b8, rr_lt hT hc, hb, hc, Or.inl ⟨m, ?_⟩⟩, rk_cn hT (fun a z => rq_tr z bd) hc hcb⟩
    apply rs_eq
    · intro i z
      obtain ⟨z1, z2, z3⟩ := (rd_iff hT b i).mp z
      have ni : i ≠ c := fun e => z3 (e ▸ hcb)
      rw [rb_an, rb_pb (by have := rr_lt hT hc; omega), decide_eq_false ni, (rd_iff hT c i).mpr ⟨z1, hc, rq_tr z3 bd⟩]
      rfl
    · intro i z
      rw [rb_an, rb_pb (by have := rr_lt hT hc; omega)] at z
      by_cases ni : i = c
      · rw [decide_eq_true ni, Bool.not_true, Bool.and_false] at z
        cases z
      · rw [decide_eq_false ni, Bool.not_false, Bool.and_true] at z
        obtain ⟨z1, z2, z3⟩ := (rd_iff hT c i).mp z
        exact (rd_iff hT b i).mpr ⟨z1, hb, ba i z1 ni z3⟩
  | false =>
    have ex : ∃ p, p < 8 ∧ bt (rf T p) c = true := by
      apply Classical.byContradiction
      intro n
      have k : rq T c c := by
        refine hc (fun x => rq T c x) (fun _ => rr_0 (fun z => h0 z.symm)) (fun u v hu s e _ => ?_)
        by_cases w : v = c
        · subst w
          exact absurd ⟨u, hu, (rf_iff hT hu v).mpr ⟨rq_v s, e, s⟩⟩ n
        · exact rr_s hu s e w
      exact rq_self c k
    obtain ⟨p, p8, pf⟩ := ex
    obtain ⟨a1, a2, a3⟩ := (rf_iff hT p8 c).mp pf
    have pd : ¬ rq T p c := by
      intro z
      have k : rr T (fun i => i = p ∨ i = c) c := by
        refine z (fun x => rr T (fun i => i = p ∨ i = c) x) (fun y => rr_0 (fun w => ?_)) (fun u v hu s e y => ?_)
        · rcases w with w | w
          · exact y w
          · exact h0 w.symm
        · by_cases w : v = c
          · subst w
            have s1 : rq T v u := rr_mono (fun i q => Or.inr q) s
            have up : u = p := rm_un m hu p8 ((rf_iff hT hu v).mpr ⟨rq_v s1, e, s1⟩) pf
            exact absurd (Or.inl up) (rr_na s)
          · exact rr_s hu s e (fun q => by
              rcases q with q | q
              · exact y q
              · exact w q)
      exact rr_na k (Or.inr rfl)
    exact ⟨p, ⟨p8, rr_lt hT hc, a1, hc, Or.inr ⟨m, pf⟩⟩, rk_cn hT (fun a z => rq_tr z pd) hc a3⟩
end
section
/-! the order of the blocks against the search for a ring -/
theorem rs_cn_z {f : Nat → Bool} {n : Nat} (h : ∀ i, i < n → f i = false) : rs_cn f n = 0 := by
  induction n with
  | zero => rfl
  | succ n ih =>
    simp only [rs_cn]
    rw [ih (fun i hi => h i (by omega)), if_neg (by rw [h n (by omega)]; decide)]
def ka_h (F : Nat → Int32) (w : Int32) : Nat → Int32
  | 0 => 0
  | n + 1 => if bt w n = true then ka_h F w n ||| F n else ka_h F w n
def ka_w (L os : Int32) : Int32 := L &&& (os ^^^ (-1))
def ka_r (F : Nat → Int32) (L os : Int32) : Int32 := ka_w L os &&& (ka_h F (ka_w L os) 8 ^^^ (-1))
def ka (F : Nat → Int32) (L : Int32) : Nat → Int32
  | 0 => 0
  | k + 1 => ka F L k ||| ka_r F L (ka F L k)
def ow_f (F : Nat → Int32) (s : Int32) : Nat → Int32
  | 0 => s
  | n + 1 => if bt s n = true then ow_f F s n ||| F n else ow_f F s n
def ow (F : Nat → Int32) (s : Int32) : Int32 := ow_f F s 8
def ow_c (F : Nat → Int32) (b : Nat) : Int32 := rs_it (ow F) (F b) 8
theorem ka_hi (F : Nat → Int32) (w : Int32) (c n : Nat) : bt (ka_h F w n) c = true ↔ ∃ b, b < n ∧ bt w b = true ∧ bt (F b) c = true := by
  induction n with
  | zero =>
    simp only [ka_h]
    rw [b_0]
    exact ⟨fun z => (by cases z), fun ⟨p, z, _⟩ => absurd z (Nat.not_lt_zero p)⟩
  | succ n ih =>
    simp only [ka_h]
    split
    · rename_i hw
      rw [b_or, Bool.or_eq_true, ih]
      constructor
      · rintro (⟨p, h, e⟩ | h)
        · exact ⟨p, by omega, e⟩
        · exact ⟨n, by omega, hw, h⟩
      · rintro ⟨p, h, e1, e2⟩
        by_cases z : p = n
        · subst z
          exact Or.inr e2
        · exact Or.inl ⟨p, by omega, e1, e2⟩
    · rename_i hw
      rw [ih]
      constructor
      · rintro ⟨p, h, e⟩
        exact ⟨p, by omega, e⟩
      · rintro ⟨p, h, e1, e2⟩
        by_cases z : p = n
        · subst z
          exact absurd e1 hw
        · exact ⟨p, by omega, e1, e2⟩
theorem ow_fi (F : Nat → Int32) (s : Int32) (c n : Nat) : bt (ow_f F s n) c = true ↔ bt s c = true ∨ ∃ b, b < n ∧ bt s b = true ∧ bt (F b) c = true := by
  induction n with
  | zero =>
    simp only [ow_f]
    exact ⟨fun z => Or.inl z, fun z => by
      rcases z with z | ⟨p, z, _⟩
      · exact z
      · exact absurd z (Nat.not_lt_zero p)⟩
  | succ n ih =>
    simp only [ow_f]
    split
    · rename_i hw
      rw [b_or, Bool.or_eq_true, ih]
      constructor
      · rintro ((h | ⟨p, h, e⟩) | h)
        · exact Or.inl h
        · exact Or.inr ⟨p, by omega, e⟩
        · exact Or.inr ⟨n, by omega, hw, h⟩
      · rintro (h | ⟨p, h, e1, e2⟩)
        · exact Or.inl (Or.inl h)
        · by_cases z : p = n
          · subst z
            exact Or.inr e2
          · exact Or.inl (Or.inr ⟨p, by omega, e1, e2⟩)
    · rename_i hw
      rw [ih]
      constructor
      · rintro (h | ⟨p, h, e⟩)
        · exact Or.inl h
        · exact Or.inr ⟨p, by omega, e⟩
      · rintro (h | ⟨p, h, e1, e2⟩)
        · exact Or.inl h
        · by_cases z : p = n
          · subst z
            exact absurd e1 hw
          · exact Or.inr ⟨p, by omega, e1, e2⟩
theorem ka_wi (L os : Int32) (b : Nat) : bt (ka_w L os) b = true ↔ bt L b = true ∧ bt os b = false := by
  unfold ka_w
  rw [rb_an, Bool.and_eq_true, Bool.not_eq_true']
theorem ka_ri (F : Nat → Int32) (L os : Int32) (c : Nat) : bt (ka_r F L os) c = true ↔ bt (ka_w L os) c = true ∧ ¬ ∃ b, b < 8 ∧ bt (ka_w L os) b = true ∧ bt (F b) c = true := by
  unfold ka_r
  rw [rb_an, Bool.and_eq_true, Bool.not_eq_true', ← ka_hi]
  constructor
  · exact fun z => ⟨z.1, fun y => by rw [z.2] at y; cases y⟩
  · exact fun z => ⟨z.1, rb_tf z.2⟩
theorem ka_up (F : Nat → Int32) (L : Int32) (k : Nat) : rs_sub (ka F L k) (ka F L (k + 1)) := by
  intro i h
  simp only [ka]
  rw [b_or, h, Bool.true_or]
theorem ka_sub (F : Nat → Int32) (L : Int32) (k : Nat) : rs_sub (ka F L k) L := by
  induction k with
  | zero =>
    intro i h
    simp only [ka] at h
    rw [b_0] at h
    cases h
  | succ k ih =>
    intro i h
    simp only [ka] at h
    rw [b_or, Bool.or_eq_true] at h
    rcases h with h | h
    · exact ih i h
    · exact ((ka_wi _ _ _).mp ((ka_ri _ _ _ _).mp h).1).1
theorem ka_pr {F : Nat → Int32} {L : Int32} (hd : ∀ b, b < 8 → bt L b = false → F b = 0) (k : Nat) : ∀ c b, b < 8 → bt (ka F L (k + 1)) c = true → bt (F b) c = true → bt (ka F L k) b = true := by
  have rdy : ∀ os c b, b < 8 → bt (ka_r F L os) c = true → bt (F b) c = true → bt os b = true := by
    intro os c b hb h e
    obtain ⟨_, h2⟩ := (ka_ri _ _ _ _).mp h
    apply Classical.byContradiction
    intro n
    cases l : bt L b with
    | false =>
      rw [hd b hb l, b_0] at e
      cases e
    | true => exact h2 ⟨b, hb, (ka_wi _ _ _).mpr ⟨l, rb_tf n⟩, e⟩
  induction k with
  | zero =>
    intro c b hb h e
    have h' : bt (0 ||| ka_r F L 0) c = true := h
    rw [b_or, b_0, Bool.false_or] at h'
    exact rdy _ c b hb h' e
  | succ k ih =>
    intro c b hb h e
    have h' : bt (ka F L (k + 1) ||| ka_r F L (ka F L (k + 1))) c = true := h
    rw [b_or, Bool.or_eq_true] at h'
    rcases h' with h' | h'
    · exact ka_up F L k b (ih c b hb h' e)
    · exact rdy _ c b hb h' e
theorem ow_up (F : Nat → Int32) (s : Int32) : rs_sub s (ow F s) := fun i h => (ow_fi F s i 8).mpr (Or.inl h)
theorem ow_lo {F : Nat → Int32} (hF : ∀ b, b < 8 → rs_lo (F b)) {s : Int32} (hs : rs_lo s) : rs_lo (ow F s) := by
  intro i hi
  apply rb_tf
  intro z
  rcases (ow_fi F s i 8).mp z with y | ⟨b, hb, _, y⟩
  · rw [hs i hi] at y
    cases y
  · rw [hF b hb i hi] at y
    cases y
theorem ow_cl {F : Nat → Int32} (hF : ∀ b, b < 8 → rs_lo (F b)) {b : Nat} (hb : b < 8) {y x : Nat} (h8 : y < 8) (hy : bt (ow_c F b) y = true) (hx : bt (F y) x = true) : bt (ow_c F b) x = true := by
  have a := (rs_fix (ow F) (F b) (hF b hb) (fun s hs => ow_lo hF hs) (fun s => ow_up F s)).2
  have c : bt (ow F (ow_c F b)) x = true := (ow_fi F _ x 8).mpr (Or.inr ⟨y, h8, hy, hx⟩)
  unfold ow_c at c ⊢
  rw [a] at c
  exact c
theorem ow_st (F : Nat → Int32) (b : Nat) : rs_sub (F b) (ow_c F b) := by
  have k : ∀ j, rs_sub (F b) (rs_it (ow F) (F b) j) := by
    intro j
    induction j with
    | zero => exact fun _ h => h
    | succ j ih => exact fun i h => ow_up F _ i (ih i h)
  exact k 8
theorem ow_le {F : Nat → Int32} {b : Nat} {S : Nat → Prop} (h0 : ∀ i, bt (F b) i = true → S i) (hs : ∀ u v, u < 8 → S u → bt (F u) v = true → S v) {x : Nat} (h : bt (ow_c F b) x = true) : S x := by
  have k : ∀ j i, bt (rs_it (ow F) (F b) j) i = true → S i := by
    intro j
    induction j with
    | zero => exact h0
    | succ j ih =>
      intro i z
      rcases (ow_fi F _ i 8).mp z with y | ⟨u, hu, y1, y2⟩
      · exact ih i y
      · exact hs u i hu (ih u y1) y2
  exact k 8 x h
theorem ka_iff {F : Nat → Int32} {L : Int32} (hF : ∀ b, b < 8 → rs_lo (F b)) (hL : rs_lo L) (hd : ∀ b, b < 8 → bt L b = false → F b = 0) :
    ka F L 8 = L ↔ ∀ b, b < 8 → bt (ow_c F b) b = false := by
  constructor
  · intro e b hb
    apply rb_tf
    intro z
    have path : ∀ x, bt (ow_c F b) x = true → ∀ k, bt (ka F L (k + 1)) x = true → bt (ka F L k) b = true := by
      intro x hx
      exact ow_le (S := fun x => ∀ k, bt (ka F L (k + 1)) x = true → bt (ka F L k) b = true)
        (fun i hi k hk => ka_pr hd k i b hb hk hi)
        (fun u v hu su e k hk => su k (ka_up F L k u (ka_pr hd k v u hu hk e))) hx
    have nn : ∀ k, bt (ka F L k) b = false := by
      intro k
      induction k with
      | zero => exact b_0 b
      | succ k ih =>
        apply rb_tf
        intro y
        rw [path b z k y] at ih
        cases ih
    have nl : bt L b = false := by
      have a := nn 8
      rw [e] at a
      exact a
    have f0 := hd b hb nl
    exact ow_le (b := b) (S := fun _ => False) (fun i hi => by rw [f0, b_0] at hi; cases hi) (fun _ _ _ s _ => s) z
  · intro hr
    have rdy : ∀ os, (∃ b, b < 8 ∧ bt (ka_w L os) b = true) → ∃ c, c < 8 ∧ bt (ka_r F L os) c = true := by
      intro os ⟨b0, hb0, hw0⟩
      apply Classical.byContradiction
      intro n
      have pre : ∀ c, bt (ka_w L os) c = true → ∃ b, b < 8 ∧ bt (ka_w L os) b = true ∧ bt (F b) c = true := by
        intro c hc
        apply Classical.byContradiction
        intro n2
        exact n ⟨c, rs_lt8 hL ((ka_wi _ _ _).mp hc).1, (ka_ri _ _ _ _).mpr ⟨hc, n2⟩⟩
      have big : ∀ k, ∃ b, b < 8 ∧ bt (ka_w L os) b = true ∧ k ≤ rs_cn (bt (ow_c F b)) 8 := by
        intro k
        induction k with
        | zero => exact ⟨b0, hb0, hw0, Nat.zero_le _⟩
        | succ k ih =>
          obtain ⟨b, hb, hw, hk⟩ := ih
          obtain ⟨p, hp, pw, pf⟩ := pre b hw
          have bp : bt (ow_c F p) b = true := ow_st F p b pf
          have lt : rs_cn (bt (ow_c F b)) 8 < rs_cn (bt (ow_c F p)) 8 :=
            rs_cn_lt (fun i _ z => ow_le (S := fun i => bt (ow_c F p) i = true) (fun j hj => ow_cl hF hp hb bp hj) (fun u v hu su e => ow_cl hF hp hu su e) z) b hb (hr b hb) bp
          exact ⟨p, hp, pw, by omega⟩
      obtain ⟨b, _, _, h9⟩ := big 9
      have := rs_cn_le (bt (ow_c F b)) 8
      omega
    have cnt : ∀ k, rs_cn (bt (ka_w L (ka F L k))) 8 + k ≤ 8 ∨ rs_cn (bt (ka_w L (ka F L k))) 8 = 0 := by
      intro k
      induction k with
      | zero =>
        left
        have := rs_cn_le (bt (ka_w L (ka F L 0))) 8
        omega
      | succ k ih =>
        have sub : ∀ i, i < 8 → bt (ka_w L (ka F L (k + 1))) i = true → bt (ka_w L (ka F L k)) i = true := by
          intro i _ z
          obtain ⟨z1, z2⟩ := (ka_wi _ _ _).mp z
          refine (ka_wi _ _ _).mpr ⟨z1, rb_tf (fun y => ?_)⟩
          rw [ka_up F L k i y] at z2
          cases z2
        by_cases w : ∃ b, b < 8 ∧ bt (ka_w L (ka F L k)) b = true
        · obtain ⟨c, hc, hr'⟩ := rdy _ w
          have cw := ((ka_ri _ _ _ _).mp hr').1
          have cn : bt (ka_w L (ka F L (k + 1))) c = false := by
            apply rb_tf
            intro z
            have y := ((ka_wi _ _ _).mp z).2
            simp only [ka] at y
            rw [b_or, hr', Bool.or_true] at y
            cases y
          have lt := rs_cn_lt sub c hc cn cw
          omega
        · right
          apply rs_cn_z
          intro i hi
          apply rb_tf
          intro z
          exact w ⟨i, hi, sub i hi z⟩
    apply rs_eq
    · exact ka_sub F L 8
    · intro i hi
      have h8 := rs_lt8 hL hi
      have z : rs_cn (bt (ka_w L (ka F L 8))) 8 = 0 := by
        rcases cnt 8 with c | c
        · omega
        · exact c
      apply Classical.byContradiction
      intro n
      have a := rs_cn_0 z i h8
      rw [(ka_wi _ _ _).mpr ⟨hi, rb_tf n⟩] at a
      cases a
end
section
/-! the nested code as a list of forms: what is written, then what is pending. 0 PIECE, 1 LOOP, 2 LOOP_END, 3 SCOPE, 4 SCOPE_END, 5 DO, 6 IF, 7 ELSE, 8 IF_END, 9 LEAVE, 10 AGAIN, 11 FINISH -/
def lk_nd (c : Nat) : List (Nat × Nat) → Prop
  | [] => False
  | i :: r => if i.1 = 1 ∨ i.1 = 3 then lk_nd c r else ((i.1 = 0 ∨ i.1 = 5) ∧ i.2 = c)
def lk_ed (ef : Nat → Nat → Nat) (b c : Nat) (r : List (Nat × Nat)) : Prop := (ef b c = 0 → lk_nd c r) ∧ (ef b c ≠ 0 → ∃ r', r = (ef b c, c) :: r')
def lk_wy (ef : Nat → Nat → Nat) (kd fi se : Nat → Nat) (b : Nat) (r : List (Nat × Nat)) : Prop :=
  (kd b = 0 → ∃ r', r = (11, b) :: r') ∧ (kd b ≠ 0 → (kd b = 1 ∨ fi b = se b) → lk_ed ef b (fi b) r) ∧ (kd b ≠ 0 → ¬ (kd b = 1 ∨ fi b = se b) → ∃ r', r = (6, b) :: r' ∧ lk_ed ef b (fi b) r')
def lk_ok (ef : Nat → Nat → Nat) (kd fi se : Nat → Nat) : List (Nat × Nat) → Prop
  | [] => True
  | i :: r => (i.1 = 1 → lk_nd i.2 r) ∧ (i.1 = 4 → lk_nd i.2 r) ∧ (i.1 = 5 → lk_wy ef kd fi se i.2 r) ∧ (i.1 = 7 → lk_ed ef i.2 (se i.2) r) ∧ lk_ok ef kd fi se r
def lk_way (ef : Nat → Nat → Nat) (kd fi se : Nat → Nat) (b : Nat) : List (Nat × Nat) :=
  if kd b = 0 then [(11, b)] else if kd b = 1 ∨ fi b = se b then [(ef b (fi b), fi b)] else [(6, b), (ef b (fi b), fi b), (7, b), (ef b (se b), se b), (8, b)]
def lk_ends : List Nat → List (Nat × Nat)
  | [] => []
  | m :: r => (4, m) :: (0, m) :: lk_ends r
def lk_scs : List Nat → List (Nat × Nat) → List (Nat × Nat)
  | [], L => L
  | m :: r, L => lk_scs r ((3, m) :: L)
def lk_t (lp : Nat → Bool) (f b : Nat) (S : List (Nat × Nat)) : List (Nat × Nat) := if lp b = true then (f, b) :: S else S
def lk_ex (lp : Nat → Bool) (mu : Nat → List Nat) (ef : Nat → Nat → Nat) (kd fi se : Nat → Nat) (b : Nat) (S : List (Nat × Nat)) : List (Nat × Nat) :=
  lk_t lp 1 b (lk_scs (mu b) ((5, b) :: (lk_way ef kd fi se b ++ (lk_ends (mu b) ++ lk_t lp 2 b S))))
theorem lk_nd_scs (c : Nat) : ∀ (ms : List Nat) (L : List (Nat × Nat)), lk_nd c L → lk_nd c (lk_scs ms L) := by
  intro ms
  induction ms with
  | nil => exact fun L h => h
  | cons m r ih =>
    intro L h
    refine ih ((3, m) :: L) ?_
    show if (3 : Nat) = 1 ∨ (3 : Nat) = 3 then lk_nd c L else _
    rw [if_pos (Or.inr rfl)]
    exact h
theorem lk_nd_d (b : Nat) (r : List (Nat × Nat)) : lk_nd b ((5, b) :: r) := by
  show if (5 : Nat) = 1 ∨ (5 : Nat) = 3 then lk_nd b r else (((5 : Nat) = 0 ∨ (5 : Nat) = 5) ∧ b = b)
  rw [if_neg (by decide)]
  exact ⟨Or.inr rfl, rfl⟩
theorem lk_nd_p (b : Nat) (r : List (Nat × Nat)) : lk_nd b ((0, b) :: r) := by
  show if (0 : Nat) = 1 ∨ (0 : Nat) = 3 then lk_nd b r else (((0 : Nat) = 0 ∨ (0 : Nat) = 5) ∧ b = b)
  rw [if_neg (by decide)]
  exact ⟨Or.inl rfl, rfl⟩
section
variable (lp : Nat → Bool) (mu : Nat → List Nat) (ef : Nat → Nat → Nat) (kd fi se : Nat → Nat)
theorem lk_nd_ex (b : Nat) (S : List (Nat × Nat)) : lk_nd b (lk_ex lp mu ef kd fi se b S) := by
  unfold lk_ex lk_t
  split
  · show if (1 : Nat) = 1 ∨ (1 : Nat) = 3 then _ else _
    rw [if_pos (Or.inl rfl)]
    exact lk_nd_scs b _ _ (lk_nd_d b _)
  · exact lk_nd_scs b _ _ (lk_nd_d b _)
theorem lk_nd_r (c b : Nat) (S : List (Nat × Nat)) : ∀ A : List (Nat × Nat), lk_nd c (A ++ (0, b) :: S) → lk_nd c (A ++ lk_ex lp mu ef kd fi se b S) := by
  intro A
  induction A with
  | nil =>
    intro h
    have h' : if (0 : Nat) = 1 ∨ (0 : Nat) = 3 then lk_nd c S else (((0 : Nat) = 0 ∨ (0 : Nat) = 5) ∧ b = c) := h
    rw [if_neg (by decide)] at h'
    rw [← h'.2]
    exact lk_nd_ex lp mu ef kd fi se b S
  | cons i A ih =>
    intro h
    simp only [List.cons_append, lk_nd] at h ⊢
    by_cases w : i.1 = 1 ∨ i.1 = 3
    · rw [if_pos w] at h ⊢
      exact ih h
    · rw [if_neg w] at h ⊢
      exact h
theorem lk_hd {f x b : Nat} {S A r : List (Nat × Nat)} (hf : f ≠ 0) (e : A ++ (0, b) :: S = (f, x) :: r) : ∃ A', A = (f, x) :: A' ∧ r = A' ++ (0, b) :: S := by
  cases A with
  | nil =>
    rw [List.nil_append] at e
    injection e with e1 e2
    injection e1 with e3 e4
    exact absurd e3.symm hf
  | cons i A =>
    rw [List.cons_append] at e
    injection e with e1 e2
    exact ⟨A, by rw [e1], e2.symm⟩
theorem lk_ed_r (b' c b : Nat) (S A : List (Nat × Nat)) (h : lk_ed ef b' c (A ++ (0, b) :: S)) : lk_ed ef b' c (A ++ lk_ex lp mu ef kd fi se b S) := by
  refine ⟨fun z => lk_nd_r lp mu ef kd fi se c b S A (h.1 z), fun z => ?_⟩
  obtain ⟨r, e⟩ := h.2 z
  obtain ⟨A', e1, _⟩ := lk_hd z e
  exact ⟨A' ++ lk_ex lp mu ef kd fi se b S, by rw [e1, List.cons_append]⟩
theorem lk_wy_r (b' b : Nat) (S A : List (Nat × Nat)) (h : lk_wy ef kd fi se b' (A ++ (0, b) :: S)) : lk_wy ef kd fi se b' (A ++ lk_ex lp mu ef kd fi se b S) := by
  refine ⟨fun z => ?_, fun z y => lk_ed_r lp mu ef kd fi se b' _ b S A (h.2.1 z y), fun z y => ?_⟩
  · obtain ⟨r, e⟩ := h.1 z
    obtain ⟨A', e1, _⟩ := lk_hd (by decide) e
    exact ⟨A' ++ lk_ex lp mu ef kd fi se b S, by rw [e1, List.cons_append]⟩
  · obtain ⟨r, e, d⟩ := h.2.2 z y
    obtain ⟨A', e1, e2⟩ := lk_hd (by decide) e
    rw [e2] at d
    exact ⟨A' ++ lk_ex lp mu ef kd fi se b S, by rw [e1, List.cons_append], lk_ed_r lp mu ef kd fi se b' _ b S A' d⟩
theorem lk_ok_scs : ∀ (ms : List Nat) (L : List (Nat × Nat)), lk_ok ef kd fi se L → lk_ok ef kd fi se (lk_scs ms L) := by
  intro ms
  induction ms with
  | nil => exact fun L h => h
  | cons m r ih => exact fun L h => ih ((3, m) :: L) ⟨fun z => (by cases z), fun z => (by cases z), fun z => (by cases z), fun z => (by cases z), h⟩
theorem lk_ok_ends (L : List (Nat × Nat)) (h : lk_ok ef kd fi se L) : ∀ ms : List Nat, lk_ok ef kd fi se (lk_ends ms ++ L) := by
  intro ms
  induction ms with
  | nil => exact h
  | cons m r ih => exact ⟨fun z => (by cases z), fun _ => lk_nd_p m _, fun z => (by cases z), fun z => (by cases z), fun z => (by cases z), fun z => (by cases z), fun z => (by cases z), fun z => (by cases z), ih⟩
theorem lk_ed_h (b c : Nat) (r : List (Nat × Nat)) : lk_ed ef b c ((ef b c, c) :: r) := by
  refine ⟨fun z => ?_, fun _ => ⟨r, rfl⟩⟩
  rw [z]
  exact lk_nd_p c r
theorem lk_ok_e {b c : Nat} (hef : ef b c = 0 ∨ ef b c = 9 ∨ ef b c = 10) (r : List (Nat × Nat)) (h : lk_ok ef kd fi se r) : lk_ok ef kd fi se ((ef b c, c) :: r) := by
  have n : ∀ k, k = 1 ∨ k = 4 ∨ k = 5 ∨ k = 7 → ¬ ef b c = k := by
    intro k hk
    omega
  exact ⟨fun z => absurd z (n 1 (by omega)), fun z => absurd z (n 4 (by omega)), fun z => absurd z (n 5 (by omega)), fun z => absurd z (n 7 (by omega)), h⟩
theorem lk_ok_way (hef : ∀ b c, ef b c = 0 ∨ ef b c = 9 ∨ ef b c = 10) (b : Nat) (r : List (Nat × Nat)) (h : lk_ok ef kd fi se r) : lk_ok ef kd fi se (lk_way ef kd fi se b ++ r) ∧ lk_wy ef kd fi se b (lk_way ef kd fi se b ++ r) := by
  unfold lk_way
  by_cases k0 : kd b = 0
  · rw [if_pos k0]
    exact ⟨⟨fun z => (by cases z), fun z => (by cases z), fun z => (by cases z), fun z => (by cases z), h⟩, fun _ => ⟨r, rfl⟩, fun z => absurd k0 z, fun z => absurd k0 z⟩
  · rw [if_neg k0]
    by_cases k1 : kd b = 1 ∨ fi b = se b
    · rw [if_pos k1]
      exact ⟨lk_ok_e ef kd fi se (hef _ _) r h, fun z => absurd z k0, fun _ _ => lk_ed_h ef b _ r, fun _ z => absurd k1 z⟩
    · rw [if_neg k1]
      refine ⟨?_, fun z => absurd z k0, fun _ z => absurd z k1, fun _ _ => ⟨_, rfl, lk_ed_h ef b _ _⟩⟩
      refine ⟨fun z => (by cases z), fun z => (by cases z), fun z => (by cases z), fun z => (by cases z), lk_ok_e ef kd fi se (hef _ _) _ ?_⟩
      refine ⟨fun z => (by cases z), fun z => (by cases z), fun z => (by cases z), fun _ => lk_ed_h ef b _ _, lk_ok_e ef kd fi se (hef _ _) _ ?_⟩
      exact ⟨fun z => (by cases z), fun z => (by cases z), fun z => (by cases z), fun z => (by cases z), h⟩
theorem lk_ok_ex (hef : ∀ b c, ef b c = 0 ∨ ef b c = 9 ∨ ef b c = 10) (b : Nat) (S : List (Nat × Nat)) (h : lk_ok ef kd fi se S) : lk_ok ef kd fi se (lk_ex lp mu ef kd fi se b S) := by
  have h1 : lk_ok ef kd fi se (lk_t lp 2 b S) := by
    unfold lk_t
    split
    · exact ⟨fun z => (by cases z), fun z => (by cases z), fun z => (by cases z), fun z => (by cases z), h⟩
    · exact h
  have h2 := lk_ok_ends ef kd fi se _ h1 (mu b)
  obtain ⟨h3, h4⟩ := lk_ok_way ef kd fi se hef b _ h2
  have h5 : lk_ok ef kd fi se ((5, b) :: (lk_way ef kd fi se b ++ (lk_ends (mu b) ++ lk_t lp 2 b S))) :=
    ⟨fun z => (by cases z), fun z => (by cases z), fun _ => h4, fun z => (by cases z), h3⟩
  have h6 := lk_ok_scs ef kd fi se (mu b) _ h5
  unfold lk_ex
  generalize lk_t lp 2 b S = S2 at h6 ⊢
  unfold lk_t
  split
  · exact ⟨fun _ => lk_nd_scs b _ _ (lk_nd_d b _), fun z => (by cases z), fun z => (by cases z), fun z => (by cases z), h6⟩
  · exact h6
theorem lk_ok_r (hef : ∀ b c, ef b c = 0 ∨ ef b c = 9 ∨ ef b c = 10) (b : Nat) (S : List (Nat × Nat)) : ∀ A : List (Nat × Nat), lk_ok ef kd fi se (A ++ (0, b) :: S) → lk_ok ef kd fi se (A ++ lk_ex lp mu ef kd fi se b S) := by
  intro A
  induction A with
  | nil => exact fun h => lk_ok_ex lp mu ef kd fi se hef b S h.2.2.2.2
  | cons i A ih =>
    intro h
    obtain ⟨h1, h2, h3, h4, h5⟩ := h
    exact ⟨fun z => lk_nd_r lp mu ef kd fi se _ b S A (h1 z), fun z => lk_nd_r lp mu ef kd fi se _ b S A (h2 z), fun z => lk_wy_r lp mu ef kd fi se _ b S A (h3 z), fun z => lk_ed_r lp mu ef kd fi se _ _ b S A (h4 z), ih h5⟩
end
/-! weights -/
def lk_w (w : Nat × Nat → Nat) : List (Nat × Nat) → Nat
  | [] => 0
  | i :: r => w i + lk_w w r
theorem lk_w_a (w : Nat × Nat → Nat) (A B : List (Nat × Nat)) : lk_w w (A ++ B) = lk_w w A + lk_w w B := by
  induction A with
  | nil => exact (Nat.zero_add _).symm
  | cons i A ih =>
    show w i + lk_w w (A ++ B) = w i + lk_w w A + lk_w w B
    rw [ih, Nat.add_assoc]
def lk_sw (w : Nat × Nat → Nat) : List Nat → Nat
  | [] => 0
  | m :: r => w (3, m) + lk_sw w r
theorem lk_w_scs (w : Nat × Nat → Nat) : ∀ (ms : List Nat) (L : List (Nat × Nat)), lk_w w (lk_scs ms L) = lk_sw w ms + lk_w w L := by
  intro ms
  induction ms with
  | nil => exact fun L => (Nat.zero_add _).symm
  | cons m r ih =>
    intro L
    show lk_w w (lk_scs r ((3, m) :: L)) = w (3, m) + lk_sw w r + lk_w w L
    rw [ih]
    show lk_sw w r + (w (3, m) + lk_w w L) = _
    omega
theorem lk_w_t (w : Nat × Nat → Nat) (lp : Nat → Bool) (f b : Nat) (S : List (Nat × Nat)) : lk_w w (lk_t lp f b S) = (if lp b = true then w (f, b) else 0) + lk_w w S := by
  unfold lk_t
  split
  · rfl
  · exact (Nat.zero_add _).symm
theorem lk_w_ex (w : Nat × Nat → Nat) (lp : Nat → Bool) (mu : Nat → List Nat) (ef : Nat → Nat → Nat) (kd fi se : Nat → Nat) (b : Nat) (S : List (Nat × Nat)) :
    lk_w w (lk_ex lp mu ef kd fi se b S) = (if lp b = true then w (1, b) else 0) + (if lp b = true then w (2, b) else 0) + lk_sw w (mu b) + w (5, b) + lk_w w (lk_way ef kd fi se b) + lk_w w (lk_ends (mu b)) + lk_w w S := by
  unfold lk_ex
  rw [lk_w_t, lk_w_scs]
  show _ + (_ + (w (5, b) + lk_w w (_ ++ (_ ++ _)))) = _
  rw [lk_w_a, lk_w_a, lk_w_t]
  omega
def lk_c (c : Nat) (i : Nat × Nat) : Nat := if (i.1 = 0 ∨ i.1 = 5) ∧ i.2 = c then 1 else 0
def lk_P (i : Nat × Nat) : Nat := if i.1 = 0 then 1 else 0
def lk_D (i : Nat × Nat) : Nat := if i.1 = 5 then 1 else 0
theorem lk_c_n {c f x : Nat} (h : f ≠ 0) (h' : f ≠ 5) : lk_c c (f, x) = 0 := if_neg (fun z => by rcases z.1 with y | y; exact h y; exact h' y)
theorem lk_c_0 (c x : Nat) : lk_c c (0, x) = if x = c then 1 else 0 := by
  unfold lk_c
  by_cases e : x = c
  · rw [if_pos ⟨Or.inl rfl, e⟩, if_pos e]
  · rw [if_neg (fun z => e z.2), if_neg e]
theorem lk_c_5 (c x : Nat) : lk_c c (5, x) = if x = c then 1 else 0 := by
  unfold lk_c
  by_cases e : x = c
  · rw [if_pos ⟨Or.inr rfl, e⟩, if_pos e]
  · rw [if_neg (fun z => e z.2), if_neg e]
theorem lk_sw_0 {w : Nat × Nat → Nat} (h : ∀ m, w (3, m) = 0) (ms : List Nat) : lk_sw w ms = 0 := by
  induction ms with
  | nil => rfl
  | cons m r ih =>
    show w (3, m) + lk_sw w r = 0
    rw [h, ih]
/-- how often c stands in a list -/
def lk_n (c : Nat) : List Nat → Nat
  | [] => 0
  | m :: r => (if m = c then 1 else 0) + lk_n c r
theorem lk_c_ends (c : Nat) (ms : List Nat) : lk_w (lk_c c) (lk_ends ms) = lk_n c ms := by
  induction ms with
  | nil => rfl
  | cons m r ih =>
    show lk_c c (4, m) + (lk_c c (0, m) + lk_w (lk_c c) (lk_ends r)) = (if m = c then 1 else 0) + lk_n c r
    rw [ih, lk_c_0, lk_c_n (by decide) (by decide), Nat.zero_add]
theorem lk_c_ex (c : Nat) (lp : Nat → Bool) (mu : Nat → List Nat) (ef : Nat → Nat → Nat) (kd fi se : Nat → Nat) (b : Nat) (S : List (Nat × Nat)) :
    lk_w (lk_c c) (lk_ex lp mu ef kd fi se b S) = (if b = c then 1 else 0) + lk_w (lk_c c) (lk_way ef kd fi se b) + lk_n c (mu b) + lk_w (lk_c c) S := by
  rw [lk_w_ex, lk_sw_0 (fun m => lk_c_n (by decide) (by decide)), lk_c_n (by decide) (by decide), lk_c_n (by decide) (by decide), lk_c_5, lk_c_ends]
  split <;> omega
theorem lk_1_ends (ms : List Nat) : lk_w (fun _ => 1) (lk_ends ms) = 2 * ms.length := by
  induction ms with
  | nil => rfl
  | cons m r ih =>
    show 1 + (1 + lk_w (fun _ => 1) (lk_ends r)) = 2 * (r.length + 1)
    omega
theorem lk_1_sw (ms : List Nat) : lk_sw (fun _ => 1) ms = ms.length := by
  induction ms with
  | nil => rfl
  | cons m r ih =>
    show 1 + lk_sw (fun _ => 1) r = r.length + 1
    omega
theorem lk_1_len (L : List (Nat × Nat)) : lk_w (fun _ => 1) L = L.length := by
  induction L with
  | nil => rfl
  | cons m r ih =>
    show 1 + lk_w (fun _ => 1) r = r.length + 1
    omega
theorem lk_P_ends (ms : List Nat) : lk_w lk_P (lk_ends ms) = ms.length := by
  induction ms with
  | nil => rfl
  | cons m r ih =>
    show 0 + (1 + lk_w lk_P (lk_ends r)) = r.length + 1
    omega
theorem lk_D_ends (ms : List Nat) : lk_w lk_D (lk_ends ms) = 0 := by
  induction ms with
  | nil => rfl
  | cons m r ih =>
    show 0 + (0 + lk_w lk_D (lk_ends r)) = 0
    omega
theorem lk_way_len (ef : Nat → Nat → Nat) (kd fi se : Nat → Nat) (b : Nat) : lk_w (fun _ => 1) (lk_way ef kd fi se b) ≤ 5 := by
  rw [lk_1_len]
  unfold lk_way
  split
  · exact (by decide : (1 : Nat) ≤ 5)
  · split
    · exact (by decide : (1 : Nat) ≤ 5)
    · exact (by decide : (5 : Nat) ≤ 5)
theorem lk_D_way (ef : Nat → Nat → Nat) (hef : ∀ b c, ef b c = 0 ∨ ef b c = 9 ∨ ef b c = 10) (kd fi se : Nat → Nat) (b : Nat) : lk_w lk_D (lk_way ef kd fi se b) = 0 := by
  have e : ∀ c x, lk_D (ef b c, x) = 0 := fun c x => if_neg (fun z => by have := hef b c; have z' : ef b c = 5 := z; omega)
  unfold lk_way
  split
  · rfl
  · split
    · show lk_D (ef b (fi b), fi b) + 0 = 0
      rw [e]
    · show 0 + (lk_D (ef b (fi b), fi b) + (0 + (lk_D (ef b (se b), se b) + (0 + 0)))) = 0
      rw [e, e]
theorem lk_nm_ex (lp : Nat → Bool) (mu : Nat → List Nat) (ef : Nat → Nat → Nat) (hef : ∀ b c, ef b c = 0 ∨ ef b c = 9 ∨ ef b c = 10) (kd fi se : Nat → Nat) (b : Nat) (S : List (Nat × Nat)) :
    (lk_ex lp mu ef kd fi se b S).length ≤ 8 + 3 * (mu b).length + S.length ∧ lk_w lk_P (lk_ex lp mu ef kd fi se b S) = lk_w lk_P (lk_way ef kd fi se b) + (mu b).length + lk_w lk_P S ∧ lk_w lk_D (lk_ex lp mu ef kd fi se b S) = 1 + lk_w lk_D S := by
  refine ⟨?_, ?_, ?_⟩
  · rw [← lk_1_len, ← lk_1_len S, lk_w_ex, lk_1_sw, lk_1_ends]
    have := lk_way_len ef kd fi se b
    split <;> omega
  · rw [lk_w_ex, lk_sw_0 (fun m => rfl), lk_P_ends]
    show (if lp b = true then 0 else 0) + (if lp b = true then 0 else 0) + 0 + 0 + _ + _ + _ = _
    split <;> omega
  · rw [lk_w_ex, lk_sw_0 (fun m => rfl), lk_D_ends, lk_D_way ef hef]
    show (if lp b = true then 0 else 0) + (if lp b = true then 0 else 0) + 0 + 1 + 0 + 0 + _ = _
    split <;> omega
/-- the blocks below n, summed -/
def lk_sm (L : List (Nat × Nat)) : Nat → Nat
  | 0 => 0
  | n + 1 => lk_sm L n + lk_w (lk_c n) L
theorem lk_sm_c (i : Nat × Nat) (r : List (Nat × Nat)) (n : Nat) : lk_sm (i :: r) n = lk_sm r n + (if (i.1 = 0 ∨ i.1 = 5) ∧ i.2 < n then 1 else 0) := by
  induction n with
  | zero =>
    rw [if_neg (fun z => Nat.not_lt_zero _ z.2)]
    rfl
  | succ n ih =>
    show lk_sm (i :: r) n + (lk_c n i + lk_w (lk_c n) r) = lk_sm r n + lk_w (lk_c n) r + _
    rw [ih]
    unfold lk_c
    by_cases h : i.1 = 0 ∨ i.1 = 5
    · by_cases e : i.2 = n
      · rw [if_neg (fun z => by have := z.2; omega), if_pos ⟨h, e⟩, if_pos ⟨h, by omega⟩]
        omega
      · by_cases l : i.2 < n
        · rw [if_pos ⟨h, l⟩, if_neg (fun z => e z.2), if_pos ⟨h, by omega⟩]
          omega
        · rw [if_neg (fun z => l z.2), if_neg (fun z => e z.2), if_neg (fun z => by have := z.2; omega)]
          omega
    · rw [if_neg (fun z => h z.1), if_neg (fun z => h z.1), if_neg (fun z => h z.1)]
      omega
theorem lk_sm_8 (L : List (Nat × Nat)) (h : ∀ i, i ∈ L → (i.1 = 0 ∨ i.1 = 5) → i.2 < 8) : lk_sm L 8 = lk_w lk_P L + lk_w lk_D L := by
  induction L with
  | nil => rfl
  | cons i r ih =>
    have a := ih (fun j hj => h j (List.mem_cons_of_mem _ hj))
    have b := h i (List.mem_cons_self ..)
    rw [lk_sm_c]
    show _ = lk_P i + lk_w lk_P r + (lk_D i + lk_w lk_D r)
    rw [show lk_P i = (if i.1 = 0 then 1 else 0) from rfl, show lk_D i = (if i.1 = 5 then 1 else 0) from rfl]
    by_cases e0 : i.1 = 0
    · rw [if_pos ⟨Or.inl e0, b (Or.inl e0)⟩, if_pos e0, if_neg (by omega)]
      omega
    · by_cases e5 : i.1 = 5
      · rw [if_pos ⟨Or.inr e5, b (Or.inr e5)⟩, if_neg e0, if_pos e5]
        omega
      · rw [if_neg (fun z => by rcases z.1 with y | y; exact e0 y; exact e5 y), if_neg e0, if_neg e5]
        omega
theorem lk_c_mem {c : Nat} {L : List (Nat × Nat)} (h : 0 < lk_w (lk_c c) L) : (0, c) ∈ L ∨ (5, c) ∈ L := by
  induction L with
  | nil => exact absurd h (Nat.lt_irrefl 0)
  | cons i r ih =>
    have h' : 0 < lk_c c i + lk_w (lk_c c) r := h
    by_cases e : (i.1 = 0 ∨ i.1 = 5) ∧ i.2 = c
    · obtain ⟨e1, e2⟩ := e
      obtain ⟨f, x⟩ := i
      have e2' : x = c := e2
      subst e2'
      rcases e1 with e1 | e1
      · have e1' : f = 0 := e1
        subst e1'
        exact Or.inl (List.mem_cons_self ..)
      · have e1' : f = 5 := e1
        subst e1'
        exact Or.inr (List.mem_cons_self ..)
    · have z : lk_c c i = 0 := if_neg e
      rw [z, Nat.zero_add] at h'
      rcases ih h' with y | y
      · exact Or.inl (List.mem_cons_of_mem _ y)
      · exact Or.inr (List.mem_cons_of_mem _ y)
theorem lk_mem_c {c f : Nat} (hf : f = 0 ∨ f = 5) {L : List (Nat × Nat)} (h : (f, c) ∈ L) : 0 < lk_w (lk_c c) L := by
  induction L with
  | nil => cases h
  | cons i r ih =>
    show 0 < lk_c c i + lk_w (lk_c c) r
    rcases List.mem_cons.mp h with e | e
    · have z : lk_c c i = 1 := by
        rw [← e]
        exact if_pos ⟨hf, rfl⟩
      omega
    · have := ih e
      omega
end
section
/-! the invariant of written and pending forms -/
theorem lk_m_scs (i : Nat × Nat) : ∀ (ms : List Nat) (L : List (Nat × Nat)), i ∈ lk_scs ms L ↔ (∃ m, m ∈ ms ∧ i = (3, m)) ∨ i ∈ L := by
  intro ms
  induction ms with
  | nil =>
    intro L
    exact ⟨fun h => Or.inr h, fun h => by
      rcases h with ⟨m, hm, _⟩ | h
      · cases hm
      · exact h⟩
  | cons m r ih =>
    intro L
    show i ∈ lk_scs r ((3, m) :: L) ↔ _
    rw [ih]
    constructor
    · rintro (⟨x, hx, e⟩ | h)
      · exact Or.inl ⟨x, List.mem_cons_of_mem _ hx, e⟩
      · rcases List.mem_cons.mp h with e | e
        · exact Or.inl ⟨m, List.mem_cons_self .., e⟩
        · exact Or.inr e
    · rintro (⟨x, hx, e⟩ | h)
      · rcases List.mem_cons.mp hx with y | y
        · subst y
          exact Or.inr (List.mem_cons.mpr (Or.inl e))
        · exact Or.inl ⟨x, y, e⟩
      · exact Or.inr (List.mem_cons_of_mem _ h)
theorem lk_m_ends (i : Nat × Nat) (ms : List Nat) : i ∈ lk_ends ms ↔ ∃ m, m ∈ ms ∧ (i = (4, m) ∨ i = (0, m)) := by
  induction ms with
  | nil => exact ⟨fun h => (by cases h), fun ⟨m, h, _⟩ => by cases h⟩
  | cons m r ih =>
    show i ∈ (4, m) :: (0, m) :: lk_ends r ↔ _
    rw [List.mem_cons, List.mem_cons, ih]
    constructor
    · rintro (h | h | ⟨x, hx, e⟩)
      · exact ⟨m, List.mem_cons_self .., Or.inl h⟩
      · exact ⟨m, List.mem_cons_self .., Or.inr h⟩
      · exact ⟨x, List.mem_cons_of_mem _ hx, e⟩
    · rintro ⟨x, hx, e⟩
      rcases List.mem_cons.mp hx with y | y
      · subst y
        rcases e with e | e
        · exact Or.inl e
        · exact Or.inr (Or.inl e)
      · exact Or.inr (Or.inr ⟨x, y, e⟩)
theorem lk_m_t (i : Nat × Nat) (lp : Nat → Bool) (f b : Nat) (S : List (Nat × Nat)) : i ∈ lk_t lp f b S ↔ (lp b = true ∧ i = (f, b)) ∨ i ∈ S := by
  unfold lk_t
  split
  · rename_i h
    rw [List.mem_cons]
    exact ⟨fun z => by
      rcases z with z | z
      · exact Or.inl ⟨h, z⟩
      · exact Or.inr z, fun z => by
      rcases z with z | z
      · exact Or.inl z.2
      · exact Or.inr z⟩
  · rename_i h
    exact ⟨fun z => Or.inr z, fun z => by
      rcases z with z | z
      · exact absurd z.1 h
      · exact z⟩
section
variable (lp : Nat → Bool) (mu : Nat → List Nat) (ef : Nat → Nat → Nat) (kd fi se : Nat → Nat)
theorem lk_m_ex (i : Nat × Nat) (b : Nat) (S : List (Nat × Nat)) : i ∈ lk_ex lp mu ef kd fi se b S ↔ (lp b = true ∧ i = (1, b)) ∨ (∃ m, m ∈ mu b ∧ i = (3, m)) ∨ i = (5, b) ∨ i ∈ lk_way ef kd fi se b ∨ i ∈ lk_ends (mu b) ∨ (lp b = true ∧ i = (2, b)) ∨ i ∈ S := by
  unfold lk_ex
  rw [lk_m_t, lk_m_scs, List.mem_cons, List.mem_append, List.mem_append, lk_m_t]
theorem lk_m_way (hef : ∀ b c, ef b c = 0 ∨ ef b c = 9 ∨ ef b c = 10) (x b : Nat) : ¬ (5, x) ∈ lk_way ef kd fi se b := by
  have e : ∀ c y, ¬ ((5, x) : Nat × Nat) = (ef b c, y) := by
    intro c y z
    injection z with z1 z2
    have := hef b c
    omega
  unfold lk_way
  split
  · intro h
    rcases List.mem_cons.mp h with h | h
    · injection h with h1 _
      exact absurd h1 (by decide)
    · cases h
  · split
    · intro h
      rcases List.mem_cons.mp h with h | h
      · exact e _ _ h
      · cases h
    · intro h
      rcases List.mem_cons.mp h with h | h
      · injection h with h1 _
        exact absurd h1 (by decide)
      · rcases List.mem_cons.mp h with h | h
        · exact e _ _ h
        · rcases List.mem_cons.mp h with h | h
          · injection h with h1 _
            exact absurd h1 (by decide)
          · rcases List.mem_cons.mp h with h | h
            · exact e _ _ h
            · rcases List.mem_cons.mp h with h | h
              · injection h with h1 _
                exact absurd h1 (by decide)
              · cases h
theorem lk_m_5 (hef : ∀ b c, ef b c = 0 ∨ ef b c = 9 ∨ ef b c = 10) {x b : Nat} {S : List (Nat × Nat)} (h : (5, x) ∈ lk_ex lp mu ef kd fi se b S) : x = b ∨ (5, x) ∈ S := by
  rcases (lk_m_ex lp mu ef kd fi se _ b S).mp h with ⟨_, z⟩ | ⟨m, _, z⟩ | z | z | z | ⟨_, z⟩ | z
  · injection z with z1 _
    exact absurd z1 (by decide)
  · injection z with z1 _
    exact absurd z1 (by decide)
  · injection z with z1 z2
    exact Or.inl z2
  · exact absurd z (lk_m_way ef kd fi se hef x b)
  · obtain ⟨m, _, z⟩ := (lk_m_ends _ _).mp z
    rcases z with z | z
    · injection z with z1 _
      exact absurd z1 (by decide)
    · injection z with z1 _
      exact absurd z1 (by decide)
  · injection z with z1 _
    exact absurd z1 (by decide)
  · exact Or.inr z
variable (ch : Nat → Nat → Prop) (lv : Nat → Prop)
def lk_I (Z : List (Nat × Nat)) : Prop :=
  lk_ok ef kd fi se Z ∧ (∀ c, lk_w (lk_c c) Z ≤ 1) ∧ (∀ c, c ≠ 0 → 0 < lk_w (lk_c c) Z → ∃ b, ch b c ∧ (5, b) ∈ Z) ∧ (∀ c, 0 < lk_w (lk_c c) Z → lv c) ∧
  (∀ b, (5, b) ∈ Z → (lp b = true → (1, b) ∈ Z) ∧ (kd b ≠ 0 → ¬ (kd b = 1 ∨ fi b = se b) → (7, b) ∈ Z) ∧ (∀ m, m ∈ mu b → (4, m) ∈ Z) ∧ (∀ c, ch b c → 0 < lk_w (lk_c c) Z)) ∧
  0 < lk_w (lk_c 0) Z ∧ Z.length + 7 * lk_w lk_P Z + 2 ≤ 10 * (lk_w lk_P Z + lk_w lk_D Z)
/-- what the shape of the program gives -/
def lk_H : Prop :=
  (∀ b c, ef b c = 0 ∨ ef b c = 9 ∨ ef b c = 10) ∧ (∀ c, lv c → c < 8) ∧ lv 0 ∧ (∀ b b' c, ch b c → ch b' c → b = b') ∧ (∀ b c, ch b c → b ≠ c ∧ c ≠ 0 ∧ lv c) ∧
  (∀ b c, lv b → lk_w (lk_c c) (lk_way ef kd fi se b) + lk_n c (mu b) ≤ 1) ∧
  (∀ b c, lv b → 0 < lk_w (lk_c c) (lk_way ef kd fi se b) + lk_n c (mu b) → ch b c) ∧
  (∀ b c, lv b → ch b c → 0 < lk_w (lk_c c) (lk_way ef kd fi se b) + lk_n c (mu b))
theorem lk_I_0 (H : lk_H mu ef kd fi se ch lv) : lk_I lp mu ef kd fi se ch lv [(0, 0)] := by
  have cz : ∀ c, lk_w (lk_c c) [(0, 0)] = if 0 = c then 1 else 0 := by
    intro c
    show lk_c c (0, 0) + 0 = _
    rw [lk_c_0, Nat.add_zero]
  refine ⟨⟨fun z => (by cases z), fun z => (by cases z), fun z => (by cases z), fun z => (by cases z), trivial⟩, fun c => ?_, fun c hc h => ?_, fun c h => ?_, fun b h => ?_, ?_, by decide⟩
  · rw [cz]
    split <;> omega
  · rw [cz, if_neg (fun z => hc z.symm)] at h
    exact absurd h (Nat.lt_irrefl 0)
  · rw [cz] at h
    by_cases e : 0 = c
    · rw [← e]
      exact H.2.2.1
    · rw [if_neg e] at h
      exact absurd h (Nat.lt_irrefl 0)
  · rcases List.mem_cons.mp h with h | h
    · injection h with h1 _
      exact absurd h1 (by decide)
    · cases h
  · rw [cz, if_pos rfl]
    exact Nat.one_pos
theorem lk_I_r (H : lk_H mu ef kd fi se ch lv) (A S : List (Nat × Nat)) (b : Nat) (I : lk_I lp mu ef kd fi se ch lv (A ++ (0, b) :: S)) : lk_I lp mu ef kd fi se ch lv (A ++ lk_ex lp mu ef kd fi se b S) := by
  obtain ⟨hef, hl8, hl0, hu, hn, h1, h2, h3⟩ := H
  obtain ⟨i1, i2, i3, i4, i5, i6, i7⟩ := I
  have wZ : ∀ w : Nat × Nat → Nat, lk_w w (A ++ (0, b) :: S) = lk_w w A + (w (0, b) + lk_w w S) := fun w => lk_w_a w A _
  have wZ' : ∀ w : Nat × Nat → Nat, lk_w w (A ++ lk_ex lp mu ef kd fi se b S) = lk_w w A + lk_w w (lk_ex lp mu ef kd fi se b S) := fun w => lk_w_a w A _
  have cc : ∀ c, lk_w (lk_c c) (A ++ lk_ex lp mu ef kd fi se b S) = lk_w (lk_c c) (A ++ (0, b) :: S) + (lk_w (lk_c c) (lk_way ef kd fi se b) + lk_n c (mu b)) := by
    intro c
    rw [wZ, wZ', lk_c_ex, lk_c_0]
    omega
  have inZ : 0 < lk_w (lk_c b) (A ++ (0, b) :: S) := by
    rw [wZ, lk_c_0, if_pos rfl]
    omega
  have hb : lv b := i4 b inZ
  have no5 : ¬ (5, b) ∈ A ++ (0, b) :: S := by
    intro h
    have a := i2 b
    rw [wZ, lk_c_0, if_pos rfl] at a
    rcases List.mem_append.mp h with h | h
    · have := lk_mem_c (Or.inr rfl) h
      omega
    · rcases List.mem_cons.mp h with h | h
      · injection h with h1 _
        exact absurd h1 (by decide)
      · have := lk_mem_c (Or.inr rfl) h
        omega
  have fresh : ∀ c, 0 < lk_w (lk_c c) (lk_way ef kd fi se b) + lk_n c (mu b) → lk_w (lk_c c) (A ++ (0, b) :: S) = 0 := by
    intro c hk
    have hc := h2 b c hb hk
    apply Classical.byContradiction
    intro n
    obtain ⟨b', hb', m⟩ := i3 c (hn b c hc).2.1 (by omega)
    rw [hu b' b c hb' hc] at m
    exact no5 m
  have up : ∀ i : Nat × Nat, i.1 ≠ 0 → i ∈ A ++ (0, b) :: S → i ∈ A ++ lk_ex lp mu ef kd fi se b S := by
    intro i hi h
    rcases List.mem_append.mp h with h | h
    · exact List.mem_append.mpr (Or.inl h)
    · rcases List.mem_cons.mp h with h | h
      · rw [h] at hi
        exact absurd rfl hi
      · exact List.mem_append.mpr (Or.inr ((lk_m_ex lp mu ef kd fi se i b S).mpr (Or.inr (Or.inr (Or.inr (Or.inr (Or.inr (Or.inr h))))))))
  have inx : ∀ i, i ∈ lk_ex lp mu ef kd fi se b S → i ∈ A ++ lk_ex lp mu ef kd fi se b S := fun i h => List.mem_append.mpr (Or.inr h)
  have new5 : (5, b) ∈ A ++ lk_ex lp mu ef kd fi se b S := inx _ ((lk_m_ex lp mu ef kd fi se _ b S).mpr (Or.inr (Or.inr (Or.inl rfl))))
  refine ⟨lk_ok_r lp mu ef kd fi se hef b S A i1, fun c => ?_, fun c hc h => ?_, fun c h => ?_, fun b' h => ?_, ?_, ?_⟩
  · rw [cc]
    have a := h1 b c hb
    have d := i2 c
    rcases Nat.eq_zero_or_pos (lk_w (lk_c c) (lk_way ef kd fi se b) + lk_n c (mu b)) with e | e
    · omega
    · have := fresh c e
      omega
  · rw [cc] at h
    rcases Nat.eq_zero_or_pos (lk_w (lk_c c) (lk_way ef kd fi se b) + lk_n c (mu b)) with e | e
    · obtain ⟨b', hb', m⟩ := i3 c hc (by omega)
      exact ⟨b', hb', up _ (by decide : (5 : Nat) ≠ 0) m⟩
    · exact ⟨b, h2 b c hb e, new5⟩
  · rw [cc] at h
    rcases Nat.eq_zero_or_pos (lk_w (lk_c c) (lk_way ef kd fi se b) + lk_n c (mu b)) with e | e
    · exact i4 c (by omega)
    · exact (hn b c (h2 b c hb e)).2.2
  · have old : (5, b') ∈ A ++ (0, b) :: S ∨ b' = b := by
      rcases List.mem_append.mp h with h | h
      · exact Or.inl (List.mem_append.mpr (Or.inl h))
      · rcases lk_m_5 lp mu ef kd fi se hef h with h | h
        · exact Or.inr h
        · exact Or.inl (List.mem_append.mpr (Or.inr (List.mem_cons_of_mem _ h)))
    rcases old with o | o
    · obtain ⟨o1, o2, o3, o4⟩ := i5 b' o
      refine ⟨fun z => up _ (by decide : (1 : Nat) ≠ 0) (o1 z), fun z y => up _ (by decide : (7 : Nat) ≠ 0) (o2 z y), fun m hm => up _ (by decide : (4 : Nat) ≠ 0) (o3 m hm), fun c hc => ?_⟩
      rw [cc]
      have := o4 c hc
      omega
    · subst o
      refine ⟨fun z => inx _ ((lk_m_ex lp mu ef kd fi se _ b' S).mpr (Or.inl ⟨z, rfl⟩)), fun z y => inx _ ((lk_m_ex lp mu ef kd fi se _ b' S).mpr (Or.inr (Or.inr (Or.inr (Or.inl ?_))))), fun m hm => inx _ ((lk_m_ex lp mu ef kd fi se _ b' S).mpr (Or.inr (Or.inr (Or.inr (Or.inr (Or.inl ((lk_m_ends _ _).mpr ⟨m, hm, Or.inl rfl⟩))))))), fun c hc => ?_⟩
      · unfold lk_way
        rw [if_neg z, if_neg y]
        exact List.mem_cons_of_mem _ (List.mem_cons_of_mem _ (List.mem_cons_self ..))
      · rw [cc]
        have := h3 b' c hb hc
        omega
  · rw [cc]
    omega
  · obtain ⟨e1, e2, e3⟩ := lk_nm_ex lp mu ef hef kd fi se b S
    have p := wZ lk_P
    have p' := wZ' lk_P
    have d := wZ lk_D
    have d' := wZ' lk_D
    have p0 : lk_P (0, b) = 1 := rfl
    have d0 : lk_D (0, b) = 0 := rfl
    rw [List.length_append, List.length_cons] at i7
    rw [List.length_append]
    omega
theorem lk_I_n (H : lk_H mu ef kd fi se ch lv) {Z : List (Nat × Nat)} (I : lk_I lp mu ef kd fi se ch lv Z) : lk_w lk_P Z + lk_w lk_D Z ≤ 8 ∧ Z.length ≤ 78 := by
  obtain ⟨hef, hl8, hl0, hu, hn, h1, h2, h3⟩ := H
  obtain ⟨i1, i2, i3, i4, i5, i6, i7⟩ := I
  have s : ∀ n, lk_sm Z n ≤ n := by
    intro n
    induction n with
    | zero => exact Nat.le_refl 0
    | succ n ih =>
      show lk_sm Z n + lk_w (lk_c n) Z ≤ n + 1
      have := i2 n
      omega
  have e : lk_sm Z 8 = lk_w lk_P Z + lk_w lk_D Z := by
    apply lk_sm_8
    intro i hi hf
    apply hl8
    apply i4
    obtain ⟨f, x⟩ := i
    exact lk_mem_c hf hi
  have := s 8
  exact ⟨by omega, by omega⟩
end
end
section
/-! the ways on as naturals, and what the component's code takes of them -/
def tm (kd fi se : Nat → Nat) (b : Nat) : Int32 := if kd b = 0 then 0 else if 2 ≤ kd b then rb_p (fi b) ||| rb_p (se b) else rb_p (fi b)
/-- the ways on hold what way lets in -/
def vk (kd fi se : Nat → Nat) : Prop := ∀ b, b < 8 → kd b ≤ 4 ∧ (kd b ≠ 0 → fi b < 8) ∧ (2 ≤ kd b → se b < 8)
/-- three arrays that hold them -/
def vw (wk wf ws : Nat → Int32) (kd fi se : Nat → Nat) : Prop :=
  ∀ b, b < 8 → wk b = nI (kd b) ∧ (kd b ≠ 0 → wf b = nI (fi b)) ∧ (2 ≤ kd b → ws b = nI (se b))
theorem tg_iff {kd fi se : Nat → Nat} (V : vk kd fi se) {b : Nat} (hb : b < 8) (c : Nat) :
    bt (tm kd fi se b) c = true ↔ kd b ≠ 0 ∧ (c = fi b ∨ (2 ≤ kd b ∧ c = se b)) := by
  obtain ⟨v2, v3, v4⟩ := V b hb
  unfold tm
  by_cases k0 : kd b = 0
  · rw [if_pos k0, b_0]
    exact ⟨fun z => (by cases z), fun z => absurd k0 z.1⟩
  · have f2 := v3 k0
    rw [if_neg k0]
    by_cases k2 : 2 ≤ kd b
    · have s2 := v4 k2
      rw [if_pos k2, b_or, rb_pb (by omega), rb_pb (by omega), Bool.or_eq_true, decide_eq_true_iff, decide_eq_true_iff]
      constructor
      · rintro (h | h)
        · exact ⟨k0, Or.inl h⟩
        · exact ⟨k0, Or.inr ⟨k2, h⟩⟩
      · rintro ⟨_, h | h⟩
        · exact Or.inl h
        · exact Or.inr h.2
    · rw [if_neg k2, rb_pb (by omega), decide_eq_true_iff]
      constructor
      · exact fun h => ⟨k0, Or.inl h⟩
      · rintro ⟨_, h | h⟩
        · exact h
        · exact absurd h.1 k2
theorem tg_lo {kd fi se : Nat → Nat} (V : vk kd fi se) : rt_lo (tm kd fi se) := by
  intro b hb i hi
  apply rb_tf
  intro z
  obtain ⟨v2, v3, v4⟩ := V b hb
  obtain ⟨z1, z2⟩ := (tg_iff V hb i).mp z
  rcases z2 with z2 | ⟨z2, z3⟩
  · have := v3 z1
    omega
  · have := v4 z2
    omega
/-- the form of an edge -/
def ef (T : Nat → Int32) (b c : Nat) : Nat := if bt (rd T b) c = true then 10 else if bt (rm T) c = true then 9 else 0
theorem ef_3 (T : Nat → Int32) (b c : Nat) : ef T b c = 0 ∨ ef T b c = 9 ∨ ef T b c = 10 := by
  unfold ef
  split
  · exact Or.inr (Or.inr rfl)
  · split
    · exact Or.inr (Or.inl rfl)
    · exact Or.inl rfl
theorem ef_0 {T : Nat → Int32} {b c : Nat} : ef T b c = 0 ↔ bt (rd T b) c = false ∧ bt (rm T) c = false := by
  unfold ef
  constructor
  · intro h
    split at h
    · exact absurd h (by decide)
    · split at h
      · exact absurd h (by decide)
      · rename_i h1 h2
        exact ⟨rb_tf h1, rb_tf h2⟩
  · rintro ⟨h1, h2⟩
    rw [if_neg (by rw [h1]; decide), if_neg (by rw [h2]; decide)]
/-- c is a merge whose code stands behind the scope of b -/
def mub (T : Nat → Int32) (b c : Nat) : Bool := bt (rm T) c && decide (rd T b = (rd T c &&& (rb_p c ^^^ (-1))))
def mul (T : Nat → Int32) (ol : List Nat) (b : Nat) : List Nat := ol.filter (mub T b)
def lps (T : Nat → Int32) (b : Nat) : Bool := bt (rl T) b
theorem lk_n_f (c : Nat) (p : Nat → Bool) (l : List Nat) : lk_n c (l.filter p) = if p c = true then lk_n c l else 0 := by
  induction l with
  | nil =>
    split <;> rfl
  | cons m r ih =>
    rw [List.filter_cons]
    by_cases e : p m = true
    · rw [if_pos e]
      show (if m = c then 1 else 0) + lk_n c (r.filter p) = if p c = true then (if m = c then 1 else 0) + lk_n c r else 0
      rw [ih]
      by_cases y : p c = true
      · rw [if_pos y, if_pos y]
      · have ne : ¬ m = c := fun z => y (by rw [← z]; exact e)
        rw [if_neg y, if_neg y, if_neg ne]
    · rw [if_neg e, ih]
      show _ = if p c = true then (if m = c then 1 else 0) + lk_n c r else 0
      by_cases y : p c = true
      · have ne : ¬ m = c := fun z => e (by rw [z]; exact y)
        rw [if_pos y, if_pos y, if_neg ne, Nat.zero_add]
      · rw [if_neg y, if_neg y]
theorem lk_n_m {c : Nat} {l : List Nat} : 0 < lk_n c l ↔ c ∈ l := by
  induction l with
  | nil => exact ⟨fun h => absurd h (Nat.lt_irrefl 0), fun h => by cases h⟩
  | cons m r ih =>
    show 0 < (if m = c then 1 else 0) + lk_n c r ↔ _
    rw [List.mem_cons, ← ih]
    by_cases e : m = c
    · rw [if_pos e]
      exact ⟨fun _ => Or.inl e.symm, fun _ => by omega⟩
    · rw [if_neg e, Nat.zero_add]
      exact ⟨fun h => Or.inr h, fun h => by
        rcases h with h | h
        · exact absurd h.symm e
        · exact h⟩
theorem lk_c_e (T : Nat → Int32) (b f c : Nat) : lk_c c (ef T b f, f) = if ef T b f = 0 ∧ f = c then 1 else 0 := by
  unfold lk_c
  have h := ef_3 T b f
  by_cases e : ef T b f = 0 ∧ f = c
  · rw [if_pos ⟨Or.inl e.1, e.2⟩, if_pos e]
  · rw [if_neg e, if_neg (fun z => e ⟨by
      have z1 : ef T b f = 0 ∨ ef T b f = 5 := z.1
      omega, z.2⟩)]
theorem wy_c {kd fi se : Nat → Nat} (V : vk kd fi se) {T : Nat → Int32} (hT : T = tm kd fi se) {b : Nat} (hb : b < 8) (c : Nat) :
    lk_w (lk_c c) (lk_way (ef T) kd fi se b) = if bt (T b) c = true ∧ ef T b c = 0 then 1 else 0 := by
  have ti := tg_iff V hb c
  rw [← hT] at ti
  obtain ⟨v2, v3, v4⟩ := V b hb
  unfold lk_way
  by_cases k0 : kd b = 0
  · rw [if_pos k0, if_neg (fun z => (ti.mp z.1).1 k0)]
    show lk_c c (11, b) + 0 = 0
    rw [lk_c_n (by decide) (by decide)]
  · rw [if_neg k0]
    by_cases k1 : kd b = 1 ∨ fi b = se b
    · rw [if_pos k1]
      show lk_c c (ef T b (fi b), fi b) + 0 = _
      rw [lk_c_e, Nat.add_zero]
      by_cases e : fi b = c
      · subst e
        by_cases z : ef T b (fi b) = 0
        · rw [if_pos ⟨z, rfl⟩, if_pos ⟨ti.mpr ⟨k0, Or.inl rfl⟩, z⟩]
        · rw [if_neg (fun y => z y.1), if_neg (fun y => z y.2)]
      · rw [if_neg (fun y => e y.2), if_neg (fun y => by
          rcases (ti.mp y.1).2 with q | ⟨q1, q2⟩
          · exact e q.symm
          · rcases k1 with k1 | k1
            · omega
            · exact e (k1.trans q2.symm))]
    · rw [if_neg k1]
      show lk_c c (6, b) + (lk_c c (ef T b (fi b), fi b) + (lk_c c (7, b) + (lk_c c (ef T b (se b), se b) + (lk_c c (8, b) + 0)))) = _
      rw [lk_c_e, lk_c_e, lk_c_n (by decide) (by decide), lk_c_n (by decide) (by decide), lk_c_n (by decide) (by decide)]
      have k2 : 2 ≤ kd b := by omega
      by_cases e : fi b = c
      · subst e
        rw [if_neg (fun y : ef T b (se b) = 0 ∧ se b = fi b => k1 (Or.inr y.2.symm))]
        by_cases z : ef T b (fi b) = 0
        · rw [if_pos ⟨z, rfl⟩, if_pos ⟨ti.mpr ⟨k0, Or.inl rfl⟩, z⟩]
        · rw [if_neg (fun y => z y.1), if_neg (fun y => z y.2)]
      · rw [if_neg (fun y : ef T b (fi b) = 0 ∧ fi b = c => e y.2)]
        by_cases e2 : se b = c
        · subst e2
          by_cases z : ef T b (se b) = 0
          · rw [if_pos ⟨z, rfl⟩, if_pos ⟨ti.mpr ⟨k0, Or.inr ⟨k2, rfl⟩⟩, z⟩]
          · rw [if_neg (fun y => z y.1), if_neg (fun y => z y.2)]
        · rw [if_neg (fun y => e2 y.2), if_neg (fun y => by
            rcases (ti.mp y.1).2 with q | ⟨q1, q2⟩
            · exact e q.symm
            · exact e2 q2.symm)]
theorem mub_iff (T : Nat → Int32) (b c : Nat) : mub T b c = true ↔ bt (rm T) c = true ∧ rd T b = (rd T c &&& (rb_p c ^^^ (-1))) := by
  unfold mub
  rw [Bool.and_eq_true, decide_eq_true_iff]
/-- the order lists the live blocks, each once -/
def olk (T : Nat → Int32) (ol : List Nat) : Prop := (∀ c, lk_n c ol ≤ 1) ∧ ∀ c, c ∈ ol ↔ rv T c
theorem sh_H {kd fi se : Nat → Nat} (V : vk kd fi se) {T : Nat → Int32} (hT : T = tm kd fi se) {ol : List Nat} (O : olk T ol) :
    lk_H (mul T ol) (ef T) kd fi se (rk T) (rv T) := by
  have tl : rt_lo T := by
    rw [hT]
    exact tg_lo V
  have nm : ∀ b c, lk_n c (mul T ol b) = if mub T b c = true then lk_n c ol else 0 := fun b c => lk_n_f c (mub T b) ol
  refine ⟨ef_3 T, fun c h => rr_lt tl h, rv_0, fun b b' c h h' => rk_u tl h h', fun b c h => ⟨rk_ne tl h, rk_0 tl h, h.2.2.2.1⟩, fun b c hb => ?_, fun b c hb h => ?_, fun b c hb h => ?_⟩
  · rw [wy_c V hT (rr_lt tl hb), nm]
    have := O.1 c
    by_cases w : bt (T b) c = true ∧ ef T b c = 0
    · rw [if_pos w, if_neg (fun y => by
        have y1 := ((mub_iff T b c).mp y).1
        rw [(ef_0.mp w.2).2] at y1
        cases y1)]
      exact Nat.le_refl 1
    · rw [if_neg w]
      split <;> omega
  · have b8 := rr_lt tl hb
    rw [wy_c V hT b8, nm] at h
    by_cases w : bt (T b) c = true ∧ ef T b c = 0
    · obtain ⟨w1, w2⟩ := w
      obtain ⟨w3, w4⟩ := ef_0.mp w2
      refine ⟨b8, rs_lt8 (tl b b8) w1, hb, rv_s b8 hb w1, Or.inr ⟨w4, ?_⟩⟩
      unfold rf
      rw [rb_an, (rg_iff tl b c).mpr ⟨hb, w1⟩, w3]
      rfl
    · rw [if_neg w, Nat.zero_add] at h
      by_cases y : mub T b c = true
      · rw [if_pos y] at h
        have hc := (O.2 c).mp (lk_n_m.mp h)
        obtain ⟨y1, y2⟩ := (mub_iff T b c).mp y
        exact ⟨b8, rr_lt tl hc, hb, hc, Or.inl ⟨y1, y2⟩⟩
      · rw [if_neg y] at h
        exact absurd h (Nat.lt_irrefl 0)
  · have b8 := rr_lt tl hb
    rw [wy_c V hT b8, nm]
    obtain ⟨_, c8, _, hc, h5⟩ := h
    rcases h5 with ⟨m, e⟩ | ⟨m, e⟩
    · have p : 0 < lk_n c ol := lk_n_m.mpr ((O.2 c).mpr hc)
      rw [if_pos ((mub_iff T b c).mpr ⟨m, e⟩)]
      omega
    · obtain ⟨a1, a2, a3⟩ := (rf_iff tl b8 c).mp e
      rw [if_pos ⟨a2, ef_0.mpr ⟨rb_tf (fun y => ((rd_iff tl b c).mp y).2.2 a3), m⟩⟩]
      omega
theorem sh_all {kd fi se : Nat → Nat} (V : vk kd fi se) {T : Nat → Int32} (hT : T = tm kd fi se) {ol : List Nat} {lp : Nat → Bool} {Z : List (Nat × Nat)}
    (I : lk_I lp (mul T ol) (ef T) kd fi se (rk T) (rv T) Z) (hP : ∀ x, ¬ (0, x) ∈ Z) : ∀ c, rv T c → (5, c) ∈ Z := by
  have tl : rt_lo T := by
    rw [hT]
    exact tg_lo V
  obtain ⟨i1, i2, i3, i4, i5, i6, i7⟩ := I
  have pre : ∀ c, 0 < lk_w (lk_c c) Z → (5, c) ∈ Z := by
    intro c h
    rcases lk_c_mem h with y | y
    · exact absurd y (hP c)
    · exact y
  have k : ∀ n c, rs_cn (bt (rd T c)) 8 < n → rv T c → (5, c) ∈ Z := by
    intro n
    induction n with
    | zero => exact fun c h => absurd h (Nat.not_lt_zero _)
    | succ n ih =>
      intro c h hc
      by_cases e : c = 0
      · subst e
        exact pre 0 i6
      · obtain ⟨b, hb, l⟩ := rk_ex tl hc e
        have b5 := ih b (by omega) hb.2.2.1
        exact pre c ((i5 b b5).2.2.2 c hb)
  exact fun c hc => k _ c (Nat.lt_succ_self _) hc
end
section
/-! the run as a pure walk of the blocks: registers, numbers put out (the last first), visits, blocks carried out, outcome -/
def pu_rg (ac : Nat → Nat) (an : Nat → Int32) (b : Nat) (rg : Nat → Int32) : Nat → Int32 :=
  if 7 ≤ ac b then upd rg (ac b - 7) (rg (an b).toNatClampNeg) else if 4 ≤ ac b then rg else if 1 ≤ ac b then upd rg (ac b - 1) (rg (ac b - 1) + an b) else rg
def pu_os (ac : Nat → Nat) (b : Nat) (rg : Nat → Int32) (os : List Int32) : List Int32 := if 4 ≤ ac b ∧ ac b < 7 then rg (ac b - 4) :: os else os
def pu_vs (b : Nat) (vs : Nat → Int32) : Nat → Int32 := upd vs b (vs b + 1)
def pu_nx (kd fi se : Nat → Nat) (b : Nat) (rg : Nat → Int32) : Nat := if kd b = 1 ∨ 0 < rg (kd b - 2) then fi b else se b
def pu (ac : Nat → Nat) (an : Nat → Int32) (kd fi se : Nat → Nat) : Nat → Nat → (Nat → Int32) → List Int32 → (Nat → Int32) → Nat → (Nat → Int32) × List Int32 × (Nat → Int32) × Nat × Nat
  | 0, _, rg, os, vs, n => (rg, os, vs, n, 2)
  | f + 1, b, rg, os, vs, n =>
    if kd b = 0 then (pu_rg ac an b rg, pu_os ac b rg os, pu_vs b vs, n + 1, 1)
    else pu ac an kd fi se f (pu_nx kd fi se b (pu_rg ac an b rg)) (pu_rg ac an b rg) (pu_os ac b rg os) (pu_vs b vs) (n + 1)
theorem pu_z (ac : Nat → Nat) (an : Nat → Int32) (kd fi se : Nat → Nat) (f b : Nat) (rg : Nat → Int32) (os : List Int32) (vs : Nat → Int32) (n : Nat) (h : kd b = 0) :
    pu ac an kd fi se (f + 1) b rg os vs n = (pu_rg ac an b rg, pu_os ac b rg os, pu_vs b vs, n + 1, 1) := if_pos h
theorem pu_s (ac : Nat → Nat) (an : Nat → Int32) (kd fi se : Nat → Nat) (f b : Nat) (rg : Nat → Int32) (os : List Int32) (vs : Nat → Int32) (n : Nat) (h : kd b ≠ 0) :
    pu ac an kd fi se (f + 1) b rg os vs n = pu ac an kd fi se f (pu_nx kd fi se b (pu_rg ac an b rg)) (pu_rg ac an b rg) (pu_os ac b rg os) (pu_vs b vs) (n + 1) := if_neg h
/-- the component's list of numbers -/
def ouX (on : Nat → Int32) : List Int32 → Prop
  | [] => True
  | v :: r => on r.length = v ∧ ouX on r
theorem ouX_u {on : Nat → Int32} {v : Int32} : ∀ {os : List Int32} {n : Nat}, os.length ≤ n → ouX on os → ouX (upd on n v) os := by
  intro os
  induction os with
  | nil => exact fun _ _ => trivial
  | cons x r ih =>
    intro n hn h
    have hn' : r.length + 1 ≤ n := hn
    exact ⟨(pk_un (by omega)).trans h.1, ih (by omega) h.2⟩
theorem ouX_c {on : Nat → Int32} {v : Int32} {os : List Int32} (h : ouX on os) : ouX (upd on os.length v) (v :: os) := ⟨pk_us, ouX_u (Nat.le_refl _) h⟩
theorem ouX_g {on : Nat → Int32} : ∀ {os : List Int32} {k : Nat}, ouX on os → k < os.length → on (os.length - 1 - k) = os.getD k 0 := by
  intro os
  induction os with
  | nil => exact fun _ h => absurd h (Nat.not_lt_zero _)
  | cons x r ih =>
    intro k h hk
    have hk' : k < r.length + 1 := hk
    cases k with
    | zero =>
      show on (r.length + 1 - 1 - 0) = x
      rw [show r.length + 1 - 1 - 0 = r.length by omega]
      exact h.1
    | succ k =>
      show on (r.length + 1 - 1 - (k + 1)) = r.getD k 0
      rw [show r.length + 1 - 1 - (k + 1) = r.length - 1 - k by omega]
      exact ih h.2 (by omega)
/-- the reference's last eight -/
def ouY (la : Nat → Int32) (os : List Int32) : Prop := ∀ k, k < 8 → k < os.length → la k = os.getD k 0
theorem ouY_c {la la' : Nat → Int32} {os : List Int32} (h : ouY la os) (v : Int32) (h0 : la' 0 = v) (hs : ∀ k, k < 7 → la' (k + 1) = la k) : ouY la' (v :: os) := by
  intro k h8 hk
  have hk' : k < os.length + 1 := hk
  cases k with
  | zero => exact h0
  | succ k =>
    rw [hs k (by omega)]
    exact h k (by omega) (by omega)
theorem pu_ol (ac : Nat → Nat) (b : Nat) (rg : Nat → Int32) (os : List Int32) : (pu_os ac b rg os).length ≤ os.length + 1 := by
  unfold pu_os
  split
  · exact Nat.le_refl _
  · omega
end
section
/-! the pending forms and the written code in their arrays -/
def stk (pf pb : Nat → Int32) : List (Nat × Nat) → Prop
  | [] => True
  | i :: r => pf r.length = nI i.1 ∧ pb r.length = nI i.2 ∧ stk pf pb r
theorem stk_u {pf pb : Nat → Int32} {x y : Int32} : ∀ {L : List (Nat × Nat)} {n : Nat}, L.length ≤ n → stk pf pb L → stk (upd pf n x) (upd pb n y) L := by
  intro L
  induction L with
  | nil => exact fun _ _ => trivial
  | cons i r ih =>
    intro n hn h
    have hn' : r.length + 1 ≤ n := hn
    exact ⟨(pk_un (by omega)).trans h.1, (pk_un (by omega)).trans h.2.1, ih (by omega) h.2.2⟩
theorem stk_c {pf pb : Nat → Int32} {f x : Nat} {L : List (Nat × Nat)} (h : stk pf pb L) : stk (upd pf L.length (nI f)) (upd pb L.length (nI x)) ((f, x) :: L) := ⟨pk_us, pk_us, stk_u (Nat.le_refl _) h⟩
def cod (cf cb : Nat → Int32) (A : List (Nat × Nat)) : Prop := ∀ i f x, A[i]? = some (f, x) → cf i = nI f ∧ cb i = nI x
theorem la_l {α : Type} {A : List α} {j : α} {i : Nat} {y : α} (h : A[i]? = some y) : (A ++ [j])[i]? = some y := by
  have hi : i < A.length := (List.getElem?_eq_some_iff.mp h).1
  rw [List.getElem?_append_left hi]
  exact h
theorem la_n {α : Type} (A : List α) (j : α) : (A ++ [j])[A.length]? = some j := by
  rw [List.getElem?_append_right (Nat.le_refl _), Nat.sub_self]
  rfl
theorem la_c {α : Type} {A : List α} {j y : α} {i : Nat} (h : (A ++ [j])[i]? = some y) : A[i]? = some y ∨ (i = A.length ∧ y = j) := by
  rcases Nat.lt_trichotomy i A.length with l | l | l
  · rw [List.getElem?_append_left l] at h
    exact Or.inl h
  · subst l
    rw [la_n] at h
    injection h with h
    exact Or.inr ⟨rfl, h.symm⟩
  · rw [List.getElem?_eq_none (by rw [List.length_append]; show A.length + 1 ≤ i; omega)] at h
    cases h
theorem cod_a {cf cb : Nat → Int32} {A : List (Nat × Nat)} (f x : Nat) (h : cod cf cb A) : cod (upd cf A.length (nI f)) (upd cb A.length (nI x)) (A ++ [(f, x)]) := by
  intro i f' x' e
  rcases la_c e with e | ⟨e1, e2⟩
  · have hi : i < A.length := (List.getElem?_eq_some_iff.mp e).1
    rw [pk_un (by omega), pk_un (by omega)]
    exact h i f' x' e
  · subst e1
    injection e2 with e3 e4
    rw [pk_us, pk_us, e3, e4]
    exact ⟨rfl, rfl⟩
/-- where a form of a kind stands, by its block -/
def plc (k : Nat) (pl : Nat → Int32) (A : List (Nat × Nat)) : Prop := ∀ b, (k, b) ∈ A → ∃ j, A[j]? = some (k, b) ∧ pl b = nI j
theorem plc_o {k f x : Nat} {pl : Nat → Int32} {A : List (Nat × Nat)} (hf : f ≠ k) (h : plc k pl A) : plc k pl (A ++ [(f, x)]) := by
  intro b hb
  rcases List.mem_append.mp hb with hb | hb
  · obtain ⟨j, h1, h2⟩ := h b hb
    exact ⟨j, la_l h1, h2⟩
  · rcases List.mem_cons.mp hb with e | e
    · injection e with e1 _
      exact absurd e1.symm hf
    · cases e
theorem plc_s {k x : Nat} {pl : Nat → Int32} {A : List (Nat × Nat)} (h : plc k pl A) : plc k (upd pl x (nI A.length)) (A ++ [(k, x)]) := by
  intro b hb
  by_cases e : b = x
  · subst e
    exact ⟨A.length, la_n A _, pk_us⟩
  · rcases List.mem_append.mp hb with hb | hb
    · obtain ⟨j, h1, h2⟩ := h b hb
      exact ⟨j, la_l h1, (pk_un e).trans h2⟩
    · rcases List.mem_cons.mp hb with y | y
      · injection y with _ y2
        exact absurd y2 e
      · cases y
/-- the places behind p -/
theorem dr_c {A : List (Nat × Nat)} {p : Nat} {i : Nat × Nat} {r : List (Nat × Nat)} (h : A.drop p = i :: r) : A[p]? = some i ∧ A.drop (p + 1) = r ∧ p < A.length := by
  have hp : p < A.length := by
    rcases Nat.lt_or_ge p A.length with l | l
    · exact l
    · rw [List.drop_eq_nil_of_le l] at h
      cases h
  rw [List.drop_eq_getElem_cons hp] at h
  injection h with h1 h2
  exact ⟨by rw [List.getElem?_eq_getElem hp, h1], h2, hp⟩
theorem dr_g {A : List (Nat × Nat)} {p : Nat} {i : Nat × Nat} (h : A[p]? = some i) : A.drop p = i :: A.drop (p + 1) := by
  obtain ⟨hp, e⟩ := List.getElem?_eq_some_iff.mp h
  rw [List.drop_eq_getElem_cons hp, e]
theorem lk_ok_d {ef : Nat → Nat → Nat} {kd fi se : Nat → Nat} {A : List (Nat × Nat)} (h : lk_ok ef kd fi se A) (p : Nat) : lk_ok ef kd fi se (A.drop p) := by
  induction p with
  | zero => exact h
  | succ p ih =>
    cases e : A.drop p with
    | nil =>
      have l : A.length ≤ p := List.drop_eq_nil_iff.mp e
      rw [List.drop_eq_nil_of_le (by omega)]
      trivial
    | cons i r =>
      rw [e] at ih
      rw [(dr_c e).2.1]
      exact ih.2.2.2.2
theorem lk_ok_g {ef : Nat → Nat → Nat} {kd fi se : Nat → Nat} {A : List (Nat × Nat)} (h : lk_ok ef kd fi se A) {p f x : Nat} (e : A[p]? = some (f, x)) :
    (f = 1 → lk_nd x (A.drop (p + 1))) ∧ (f = 4 → lk_nd x (A.drop (p + 1))) ∧ (f = 5 → lk_wy ef kd fi se x (A.drop (p + 1))) ∧ (f = 7 → lk_ed ef x (se x) (A.drop (p + 1))) := by
  have a := lk_ok_d h p
  rw [dr_g e] at a
  exact ⟨a.1, a.2.1, a.2.2.1, a.2.2.2.1⟩
/-! the order: what is pushed of it -/
theorem lk_scs_a (m : Nat) : ∀ (ms : List Nat) (L : List (Nat × Nat)), lk_scs (ms ++ [m]) L = (3, m) :: lk_scs ms L := by
  intro ms
  induction ms with
  | nil => exact fun L => rfl
  | cons x r ih => exact fun L => ih ((3, x) :: L)
theorem lk_scs_l : ∀ (ms : List Nat) (L : List (Nat × Nat)), (lk_scs ms L).length = ms.length + L.length := by
  intro ms
  induction ms with
  | nil => exact fun L => (Nat.zero_add _).symm
  | cons x r ih =>
    intro L
    show (lk_scs r ((3, x) :: L)).length = r.length + 1 + L.length
    rw [ih]
    show r.length + (L.length + 1) = _
    omega
theorem lk_ends_l (ms : List Nat) : (lk_ends ms).length = 2 * ms.length := by rw [← lk_1_len, lk_1_ends]
theorem lk_n_len {l : List Nat} (h : ∀ c, lk_n c l ≤ 1) (h8 : ∀ c, c ∈ l → c < 8) : l.length ≤ 8 := by
  have a : ∀ l : List Nat, (∀ c, c ∈ l → c < 8) → lk_sm (l.map (fun c => (5, c))) 8 = l.length := by
    intro l hl
    rw [lk_sm_8]
    · induction l with
      | nil => rfl
      | cons m r ih =>
        have := ih (fun c hc => hl c (List.mem_cons_of_mem _ hc))
        show 0 + lk_w lk_P (r.map (fun c => (5, c))) + (1 + lk_w lk_D (r.map (fun c => (5, c)))) = r.length + 1
        omega
    · intro i hi _
      obtain ⟨c, hc, e⟩ := List.mem_map.mp hi
      rw [← e]
      exact hl c hc
  have b : ∀ c (l : List Nat), lk_w (lk_c c) (l.map (fun c => (5, c))) = lk_n c l := by
    intro c l
    induction l with
    | nil => rfl
    | cons m r ih =>
      show lk_c c (5, m) + lk_w (lk_c c) (r.map (fun c => (5, c))) = (if m = c then 1 else 0) + lk_n c r
      rw [ih, lk_c_5]
  have s : ∀ n, lk_sm (l.map (fun c => (5, c))) n ≤ n := by
    intro n
    induction n with
    | zero => exact Nat.le_refl 0
    | succ n ih =>
      show lk_sm (l.map (fun c => (5, c))) n + lk_w (lk_c n) (l.map (fun c => (5, c))) ≤ n + 1
      rw [b]
      have := h n
      omega
  have := s 8
  rw [a l h8] at this
  exact this
end
section
/-! the component's shape: reachedOutside, studyDominators, studyEdges, orderBlocks -/
theorem x8_t : (8 : Int32) ≤ nI 8 := by decide
theorem x8_f {i : Nat} (h : i < 8) : ¬ (8 : Int32) ≤ nI i := nI_ge (b := 8) h (by decide)
theorem xw_in {i : Nat} (h : i < 8) : vp_in (nI i) 8 := vp_in_nI h (by decide)
theorem xw_c {i : Nat} (h : i < 8) : (nI i).toNatClampNeg = i := nI_clamp (by omega)
theorem xw_has {post : Int32 → Prop} {s : Int32} {j : Nat} (hj : j < 8) (h1 : bt s j = true → post 1) (h0 : bt s j = false → post 0) : wpX_has post s (nI j) :=
  ek_if (rb_has s (by omega)) (fun z => h1 z) (fun z => h0 (rb_tf z))
theorem x10 : ¬ (1 : Int32) = 0 := by decide
section
variable {f_liveSet f_loopSet f_mergeSet f_orderedSet f_orderedCount f_pendingCount f_codeLength f_outCount f_carriedCount f_lastOutcome : Int32} {a_actionKind a_actionNumber a_wayKind a_wayFirst a_waySecond a_dominatorSet a_forwardSet a_order a_pendingForm a_pendingBlock a_codeForm a_codeBlock a_loopPlace a_scopeEndPlace a_elsePlace a_registers a_visitCounts a_outNumbers : Nat → Int32} {kd fi se : Nat → Nat}
theorem xw_tgo (V : vw a_wayKind a_wayFirst a_waySecond kd fi se) (K : vk kd fi se) {post : Int32 → Prop} {b : Nat} (hb : b < 8) (hp : post (tm kd fi se b)) : wpX_targetsOf post (f_liveSet, f_loopSet, f_mergeSet, f_orderedSet, f_orderedCount, f_pendingCount, f_codeLength, f_outCount, f_carriedCount, f_lastOutcome, a_actionKind, a_actionNumber, a_wayKind, a_wayFirst, a_waySecond, a_dominatorSet, a_forwardSet, a_order, a_pendingForm, a_pendingBlock, a_codeForm, a_codeBlock, a_loopPlace, a_scopeEndPlace, a_elsePlace, a_registers, a_visitCounts, a_outNumbers) (nI b) := by
  obtain ⟨v1, v2, v3⟩ := V b hb
  obtain ⟨k1, k2, k3⟩ := K b hb
  have hi := xw_in hb
  unfold wpX_targetsOf
  dsimp only
  rw [xw_c hb]
  unfold tm at hp
  refine ⟨hi, ?_⟩
  by_cases k0 : kd b = 0
  · rw [if_pos k0] at hp
    exact br_t (by rw [v1, k0]; rfl) hp
  · rw [if_neg k0] at hp
    have n0 : ¬ a_wayKind b = 0 := by
      rw [v1]
      exact nI_ne0 (by omega) (by omega)
    refine br_f n0 ⟨hi, nm_r (e' := rb_p (fi b)) (by rw [v2 k0]; rfl) ⟨hi, ?_⟩⟩
    by_cases k4 : 2 ≤ kd b
    · rw [if_pos k4] at hp
      exact br_f (by rw [v1]; exact nI_nlt (b := 2) k4 (by omega)) ⟨hi, nm_r (e' := rb_p (fi b) ||| rb_p (se b)) (by rw [v3 k4]; rfl) hp⟩
    · rw [if_neg k4] at hp
      exact br_t (by rw [v1]; exact nI_lt (b := 2) (by omega) (by decide)) hp
theorem xw_ro17 (V : vw a_wayKind a_wayFirst a_waySecond kd fi se) (K : vk kd fi se) {post : Int32 → Prop} {J8 : Int32 → Int32 → Prop} {m x3 s0 : Int32} (hJ : J8 (rc_ps (tm kd fi se) m s0 8) (x3 + 1)) :
    ∀ d i n, i + d = 8 → d < n → wX_reachedOutside_17 post J8 m x3 f_liveSet f_loopSet f_mergeSet f_orderedSet f_orderedCount f_pendingCount f_codeLength f_outCount f_carriedCount f_lastOutcome a_actionKind a_actionNumber a_wayKind a_wayFirst a_waySecond a_dominatorSet a_forwardSet a_order a_pendingForm a_pendingBlock a_codeForm a_codeBlock a_loopPlace a_scopeEndPlace a_elsePlace a_registers a_visitCounts a_outNumbers n (rc_ps (tm kd fi se) m s0 i) (nI i) := by
  intro d
  induction d with
  | zero =>
    intro i n hi hn
    obtain ⟨k, rfl⟩ : ∃ k, n = k + 1 := ⟨n - 1, by omega⟩
    obtain rfl : i = 8 := by omega
    exact br_t x8_t (nm_e hJ)
  | succ d ih =>
    intro i n hi hn
    obtain ⟨k, rfl⟩ : ∃ k, n = k + 1 := ⟨n - 1, by omega⟩
    have h8 : i < 8 := by omega
    refine br_f (x8_f h8) (xw_has h8 (fun z => br_f x10 (xw_tgo V K h8 ?_)) (fun z => br_t rfl ?_))
    · refine nm_r (e' := rc_ps (tm kd fi se) m s0 (i + 1)) ?_ (nm_r (nI_1 i) (ih (i + 1) k (by omega) (by omega)))
      show _ = rc_st (tm kd fi se) m (rc_ps (tm kd fi se) m s0 i) i
      unfold rc_st
      rw [if_pos z]
    · have e : rc_ps (tm kd fi se) m s0 i = rc_ps (tm kd fi se) m s0 (i + 1) := by
        show _ = rc_st (tm kd fi se) m (rc_ps (tm kd fi se) m s0 i) i
        unfold rc_st
        rw [if_neg (by rw [z]; decide)]
      rw [e]
      exact nm_r (nI_1 i) (ih (i + 1) k (by omega) (by omega))
theorem xw_ro (V : vw a_wayKind a_wayFirst a_waySecond kd fi se) (K : vk kd fi se) {post : Int32 → Prop} {m : Int32} (hp : post (rc (tm kd fi se) m)) : wpX_reachedOutside post (f_liveSet, f_loopSet, f_mergeSet, f_orderedSet, f_orderedCount, f_pendingCount, f_codeLength, f_outCount, f_carriedCount, f_lastOutcome, a_actionKind, a_actionNumber, a_wayKind, a_wayFirst, a_waySecond, a_dominatorSet, a_forwardSet, a_order, a_pendingForm, a_pendingBlock, a_codeForm, a_codeBlock, a_loopPlace, a_scopeEndPlace, a_elsePlace, a_registers, a_visitCounts, a_outNumbers) m := by
  have lp : ∀ d r n, r + d = 8 → d < n → wX_reachedOutside_8 post m f_liveSet f_loopSet f_mergeSet f_orderedSet f_orderedCount f_pendingCount f_codeLength f_outCount f_carriedCount f_lastOutcome a_actionKind a_actionNumber a_wayKind a_wayFirst a_waySecond a_dominatorSet a_forwardSet a_order a_pendingForm a_pendingBlock a_codeForm a_codeBlock a_loopPlace a_scopeEndPlace a_elsePlace a_registers a_visitCounts a_outNumbers n (rs_it (fun s => rc_ps (tm kd fi se) m s 8) (rc_s0 m) r) (nI r) := by
    intro d
    induction d with
    | zero =>
      intro r n hr hn
      obtain ⟨k, rfl⟩ : ∃ k, n = k + 1 := ⟨n - 1, by omega⟩
      obtain rfl : r = 8 := by omega
      exact br_t x8_t hp
    | succ d ih =>
      intro r n hr hn
      obtain ⟨k, rfl⟩ : ∃ k, n = k + 1 := ⟨n - 1, by omega⟩
      refine br_f (x8_f (by omega)) ⟨9, ?_⟩
      refine xw_ro17 V K (s0 := rs_it (fun s => rc_ps (tm kd fi se) m s 8) (rc_s0 m) r) ?_ 8 0 9 rfl (by decide)
      rw [nI_1]
      exact ih (r + 1) k (by omega) (by omega)
  unfold wpX_reachedOutside
  dsimp only
  exact nm_e ⟨9, lp 8 0 9 rfl (by decide)⟩
theorem xw_sd46 {T : Nat → Int32} {post : SX → Prop} {J23 : Int32 → (Nat → Int32) → (Nat → Int32) → (Nat → Int32) → (Nat → Int32) → (Nat → Int32) → (Nat → Int32) → (Nat → Int32) → (Nat → Int32) → (Nat → Int32) → (Nat → Int32) → (Nat → Int32) → (Nat → Int32) → (Nat → Int32) → (Nat → Int32) → (Nat → Int32) → (Nat → Int32) → (Nat → Int32) → (Nat → Int32) → Prop} {h : Nat} (hh : h < 8) (hJ : ∀ ds, (∀ b, b < 8 → ds b = rd_f T b (h + 1)) → J23 (nI h + 1) a_actionKind a_actionNumber a_wayKind a_wayFirst a_waySecond ds a_forwardSet a_order a_pendingForm a_pendingBlock a_codeForm a_codeBlock a_loopPlace a_scopeEndPlace a_elsePlace a_registers a_visitCounts a_outNumbers) :
    ∀ d i n ds, i + d = 8 → d < n → (∀ b, b < i → ds b = rd_f T b (h + 1)) → (∀ b, b < 8 → i ≤ b → ds b = rd_f T b h) →
      wX_studyDominators_46 post J23 (nI h) (rc T 0 &&& (rc T (rb_p h) ^^^ (-1))) f_liveSet f_loopSet f_mergeSet f_orderedSet f_orderedCount f_pendingCount f_codeLength f_outCount f_carriedCount f_lastOutcome n (nI i) a_actionKind a_actionNumber a_wayKind a_wayFirst a_waySecond ds a_forwardSet a_order a_pendingForm a_pendingBlock a_codeForm a_codeBlock a_loopPlace a_scopeEndPlace a_elsePlace a_registers a_visitCounts a_outNumbers := by
  intro d
  induction d with
  | zero =>
    intro i n ds hi hn h1 h2
    obtain ⟨k, rfl⟩ : ∃ k, n = k + 1 := ⟨n - 1, by omega⟩
    obtain rfl : i = 8 := by omega
    exact br_t x8_t (nm_e (hJ ds h1))
  | succ d ih =>
    intro i n ds hi hn h1 h2
    obtain ⟨k, rfl⟩ : ∃ k, n = k + 1 := ⟨n - 1, by omega⟩
    have h8 : i < 8 := by omega
    have hin := xw_in h8
    refine br_f (x8_f h8) (xw_has h8 (fun z => br_f x10 ⟨hin, hin, nm_e (nm_r (nI_1 i) (ih (i + 1) k _ (by omega) (by omega) (fun b hb => ?_) (fun b hb hb2 => ?_)))⟩) (fun z => br_t rfl (nm_r (nI_1 i) (ih (i + 1) k ds (by omega) (by omega) (fun b hb => ?_) (fun b hb hb2 => h2 b hb (by omega))))))
    · rw [xw_c h8]
      by_cases e : b = i
      · subst e
        rw [pk_us, h2 b h8 (Nat.le_refl b)]
        show _ = if _ then _ else _
        rw [if_pos z]
        rfl
      · rw [pk_un e]
        exact h1 b (by omega)
    · rw [xw_c h8, pk_un (by omega)]
      exact h2 b hb (by omega)
    · by_cases e : b = i
      · subst e
        rw [h2 b h8 (Nat.le_refl b)]
        show _ = if _ then _ else _
        rw [if_neg (by rw [z]; decide)]
      · exact h1 b (by omega)
theorem xw_sd (V : vw a_wayKind a_wayFirst a_waySecond kd fi se) (K : vk kd fi se) {T : Nat → Int32} (hT : T = tm kd fi se) {post : SX → Prop}
    (hp : ∀ ds, (∀ b, b < 8 → ds b = rd T b) → post (rc T 0, f_loopSet, f_mergeSet, f_orderedSet, f_orderedCount, f_pendingCount, f_codeLength, f_outCount, f_carriedCount, f_lastOutcome, a_actionKind, a_actionNumber, a_wayKind, a_wayFirst, a_waySecond, ds, a_forwardSet, a_order, a_pendingForm, a_pendingBlock, a_codeForm, a_codeBlock, a_loopPlace, a_scopeEndPlace, a_elsePlace, a_registers, a_visitCounts, a_outNumbers)) : wpX_studyDominators post (rc T 0, f_loopSet, f_mergeSet, f_orderedSet, f_orderedCount, f_pendingCount, f_codeLength, f_outCount, f_carriedCount, f_lastOutcome, a_actionKind, a_actionNumber, a_wayKind, a_wayFirst, a_waySecond, a_dominatorSet, a_forwardSet, a_order, a_pendingForm, a_pendingBlock, a_codeForm, a_codeBlock, a_loopPlace, a_scopeEndPlace, a_elsePlace, a_registers, a_visitCounts, a_outNumbers) := by
  have l23 : ∀ d h n ds, h + d = 8 → d < n → (∀ b, b < 8 → ds b = rd_f T b h) → wX_studyDominators_23 post (rc T 0) f_loopSet f_mergeSet f_orderedSet f_orderedCount f_pendingCount f_codeLength f_outCount f_carriedCount f_lastOutcome n (nI h) a_actionKind a_actionNumber a_wayKind a_wayFirst a_waySecond ds a_forwardSet a_order a_pendingForm a_pendingBlock a_codeForm a_codeBlock a_loopPlace a_scopeEndPlace a_elsePlace a_registers a_visitCounts a_outNumbers := by
    intro d
    induction d with
    | zero =>
      intro h n ds hh hn hd
      obtain ⟨k, rfl⟩ : ∃ k, n = k + 1 := ⟨n - 1, by omega⟩
      obtain rfl : h = 8 := by omega
      exact br_t x8_t (hp ds hd)
    | succ d ih =>
      intro h n ds hh hn hd
      obtain ⟨k, rfl⟩ : ∃ k, n = k + 1 := ⟨n - 1, by omega⟩
      refine br_f (x8_f (by omega)) (xw_ro V K (m := rb_p h) ?_)
      rw [← hT]
      refine nm_e ⟨9, xw_sd46 (T := T) (h := h) (by omega) (fun ds' h' => ?_) 8 0 9 ds rfl (by decide) (fun b hb => absurd hb (Nat.not_lt_zero b)) (fun b hb _ => hd b hb)⟩
      rw [nI_1]
      exact ih (h + 1) k ds' (by omega) (by omega) h'
  have l2 : ∀ d i n ds, i + d = 8 → d < n → (∀ b, b < i → ds b = 0) → wX_studyDominators_2 post (rc T 0) f_loopSet f_mergeSet f_orderedSet f_orderedCount f_pendingCount f_codeLength f_outCount f_carriedCount f_lastOutcome n (nI i) a_actionKind a_actionNumber a_wayKind a_wayFirst a_waySecond ds a_forwardSet a_order a_pendingForm a_pendingBlock a_codeForm a_codeBlock a_loopPlace a_scopeEndPlace a_elsePlace a_registers a_visitCounts a_outNumbers := by
    intro d
    induction d with
    | zero =>
      intro i n ds hi hn hd
      obtain ⟨k, rfl⟩ : ∃ k, n = k + 1 := ⟨n - 1, by omega⟩
      obtain rfl : i = 8 := by omega
      exact br_t x8_t ⟨9, l23 8 0 9 ds rfl (by decide) (fun b hb => hd b hb)⟩
    | succ d ih =>
      intro i n ds hi hn hd
      obtain ⟨k, rfl⟩ : ∃ k, n = k + 1 := ⟨n - 1, by omega⟩
      have h8 : i < 8 := by omega
      refine br_f (x8_f h8) ⟨xw_in h8, nm_e (nm_r (nI_1 i) (ih (i + 1) k _ (by omega) (by omega) (fun b hb => ?_)))⟩
      rw [xw_c h8]
      by_cases e : b = i
      · rw [e, pk_us]
      · rw [pk_un e]
        exact hd b (by omega)
  exact ⟨9, l2 8 0 9 a_dominatorSet rfl (by decide) (fun b hb => absurd hb (Nat.not_lt_zero b))⟩
theorem xw_se (V : vw a_wayKind a_wayFirst a_waySecond kd fi se) (K : vk kd fi se) {T : Nat → Int32} (hT : T = tm kd fi se) {post : SX → Prop} (hd : ∀ b, b < 8 → a_dominatorSet b = rd T b)
    (hp : ∀ fs, (∀ b, b < 8 → fs b = rf T b) → post (rc T 0, rl T, rm T, f_orderedSet, f_orderedCount, f_pendingCount, f_codeLength, f_outCount, f_carriedCount, f_lastOutcome, a_actionKind, a_actionNumber, a_wayKind, a_wayFirst, a_waySecond, a_dominatorSet, fs, a_order, a_pendingForm, a_pendingBlock, a_codeForm, a_codeBlock, a_loopPlace, a_scopeEndPlace, a_elsePlace, a_registers, a_visitCounts, a_outNumbers)) : wpX_studyEdges post (rc T 0, f_loopSet, f_mergeSet, f_orderedSet, f_orderedCount, f_pendingCount, f_codeLength, f_outCount, f_carriedCount, f_lastOutcome, a_actionKind, a_actionNumber, a_wayKind, a_wayFirst, a_waySecond, a_dominatorSet, a_forwardSet, a_order, a_pendingForm, a_pendingBlock, a_codeForm, a_codeBlock, a_loopPlace, a_scopeEndPlace, a_elsePlace, a_registers, a_visitCounts, a_outNumbers) := by
  have l14 : ∀ d i n fs, i + d = 8 → d < n → (∀ b, b < i → fs b = rf T b) → wX_studyEdges_14 post (rc T 0) f_orderedSet f_orderedCount f_pendingCount f_codeLength f_outCount f_carriedCount f_lastOutcome n (rm_o T i) (nI i) (rl_f T i) (rm_f T i) a_actionKind a_actionNumber a_wayKind a_wayFirst a_waySecond a_dominatorSet fs a_order a_pendingForm a_pendingBlock a_codeForm a_codeBlock a_loopPlace a_scopeEndPlace a_elsePlace a_registers a_visitCounts a_outNumbers := by
    intro d
    induction d with
    | zero =>
      intro i n fs hi hn h
      obtain ⟨k, rfl⟩ : ∃ k, n = k + 1 := ⟨n - 1, by omega⟩
      obtain rfl : i = 8 := by omega
      exact br_t x8_t (hp fs h)
    | succ d ih =>
      intro i n fs hi hn h
      obtain ⟨k, rfl⟩ : ∃ k, n = k + 1 := ⟨n - 1, by omega⟩
      have h8 : i < 8 := by omega
      have hin := xw_in h8
      have l40 : ∀ z0, z0 = rg T i → wX_studyEdges_40 post (wX_studyEdges_14 post (rc T 0) f_orderedSet f_orderedCount f_pendingCount f_codeLength f_outCount f_carriedCount f_lastOutcome k) (rm_o T i) (nI i) z0 (rc T 0) (rl_f T i) (rm_f T i) f_orderedSet f_orderedCount f_pendingCount f_codeLength f_outCount f_carriedCount f_lastOutcome a_actionKind a_actionNumber a_wayKind a_wayFirst a_waySecond a_dominatorSet fs a_order a_pendingForm a_pendingBlock a_codeForm a_codeBlock a_loopPlace a_scopeEndPlace a_elsePlace a_registers a_visitCounts a_outNumbers := by
        intro z0 hz
        subst hz
        have c := xw_c h8
        have ef : rg T i &&& (a_dominatorSet (nI i).toNatClampNeg ^^^ (-1)) = rf T i := by
          rw [c, hd i h8]
          rfl
        unfold wX_studyEdges_40
        rw [ef]
        refine ⟨hin, nm_r (e' := rl_f T (i + 1)) (by rw [c, hd i h8]; rfl) ⟨hin, hin, nm_e ⟨hin, nm_r (e' := rm_f T (i + 1)) (by rw [pk_us]; rfl) ⟨hin, nm_r (e' := rm_o T (i + 1)) (by rw [pk_us]; rfl) (nm_r (nI_1 i) (ih (i + 1) k _ (by omega) (by omega) (fun b hb => ?_)))⟩⟩⟩⟩
        rw [c]
        by_cases e : b = i
        · rw [e, pk_us]
        · rw [pk_un e]
          exact h b (by omega)
      refine br_f (x8_f h8) (xw_has h8 (fun z => br_f x10 (xw_tgo V K h8 ?_)) (fun z => br_t rfl ?_))
      · apply l40
        unfold rg
        rw [if_pos z, hT]
      · apply l40
        unfold rg
        rw [if_neg (by rw [z]; decide)]
  exact ⟨9, l14 8 0 9 a_forwardSet rfl (by decide) (fun b hb => absurd hb (Nat.not_lt_zero b))⟩
theorem xw_rto {F : Nat → Int32} (hf : ∀ b, b < 8 → a_forwardSet b = F b) {post : Int32 → Prop} (hp : post (ka_r F f_liveSet f_orderedSet)) : wpX_readyToOrder post (f_liveSet, f_loopSet, f_mergeSet, f_orderedSet, f_orderedCount, f_pendingCount, f_codeLength, f_outCount, f_carriedCount, f_lastOutcome, a_actionKind, a_actionNumber, a_wayKind, a_wayFirst, a_waySecond, a_dominatorSet, a_forwardSet, a_order, a_pendingForm, a_pendingBlock, a_codeForm, a_codeBlock, a_loopPlace, a_scopeEndPlace, a_elsePlace, a_registers, a_visitCounts, a_outNumbers) := by
  have l : ∀ d i n, i + d = 8 → d < n → wX_readyToOrder_16 post (ka_w f_liveSet f_orderedSet) f_liveSet f_loopSet f_mergeSet f_orderedSet f_orderedCount f_pendingCount f_codeLength f_outCount f_carriedCount f_lastOutcome a_actionKind a_actionNumber a_wayKind a_wayFirst a_waySecond a_dominatorSet a_forwardSet a_order a_pendingForm a_pendingBlock a_codeForm a_codeBlock a_loopPlace a_scopeEndPlace a_elsePlace a_registers a_visitCounts a_outNumbers n (ka_h F (ka_w f_liveSet f_orderedSet) i) (nI i) := by
    intro d
    induction d with
    | zero =>
      intro i n hi hn
      obtain ⟨k, rfl⟩ : ∃ k, n = k + 1 := ⟨n - 1, by omega⟩
      obtain rfl : i = 8 := by omega
      exact br_t x8_t hp
    | succ d ih =>
      intro i n hi hn
      obtain ⟨k, rfl⟩ : ∃ k, n = k + 1 := ⟨n - 1, by omega⟩
      have h8 : i < 8 := by omega
      refine br_f (x8_f h8) (xw_has h8 (fun z => br_f x10 ⟨xw_in h8, nm_r (e' := ka_h F (ka_w f_liveSet f_orderedSet) (i + 1)) ?_ (nm_r (nI_1 i) (ih (i + 1) k (by omega) (by omega)))⟩) (fun z => br_t rfl ?_))
      · rw [xw_c h8, hf i h8]
        show _ = if _ then _ else _
        rw [if_pos z]
      · have e : ka_h F (ka_w f_liveSet f_orderedSet) i = ka_h F (ka_w f_liveSet f_orderedSet) (i + 1) := by
          show _ = if _ then _ else _
          rw [if_neg (by rw [z]; decide)]
        rw [e]
        exact nm_r (nI_1 i) (ih (i + 1) k (by omega) (by omega))
  exact nm_e ⟨9, l 8 0 9 rfl (by decide)⟩
end
end
section
/-! the component's order, and studyShape whole -/
theorem lk_n_a (c m : Nat) (l : List Nat) : lk_n c (l ++ [m]) = lk_n c l + (if m = c then 1 else 0) := by
  induction l with
  | nil =>
    show (if m = c then 1 else 0) + 0 = 0 + _
    omega
  | cons x r ih =>
    show (if x = c then 1 else 0) + lk_n c (r ++ [m]) = (if x = c then 1 else 0) + lk_n c r + _
    rw [ih]
    omega
def odl (od : Nat → Int32) (ol : List Nat) : Prop := ∀ i c, ol[i]? = some c → od i = nI c
theorem odl_a {od : Nat → Int32} {ol : List Nat} (h : odl od ol) (m : Nat) : odl (upd od ol.length (nI m)) (ol ++ [m]) := by
  intro i c e
  rcases la_c e with e | ⟨e1, e2⟩
  · have hi : i < ol.length := (List.getElem?_eq_some_iff.mp e).1
    rw [pk_un (by omega)]
    exact h i c e
  · rw [e1, e2, pk_us]
/-- a list of the blocks of a set, each once -/
def osl (ol : List Nat) (P : Nat → Prop) : Prop := (∀ c, lk_n c ol ≤ 1) ∧ (∀ c, c ∈ ol ↔ P c)
theorem osl_a {ol : List Nat} {P Q : Nat → Prop} {m : Nat} (h : osl ol P) (hm : ¬ P m) (hQ : ∀ c, Q c ↔ P c ∨ c = m) : osl (ol ++ [m]) Q := by
  refine ⟨fun c => ?_, fun c => ?_⟩
  · rw [lk_n_a]
    have a := h.1 c
    by_cases e : m = c
    · subst e
      have z : lk_n m ol = 0 := by
        apply Classical.byContradiction
        intro n
        exact hm ((h.2 m).mp (lk_n_m.mp (by omega)))
      rw [z, if_pos rfl]
      omega
    · rw [if_neg e]
      omega
  · rw [List.mem_append, hQ, h.2, List.mem_singleton]
theorem osl_l {ol : List Nat} {P : Nat → Prop} (h : osl ol P) (h8 : ∀ c, P c → c < 8) : ol.length ≤ 8 := lk_n_len h.1 (fun c hc => h8 c ((h.2 c).mp hc))
theorem rf_lo {T : Nat → Int32} (hT : rt_lo T) {b : Nat} (hb : b < 8) : rs_lo (rf T b) := fun i hi => rb_tf (fun z => by
  have a := rs_lt8 (hT b hb) ((rf_iff hT hb i).mp z).2.1
  omega)
section
variable {f_liveSet f_loopSet f_mergeSet f_orderedSet f_orderedCount f_pendingCount f_codeLength f_outCount f_carriedCount f_lastOutcome : Int32} {a_actionKind a_actionNumber a_wayKind a_wayFirst a_waySecond a_dominatorSet a_forwardSet a_order a_pendingForm a_pendingBlock a_codeForm a_codeBlock a_loopPlace a_scopeEndPlace a_elsePlace a_registers a_visitCounts a_outNumbers : Nat → Int32} {kd fi se : Nat → Nat}
theorem xw_ob25 {F : Nat → Int32} {L os : Int32} (hL : rs_lo L) (hos : rs_sub os L) {post : SX → Prop} {J12 : Int32 → Int32 → Int32 → (Nat → Int32) → (Nat → Int32) → (Nat → Int32) → (Nat → Int32) → (Nat → Int32) → (Nat → Int32) → (Nat → Int32) → (Nat → Int32) → (Nat → Int32) → (Nat → Int32) → (Nat → Int32) → (Nat → Int32) → (Nat → Int32) → (Nat → Int32) → (Nat → Int32) → (Nat → Int32) → (Nat → Int32) → (Nat → Int32) → Prop} {x1 : Int32}
    (hJ : ∀ od ol, odl od ol → osl ol (fun c => bt (os ||| ka_r F L os) c = true) → J12 (x1 + 1) (os ||| ka_r F L os) (nI ol.length) a_actionKind a_actionNumber a_wayKind a_wayFirst a_waySecond a_dominatorSet a_forwardSet od a_pendingForm a_pendingBlock a_codeForm a_codeBlock a_loopPlace a_scopeEndPlace a_elsePlace a_registers a_visitCounts a_outNumbers) :
    ∀ d i n od ol, i + d = 8 → d < n → odl od ol → osl ol (fun c => bt os c = true ∨ (c < i ∧ bt (ka_r F L os) c = true)) →
      wX_orderBlocks_25 post J12 x1 (ka_r F L os) L f_loopSet f_mergeSet os f_pendingCount f_codeLength f_outCount f_carriedCount f_lastOutcome n (nI i) (nI ol.length) a_actionKind a_actionNumber a_wayKind a_wayFirst a_waySecond a_dominatorSet a_forwardSet od a_pendingForm a_pendingBlock a_codeForm a_codeBlock a_loopPlace a_scopeEndPlace a_elsePlace a_registers a_visitCounts a_outNumbers := by
  have rl : ∀ c, bt (ka_r F L os) c = true → c < 8 ∧ bt os c = false := by
    intro c hc
    obtain ⟨h1, h2⟩ := (ka_wi _ _ _).mp ((ka_ri _ _ _ _).mp hc).1
    exact ⟨rs_lt8 hL h1, h2⟩
  intro d
  induction d with
  | zero =>
    intro i n od ol hi hn h1 h2
    obtain ⟨k, rfl⟩ : ∃ k, n = k + 1 := ⟨n - 1, by omega⟩
    obtain rfl : i = 8 := by omega
    refine br_t x8_t (nm_e (nm_e (hJ od ol h1 ⟨h2.1, fun c => ?_⟩)))
    rw [h2.2]
    dsimp only
    rw [b_or, Bool.or_eq_true]
    constructor
    · rintro (z | ⟨_, z⟩)
      · exact Or.inl z
      · exact Or.inr z
    · rintro (z | z)
      · exact Or.inl z
      · exact Or.inr ⟨(rl c z).1, z⟩
  | succ d ih =>
    intro i n od ol hi hn h1 h2
    obtain ⟨k, rfl⟩ : ∃ k, n = k + 1 := ⟨n - 1, by omega⟩
    have h8 : i < 8 := by omega
    refine br_f (x8_f h8) (xw_has h8 (fun z => br_f x10 ?_) (fun z => br_t rfl (nm_r (nI_1 i) (ih (i + 1) k od ol (by omega) (by omega) h1 ⟨h2.1, fun c => ?_⟩))))
    · have h3 : osl (ol ++ [i]) (fun c => bt os c = true ∨ (c < i + 1 ∧ bt (ka_r F L os) c = true)) := by
        refine osl_a h2 (m := i) ?_ (fun c => ?_)
        · rintro (y | ⟨y, _⟩)
          · rw [(rl i z).2] at y
            cases y
          · omega
        · constructor
          · rintro (y | ⟨y1, y2⟩)
            · exact Or.inl (Or.inl y)
            · by_cases e : c = i
              · exact Or.inr e
              · exact Or.inl (Or.inr ⟨by omega, y2⟩)
          · rintro ((y | ⟨y1, y2⟩) | y)
            · exact Or.inl y
            · exact Or.inr ⟨by omega, y2⟩
            · subst y
              exact Or.inr ⟨by omega, z⟩
      have l8 : (ol ++ [i]).length ≤ 8 := osl_l h3 (fun c hc => by
        rcases hc with y | ⟨_, y⟩
        · exact rs_lt8 hL (hos c y)
        · exact (rl c y).1)
      rw [List.length_append] at l8
      have l7 : ol.length < 8 := l8
      have e := ih (i + 1) k _ _ (by omega) (by omega) (odl_a h1 i) h3
      rw [List.length_append] at e
      refine br_f (x8_f l7) ⟨xw_in l7, nm_r (e' := upd od ol.length (nI i)) (by rw [xw_c l7]) (nm_r (nI_1 _) (nm_r (nI_1 i) e))⟩
    · rw [h2.2]
      constructor
      · rintro (y | ⟨y1, y2⟩)
        · exact Or.inl y
        · exact Or.inr ⟨by omega, y2⟩
      · rintro (y | ⟨y1, y2⟩)
        · exact Or.inl y
        · refine Or.inr ⟨?_, y2⟩
          by_cases e : c = i
          · subst e
            rw [z] at y2
            cases y2
          · omega
theorem xw_ob {F : Nat → Int32} {L : Int32} (hL : rs_lo L) (hf : ∀ b, b < 8 → a_forwardSet b = F b) {post : SX → Prop}
    (hp : ∀ od ol, odl od ol → osl ol (fun c => bt (ka F L 8) c = true) → post (L, f_loopSet, f_mergeSet, ka F L 8, nI ol.length, f_pendingCount, f_codeLength, f_outCount, f_carriedCount, f_lastOutcome, a_actionKind, a_actionNumber, a_wayKind, a_wayFirst, a_waySecond, a_dominatorSet, a_forwardSet, od, a_pendingForm, a_pendingBlock, a_codeForm, a_codeBlock, a_loopPlace, a_scopeEndPlace, a_elsePlace, a_registers, a_visitCounts, a_outNumbers)) : wpX_orderBlocks post (L, f_loopSet, f_mergeSet, f_orderedSet, f_orderedCount, f_pendingCount, f_codeLength, f_outCount, f_carriedCount, f_lastOutcome, a_actionKind, a_actionNumber, a_wayKind, a_wayFirst, a_waySecond, a_dominatorSet, a_forwardSet, a_order, a_pendingForm, a_pendingBlock, a_codeForm, a_codeBlock, a_loopPlace, a_scopeEndPlace, a_elsePlace, a_registers, a_visitCounts, a_outNumbers) := by
  have l : ∀ d r n od ol, r + d = 8 → d < n → odl od ol → osl ol (fun c => bt (ka F L r) c = true) →
      wX_orderBlocks_12 post L f_loopSet f_mergeSet f_pendingCount f_codeLength f_outCount f_carriedCount f_lastOutcome n (nI r) (ka F L r) (nI ol.length) a_actionKind a_actionNumber a_wayKind a_wayFirst a_waySecond a_dominatorSet a_forwardSet od a_pendingForm a_pendingBlock a_codeForm a_codeBlock a_loopPlace a_scopeEndPlace a_elsePlace a_registers a_visitCounts a_outNumbers := by
    intro d
    induction d with
    | zero =>
      intro r n od ol hr hn h1 h2
      obtain ⟨k, rfl⟩ : ∃ k, n = k + 1 := ⟨n - 1, by omega⟩
      obtain rfl : r = 8 := by omega
      exact br_t x8_t (hp od ol h1 h2)
    | succ d ih =>
      intro r n od ol hr hn h1 h2
      obtain ⟨k, rfl⟩ : ∃ k, n = k + 1 := ⟨n - 1, by omega⟩
      refine br_f (x8_f (by omega)) (xw_rto hf ⟨9, ?_⟩)
      refine xw_ob25 hL (ka_sub F L r) (fun od' ol' h1' h2' => ?_) 8 0 9 od ol rfl (by decide) h1 ⟨h2.1, fun c => ?_⟩
      · rw [nI_1]
        exact ih (r + 1) k od' ol' (by omega) (by omega) h1' h2'
      · rw [h2.2]
        exact ⟨fun z => Or.inl z, fun z => by
          rcases z with z | z
          · exact z
          · exact absurd z.1 (Nat.not_lt_zero c)⟩
  refine ⟨9, l 8 0 9 a_order [] rfl (by decide) (fun i c e => by cases e) ⟨fun c => Nat.zero_le 1, fun c => ?_⟩⟩
  show c ∈ [] ↔ bt 0 c = true
  rw [b_0]
  exact ⟨fun z => (by cases z), fun z => by cases z⟩
end
/-- the component's fields of the shape -/
def shp (T : Nat → Int32) (lv lo me os oc : Int32) (ds od : Nat → Int32) : Prop :=
  lv = rc T 0 ∧ lo = rl T ∧ me = rm T ∧ os = ka (rf T) (rc T 0) 8 ∧ (∀ b, b < 8 → ds b = rd T b) ∧ ∃ ol : List Nat, oc = nI ol.length ∧ odl od ol ∧ osl ol (fun c => bt (ka (rf T) (rc T 0) 8) c = true)
section
variable {f_liveSet f_loopSet f_mergeSet f_orderedSet f_orderedCount f_pendingCount f_codeLength f_outCount f_carriedCount f_lastOutcome : Int32} {a_actionKind a_actionNumber a_wayKind a_wayFirst a_waySecond a_dominatorSet a_forwardSet a_order a_pendingForm a_pendingBlock a_codeForm a_codeBlock a_loopPlace a_scopeEndPlace a_elsePlace a_registers a_visitCounts a_outNumbers : Nat → Int32} {kd fi se : Nat → Nat}
theorem xw_ss (V : vw a_wayKind a_wayFirst a_waySecond kd fi se) (K : vk kd fi se) {T : Nat → Int32} (hT : T = tm kd fi se) {post : SX → Prop}
    (hp : ∀ lv lo me os oc ds fs od, shp T lv lo me os oc ds od → post (lv, lo, me, os, oc, f_pendingCount, f_codeLength, f_outCount, f_carriedCount, f_lastOutcome, a_actionKind, a_actionNumber, a_wayKind, a_wayFirst, a_waySecond, ds, fs, od, a_pendingForm, a_pendingBlock, a_codeForm, a_codeBlock, a_loopPlace, a_scopeEndPlace, a_elsePlace, a_registers, a_visitCounts, a_outNumbers)) : wpX_studyShape post (f_liveSet, f_loopSet, f_mergeSet, f_orderedSet, f_orderedCount, f_pendingCount, f_codeLength, f_outCount, f_carriedCount, f_lastOutcome, a_actionKind, a_actionNumber, a_wayKind, a_wayFirst, a_waySecond, a_dominatorSet, a_forwardSet, a_order, a_pendingForm, a_pendingBlock, a_codeForm, a_codeBlock, a_loopPlace, a_scopeEndPlace, a_elsePlace, a_registers, a_visitCounts, a_outNumbers) := by
  have tl : rt_lo T := by
    rw [hT]
    exact tg_lo K
  unfold wpX_studyShape
  refine xw_ro V K ?_
  rw [← hT]
  refine xw_sd V K hT (fun ds h1 => ?_)
  refine xw_se V K hT h1 (fun fs h2 => ?_)
  refine xw_ob (F := rf T) (rc_cl tl 0).1 h2 (fun od ol h3 h4 => ?_)
  exact hp _ _ _ _ _ _ _ _ ⟨rfl, rfl, rfl, rfl, h1, ol, rfl, h3, h4⟩
end
end
section
/-! the reference's shape -/
theorem rc_st0 {T : Nat → Int32} {m s : Int32} {b : Nat} (hs : ∀ i, bt m i = true → bt s i = false) : (if bt s b = true then s ||| T b else s) &&& (m ^^^ (-1)) = rc_st T m s b := by
  apply b_ext
  intro i _
  rw [rb_an]
  unfold rc_st
  split
  · rw [b_or, b_or, rb_an]
    cases e : bt m i with
    | true => rw [hs i e]; cases bt (T b) i <;> rfl
    | false => cases bt s i <;> cases bt (T b) i <;> rfl
  · cases e : bt m i with
    | true => rw [hs i e]; rfl
    | false => cases bt s i <;> rfl
theorem rc_st1 {T : Nat → Int32} {s : Int32} {b : Nat} : (if bt s b = true then s ||| T b else s) = rc_st T 0 s b := by
  rw [← rc_st0 (T := T) (m := 0) (s := s) (b := b) (fun i z => by rw [b_0] at z; cases z)]
  apply b_ext
  intro i _
  rw [rb_an, b_0, Bool.not_false, Bool.and_true]
theorem rc_dis {T : Nat → Int32} {m s : Int32} (hs : ∀ i, bt m i = true → bt s i = false) (n : Nat) : ∀ i, bt m i = true → bt (rc_ps T m s n) i = false := by
  induction n with
  | zero => exact hs
  | succ n ih =>
    intro i hi
    apply rb_tf
    intro z
    rcases rc_st_in (T := T) (m := m) (s := rc_ps T m s n) (b := n) z with y | y
    · rw [ih i hi] at y
      cases y
    · rw [hi] at y
      cases y.2.2
theorem ts_nf {x : Bool} (h : ¬ x = false) : x = true := by
  cases x
  · exact absurd rfl h
  · rfl
theorem rd_z {T : Nat → Int32} (hT : rt_lo T) (b : Nat) : rd T b = 0 ↔ ¬ rv T b := by
  constructor
  · intro h z
    have a := rd_self hT z
    rw [h, b_0] at a
    cases a
  · intro h
    apply b_ext
    intro i _
    rw [b_0]
    exact rb_tf (fun z => h ((rd_iff hT b i).mp z).2.1)
def rgn (F : Nat → Int32) : Nat → Bool
  | 0 => false
  | n + 1 => rgn F n || bt (ow_c F n) n
def rgi (F : Nat → Int32) (n : Nat) : Int32 := if rgn F n = true then 1 else 0
theorem rgn_f (F : Nat → Int32) (n : Nat) : rgn F n = false ↔ ∀ b, b < n → bt (ow_c F b) b = false := by
  induction n with
  | zero => exact ⟨fun _ b hb => absurd hb (Nat.not_lt_zero b), fun _ => rfl⟩
  | succ n ih =>
    show (rgn F n || bt (ow_c F n) n) = false ↔ _
    rw [Bool.or_eq_false_iff, ih]
    constructor
    · rintro ⟨h1, h2⟩ b hb
      by_cases e : b = n
      · rw [e]
        exact h2
      · exact h1 b (by omega)
    · exact fun h => ⟨fun b hb => h b (by omega), h n (by omega)⟩
theorem x7_f {j : Nat} (h : j < 8) : ¬ (7 : Int32) < nI j := nI_nlt (a := 7) (b := j) (by omega) (by decide)
theorem xn_f {j : Nat} (h : j < 8) : ¬ nI j < 0 := nI_pos (by omega)
theorem x8_n {x : Int32} (h : nI 8 ≤ x) : ¬ x < 0 := fun z => absurd (Int32.lt_of_le_of_lt h z) (by decide)
theorem x8_7 {x : Int32} (h : nI 8 ≤ x) : (7 : Int32) < x := Int32.lt_of_lt_of_le (by decide : (7 : Int32) < nI 8) h
section
variable {f_came f_said f_done : Int32} {a_acts a_numbers a_ways a_first a_second a_over a_reg a_last a_often : Nat → Int32} {kd fi se : Nat → Nat}
theorem yw_blk {post : Int32 → Prop} {j : Nat} (hj : j < 8) (h : post 1) : wpY_block post (f_came, f_said, f_done, a_acts, a_numbers, a_ways, a_first, a_second, a_over, a_reg, a_last, a_often) (nI j) := br_f (xn_f hj) (br_f (x7_f hj) h)
theorem yw_nblk {post : Int32 → Prop} {x : Int32} (hx : x < 0 ∨ nI 8 ≤ x) (h : post 0) : wpY_block post (f_came, f_said, f_done, a_acts, a_numbers, a_ways, a_first, a_second, a_over, a_reg, a_last, a_often) x := by
  rcases hx with z | z
  · exact br_t z h
  · exact br_f (x8_n z) (br_t (x8_7 z) h)
theorem yw_nam (V : vw a_ways a_first a_second kd fi se) (K : vk kd fi se) {post : Int32 → Prop} {b : Nat} (hb : b < 8) (hp : post (tm kd fi se b)) : wpY_named post (f_came, f_said, f_done, a_acts, a_numbers, a_ways, a_first, a_second, a_over, a_reg, a_last, a_often) (nI b) := by
  obtain ⟨v1, v2, v3⟩ := V b hb
  obtain ⟨k1, k2, k3⟩ := K b hb
  have hi := xw_in hb
  unfold wpY_named
  dsimp only
  rw [xw_c hb]
  unfold tm at hp
  refine ⟨hi, ?_⟩
  by_cases k0 : kd b = 0
  · rw [if_pos k0] at hp
    exact br_t (by rw [v1, k0]; rfl) hp
  · rw [if_neg k0] at hp
    have n0 : ¬ a_ways b = 0 := by
      rw [v1]
      exact nI_ne0 (by omega) (by omega)
    refine br_f n0 ⟨hi, ?_⟩
    by_cases k4 : 2 ≤ kd b
    · rw [if_pos k4] at hp
      have n1 : ¬ a_ways b = 1 := by
        rw [v1]
        exact fun z => by
          have y := (nI_eq (a := kd b) (b := 1) (by omega) (by decide)).mp z
          omega
      refine br_f n1 ⟨hi, hi, ?_⟩
      rw [v2 k0, v3 k4]
      exact hp
    · rw [if_neg k4] at hp
      have e1 : kd b = 1 := by omega
      refine br_t (by rw [v1, e1]; rfl) ⟨hi, ?_⟩
      rw [v2 k0]
      exact hp
/-- what never says, as a mask -/
def nev (x m : Int32) : Prop := (x < 0 ∧ m = 0) ∨ ∃ h, h < 8 ∧ x = nI h ∧ m = rb_p h
theorem yw_50 {T : Nat → Int32} {post : Int32 → Prop} {J12 J21 : Int32 → Int32 → Prop} {x1 x3 x4 m s z0 : Int32} {i : Nat} (N : nev x1 m) (hs : ∀ i, bt m i = true → bt s i = false) (hz : z0 = if bt s i = true then s ||| T i else s)
    (h : J21 (rc_st T m s i) (x4 + 1)) : wY_reached_50 post J12 J21 x1 x3 x4 z0 f_came f_said f_done a_acts a_numbers a_ways a_first a_second a_over a_reg a_last a_often := by
  rcases N with ⟨n1, n2⟩ | ⟨b, n1, n2, n3⟩
  · subst n2
    rw [hz, rc_st1]
    exact br_t n1 (nm_e h)
  · subst n2 n3
    rw [hz]
    exact br_f (xn_f n1) (nm_r (e' := rc_st T (rb_p b) s i) (rc_st0 hs) (nm_e h))
theorem yw_re (V : vw a_ways a_first a_second kd fi se) (K : vk kd fi se) {post : Int32 → Prop} {x1 m : Int32} (N : nev x1 m) (hp : post (rc (tm kd fi se) m)) : wpY_reached post (f_came, f_said, f_done, a_acts, a_numbers, a_ways, a_first, a_second, a_over, a_reg, a_last, a_often) x1 := by
  have l21 : ∀ (J12 : Int32 → Int32 → Prop) (x3 s0 : Int32), (∀ i, bt m i = true → bt s0 i = false) → J12 (rc_ps (tm kd fi se) m s0 8) (x3 + 1) →
      ∀ d i n, i + d = 8 → d < n → wY_reached_21 post J12 x1 x3 f_came f_said f_done a_acts a_numbers a_ways a_first a_second a_over a_reg a_last a_often n (rc_ps (tm kd fi se) m s0 i) (nI i) := by
    intro J12 x3 s0 hs hJ d
    induction d with
    | zero =>
      intro i n hi hn
      obtain ⟨k, rfl⟩ : ∃ k, n = k + 1 := ⟨n - 1, by omega⟩
      obtain rfl : i = 8 := by omega
      exact br_t x8_t (nm_e hJ)
    | succ d ih =>
      intro i n hi hn
      obtain ⟨k, rfl⟩ : ∃ k, n = k + 1 := ⟨n - 1, by omega⟩
      have h8 : i < 8 := by omega
      have st := ih (i + 1) k (by omega) (by omega)
      have dis := rc_dis (T := tm kd fi se) hs i
      refine br_f (x8_f h8) (ek_if (rb_has _ (by omega)) (fun z => yw_nam V K h8 ?_) (fun z => ?_))
      · refine yw_50 (T := tm kd fi se) (i := i) (s := rc_ps (tm kd fi se) m s0 i) N dis (by rw [if_pos z]) ?_
        rw [nI_1]
        exact st
      · refine yw_50 (T := tm kd fi se) (i := i) (s := rc_ps (tm kd fi se) m s0 i) N dis (by rw [if_neg z]) ?_
        rw [nI_1]
        exact st
  have dit : ∀ r i, bt m i = true → bt (rs_it (fun s => rc_ps (tm kd fi se) m s 8) (rc_s0 m) r) i = false := by
    intro r
    induction r with
    | zero =>
      intro i hi
      show bt (rc_s0 m) i = false
      rw [rc_s0_b, hi, Bool.not_true, Bool.and_false]
    | succ r ih => exact rc_dis ih 8
  have l12 : ∀ d r n, r + d = 8 → d < n → wY_reached_12 post x1 f_came f_said f_done a_acts a_numbers a_ways a_first a_second a_over a_reg a_last a_often n (rs_it (fun s => rc_ps (tm kd fi se) m s 8) (rc_s0 m) r) (nI r) := by
    intro d
    induction d with
    | zero =>
      intro r n hr hn
      obtain ⟨k, rfl⟩ : ∃ k, n = k + 1 := ⟨n - 1, by omega⟩
      obtain rfl : r = 8 := by omega
      exact br_t x8_t hp
    | succ d ih =>
      intro r n hr hn
      obtain ⟨k, rfl⟩ : ∃ k, n = k + 1 := ⟨n - 1, by omega⟩
      refine br_f (x8_f (by omega)) ⟨9, l21 _ _ _ (dit r) ?_ 8 0 9 rfl (by decide)⟩
      rw [nI_1]
      exact ih (r + 1) k (by omega) (by omega)
  have st := l12 8 0 9 rfl (by decide)
  have s0 : rs_it (fun s => rc_ps (tm kd fi se) m s 8) (rc_s0 m) 0 = rc_s0 m := rfl
  rw [s0] at st
  have z1 : ∀ m, bt m 0 = false → rc_s0 m = 1 := by
    intro m hm
    apply b_ext
    intro i _
    rw [rc_s0_b, b_1]
    by_cases e : i = 0
    · subst e
      rw [hm]
      rfl
    · rw [decide_eq_false e]
      rfl
  rcases N with ⟨n1, n2⟩ | ⟨b, n1, n2, n3⟩
  · have e : rc_s0 m = 1 := z1 m (by rw [n2, b_0])
    rw [e] at st
    exact br_f (fun z => by rw [z] at n1; exact absurd n1 (by decide)) ⟨9, st⟩
  · by_cases b0 : b = 0
    · have e : rc_s0 m = 0 := by
        apply b_ext
        intro i _
        rw [rc_s0_b, b_0, n3, b0, rb_pb (by decide)]
        by_cases e : i = 0
        · rw [decide_eq_true e]
          rfl
        · rw [decide_eq_false e]
          rfl
      rw [e] at st
      exact br_t (by rw [n2, b0]; rfl) ⟨9, st⟩
    · have e : rc_s0 m = 1 := z1 m (by rw [n3, rb_pb (by omega)]; exact decide_eq_false (fun z => b0 z.symm))
      rw [e] at st
      exact br_f (by rw [n2]; exact nI_ne0 (by omega) (by omega)) ⟨9, st⟩
theorem yw_live (V : vw a_ways a_first a_second kd fi se) (K : vk kd fi se) {post : Int32 → Prop} (hp : post (rc (tm kd fi se) 0)) : wpY_live post (f_came, f_said, f_done, a_acts, a_numbers, a_ways, a_first, a_second, a_over, a_reg, a_last, a_often) := by
  unfold wpY_live
  exact yw_re V K (Or.inl ⟨by decide, rfl⟩) hp
theorem yw_dom (V : vw a_ways a_first a_second kd fi se) (K : vk kd fi se) {post : Int32 → Prop} {b : Nat} (hb : b < 8) (hp : post (rd (tm kd fi se) b)) : wpY_dominators post (f_came, f_said, f_done, a_acts, a_numbers, a_ways, a_first, a_second, a_over, a_reg, a_last, a_often) (nI b) := by
  have tl := tg_lo K
  have l : ∀ d i n, i + d = 8 → d < n → wY_dominators_10 post (nI b) (rc (tm kd fi se) 0) f_came f_said f_done a_acts a_numbers a_ways a_first a_second a_over a_reg a_last a_often n (rd_f (tm kd fi se) b i) (nI i) := by
    intro d
    induction d with
    | zero =>
      intro i n hi hn
      obtain ⟨k, rfl⟩ : ∃ k, n = k + 1 := ⟨n - 1, by omega⟩
      obtain rfl : i = 8 := by omega
      exact br_t x8_t hp
    | succ d ih =>
      intro i n hi hn
      obtain ⟨k, rfl⟩ : ∃ k, n = k + 1 := ⟨n - 1, by omega⟩
      have h8 : i < 8 := by omega
      have st := ih (i + 1) k (by omega) (by omega)
      have def1 : rd_f (tm kd fi se) b (i + 1) = if (bt (rc (tm kd fi se) 0) b && !bt (rc (tm kd fi se) (rb_p i)) b) = true then rd_f (tm kd fi se) b i ||| rb_p i else rd_f (tm kd fi se) b i := by
        show (if _ then _ else _) = _
        rw [rb_an]
      have no : (bt (rc (tm kd fi se) 0) b && !bt (rc (tm kd fi se) (rb_p i)) b) = false → wY_dominators_61 post (wY_dominators_10 post (nI b) (rc (tm kd fi se) 0) f_came f_said f_done a_acts a_numbers a_ways a_first a_second a_over a_reg a_last a_often k) (nI b) (rc (tm kd fi se) 0) (rd_f (tm kd fi se) b i) (nI i) f_came f_said f_done a_acts a_numbers a_ways a_first a_second a_over a_reg a_last a_often := by
        intro e
        rw [e, if_neg (by decide)] at def1
        rw [def1] at st
        exact br_t rfl (nm_r (nI_1 i) st)
      refine br_f (x8_f h8) (yw_blk hb (br_f x10 (ek_if (rb_has _ (by omega)) (fun z => ek_if (rb_has _ (by omega)) (fun y => yw_re V K (Or.inr ⟨i, h8, rfl, rfl⟩) (ek_if (rb_hz _ (by omega)) (fun w => ?_) (fun w => ?_))) (fun y => ?_)) (fun z => ?_))))
      · rw [z, w, if_pos (by decide)] at def1
        rw [def1] at st
        exact br_f x10 (nm_e (nm_r (nI_1 i) st))
      · exact no (by rw [ts_nf w]; simp)
      · apply no
        have lb := (rv_iff tl b).mp z
        have q : rq (tm kd fi se) i b := Classical.byContradiction (fun n => y ((rv_iff tl i).mpr (rq_lv lb n)))
        rw [(rq_iff tl h8 b).mpr q]
        simp
      · exact no (by rw [rb_tf z]; rfl)
  unfold wpY_dominators
  exact yw_live V K ⟨9, l 8 0 9 rfl (by decide)⟩
theorem yw_domn (V : vw a_ways a_first a_second kd fi se) (K : vk kd fi se) {post : Int32 → Prop} {x : Int32} (hx : x < 0 ∨ nI 8 ≤ x) (hp : post 0) : wpY_dominators post (f_came, f_said, f_done, a_acts, a_numbers, a_ways, a_first, a_second, a_over, a_reg, a_last, a_often) x := by
  unfold wpY_dominators
  exact yw_live V K ⟨1, br_f (by decide) (yw_nblk hx (br_t rfl hp))⟩
theorem yw_fo (V : vw a_ways a_first a_second kd fi se) (K : vk kd fi se) {post : SY → Prop} (hp : ∀ ov, (∀ b, b < 8 → ov b = rd (tm kd fi se) b) → post (f_came, f_said, f_done, a_acts, a_numbers, a_ways, a_first, a_second, ov, a_reg, a_last, a_often)) : wpY_findOver post (f_came, f_said, f_done, a_acts, a_numbers, a_ways, a_first, a_second, a_over, a_reg, a_last, a_often) := by
  have l : ∀ d i n ov, i + d = 8 → d < n → (∀ b, b < i → ov b = rd (tm kd fi se) b) → wY_findOver_2 post f_came f_said f_done n (nI i) a_acts a_numbers a_ways a_first a_second ov a_reg a_last a_often := by
    intro d
    induction d with
    | zero =>
      intro i n ov hi hn h
      obtain ⟨k, rfl⟩ : ∃ k, n = k + 1 := ⟨n - 1, by omega⟩
      obtain rfl : i = 8 := by omega
      exact br_t x8_t (hp ov h)
    | succ d ih =>
      intro i n ov hi hn h
      obtain ⟨k, rfl⟩ : ∃ k, n = k + 1 := ⟨n - 1, by omega⟩
      have h8 : i < 8 := by omega
      refine br_f (x8_f h8) (yw_dom V K h8 ⟨xw_in h8, nm_e (nm_r (nI_1 i) (ih (i + 1) k _ (by omega) (by omega) (fun b hb => ?_)))⟩)
      rw [xw_c h8]
      by_cases e : b = i
      · rw [e, pk_us]
      · rw [pk_un e]
        exact h b (by omega)
  exact ⟨9, l 8 0 9 a_over rfl (by decide) (fun b hb => absurd hb (Nat.not_lt_zero b))⟩
theorem yw_en0 (V : vw a_ways a_first a_second kd fi se) (K : vk kd fi se) (O : ∀ b, b < 8 → a_over b = rd (tm kd fi se) b) {post : Int32 → Prop} {b : Nat} (hb : b < 8) (hp : post (rf (tm kd fi se) b)) : wpY_ends post (f_came, f_said, f_done, a_acts, a_numbers, a_ways, a_first, a_second, a_over, a_reg, a_last, a_often) (nI b) 0 := by
  have tl := tg_lo K
  unfold wpY_ends
  dsimp only
  rw [xw_c hb, O b hb]
  refine ⟨xw_in hb, br_c (fun z => ?_) (fun z => br_t rfl (yw_nam V K hb ⟨xw_in hb, ?_⟩))⟩
  · have e : rf (tm kd fi se) b = 0 := by
      unfold rf rg
      rw [if_neg (fun y => (rd_z tl b).mp z ((rv_iff tl b).mp y)), Int32.zero_and]
    rw [e] at hp
    exact hp
  · have e : rg (tm kd fi se) b = tm kd fi se b := by
      unfold rg
      rw [if_pos ((rv_iff tl b).mpr (Classical.byContradiction (fun n => z ((rd_z tl b).mpr n))))]
    unfold rf at hp
    rw [e] at hp
    exact hp
theorem yw_en1 (V : vw a_ways a_first a_second kd fi se) (K : vk kd fi se) (O : ∀ b, b < 8 → a_over b = rd (tm kd fi se) b) {post : Int32 → Prop} {b : Nat} (hb : b < 8) (hp : post (rg (tm kd fi se) b &&& rd (tm kd fi se) b)) : wpY_ends post (f_came, f_said, f_done, a_acts, a_numbers, a_ways, a_first, a_second, a_over, a_reg, a_last, a_often) (nI b) 1 := by
  have tl := tg_lo K
  unfold wpY_ends
  dsimp only
  rw [xw_c hb, O b hb]
  refine ⟨xw_in hb, br_c (fun z => ?_) (fun z => br_f x10 (yw_nam V K hb ⟨xw_in hb, ?_⟩))⟩
  · rw [z, Int32.and_zero] at hp
    exact hp
  · have e : rg (tm kd fi se) b = tm kd fi se b := by
      unfold rg
      rw [if_pos ((rv_iff tl b).mpr (Classical.byContradiction (fun n => z ((rd_z tl b).mpr n))))]
    rw [e] at hp
    exact hp
theorem yw_on (V : vw a_ways a_first a_second kd fi se) (K : vk kd fi se) (O : ∀ b, b < 8 → a_over b = rd (tm kd fi se) b) {post : Int32 → Prop} {s : Int32} (hp : post (ow (rf (tm kd fi se)) s)) : wpY_onward post (f_came, f_said, f_done, a_acts, a_numbers, a_ways, a_first, a_second, a_over, a_reg, a_last, a_often) s := by
  have l : ∀ d i n, i + d = 8 → d < n → wY_onward_4 post s f_came f_said f_done a_acts a_numbers a_ways a_first a_second a_over a_reg a_last a_often n (ow_f (rf (tm kd fi se)) s i) (nI i) := by
    intro d
    induction d with
    | zero =>
      intro i n hi hn
      obtain ⟨k, rfl⟩ : ∃ k, n = k + 1 := ⟨n - 1, by omega⟩
      obtain rfl : i = 8 := by omega
      exact br_t x8_t hp
    | succ d ih =>
      intro i n hi hn
      obtain ⟨k, rfl⟩ : ∃ k, n = k + 1 := ⟨n - 1, by omega⟩
      have h8 : i < 8 := by omega
      have st := ih (i + 1) k (by omega) (by omega)
      have def1 : ow_f (rf (tm kd fi se)) s (i + 1) = if bt s i = true then ow_f (rf (tm kd fi se)) s i ||| rf (tm kd fi se) i else ow_f (rf (tm kd fi se)) s i := rfl
      refine br_f (x8_f h8) (ek_if (rb_has _ (by omega)) (fun z => yw_en0 V K O h8 ?_) (fun z => ?_))
      · rw [if_pos z] at def1
        rw [def1] at st
        exact nm_e (nm_r (nI_1 i) st)
      · rw [if_neg z] at def1
        rw [def1] at st
        exact nm_r (nI_1 i) st
  exact ⟨9, l 8 0 9 rfl (by decide)⟩
theorem yw_reg (V : vw a_ways a_first a_second kd fi se) (K : vk kd fi se) {post : Int32 → SY → Prop} (h0 : rgn (rf (tm kd fi se)) 8 = true → ∀ ov, post 0 (f_came, f_said, f_done, a_acts, a_numbers, a_ways, a_first, a_second, ov, a_reg, a_last, a_often)) (h1 : rgn (rf (tm kd fi se)) 8 = false → ∀ ov, post 1 (f_came, f_said, f_done, a_acts, a_numbers, a_ways, a_first, a_second, ov, a_reg, a_last, a_often)) : wpY_regular post (f_came, f_said, f_done, a_acts, a_numbers, a_ways, a_first, a_second, a_over, a_reg, a_last, a_often) := by
  unfold wpY_regular
  dsimp only
  refine yw_fo V K (fun ov O => ?_)
  have l24 : ∀ (J8 : Int32 → Int32 → Prop) b, b < 8 → J8 (rgi (rf (tm kd fi se)) (b + 1)) (nI b + 1) → ∀ d i n, i + d = 8 → d < n →
      wY_regular_24 post J8 (rgi (rf (tm kd fi se)) b) (nI b) f_came f_said f_done a_acts a_numbers a_ways a_first a_second ov a_reg a_last a_often n (rs_it (ow (rf (tm kd fi se))) (rf (tm kd fi se) b) i) (nI i) := by
    intro J8 b hb hJ d
    induction d with
    | zero =>
      intro i n hi hn
      obtain ⟨k, rfl⟩ : ∃ k, n = k + 1 := ⟨n - 1, by omega⟩
      obtain rfl : i = 8 := by omega
      have def1 : rgn (rf (tm kd fi se)) (b + 1) = (rgn (rf (tm kd fi se)) b || bt (ow_c (rf (tm kd fi se)) b) b) := rfl
      refine br_t x8_t ?_
      unfold rgi at hJ ⊢
      rw [def1] at hJ
      cases e : rgn (rf (tm kd fi se)) b with
      | true =>
        rw [e, Bool.true_or, if_pos rfl] at hJ
        rw [if_pos rfl]
        exact br_f x10 (nm_e hJ)
      | false =>
        rw [e, Bool.false_or] at hJ
        rw [if_neg (by decide)]
        refine br_t rfl (ek_if (rb_has _ (by omega)) (fun z => ?_) (fun z => ?_))
        · have z' : bt (ow_c (rf (tm kd fi se)) b) b = true := z
          rw [if_pos z'] at hJ
          exact nm_e hJ
        · have z' : ¬ bt (ow_c (rf (tm kd fi se)) b) b = true := z
          rw [if_neg z'] at hJ
          exact nm_e hJ
    | succ d ih =>
      intro i n hi hn
      obtain ⟨k, rfl⟩ : ∃ k, n = k + 1 := ⟨n - 1, by omega⟩
      exact br_f (x8_f (by omega)) (yw_on V K O (nm_r (nI_1 i) (ih (i + 1) k (by omega) (by omega))))
  have l8 : ∀ d i n, i + d = 8 → d < n → wY_regular_8 post f_came f_said f_done a_acts a_numbers a_ways a_first a_second ov a_reg a_last a_often n (rgi (rf (tm kd fi se)) i) (nI i) := by
    intro d
    induction d with
    | zero =>
      intro i n hi hn
      obtain ⟨k, rfl⟩ : ∃ k, n = k + 1 := ⟨n - 1, by omega⟩
      obtain rfl : i = 8 := by omega
      refine br_t x8_t ?_
      unfold rgi
      cases e : rgn (rf (tm kd fi se)) 8 with
      | true =>
        rw [if_pos rfl]
        exact br_f x10 (h0 e ov)
      | false =>
        rw [if_neg (by decide)]
        exact br_t rfl (h1 e ov)
    | succ d ih =>
      intro i n hi hn
      obtain ⟨k, rfl⟩ : ∃ k, n = k + 1 := ⟨n - 1, by omega⟩
      refine br_f (x8_f (by omega)) (yw_en0 V K O (by omega) ⟨9, l24 _ i (by omega) ?_ 8 0 9 rfl (by decide)⟩)
      rw [nI_1]
      exact ih (i + 1) k (by omega) (by omega)
  exact ⟨9, l8 8 0 9 rfl (by decide)⟩
theorem yw_lps (V : vw a_ways a_first a_second kd fi se) (K : vk kd fi se) {post : Int32 → SY → Prop} (hp : ∀ ov, post (rl (tm kd fi se)) (f_came, f_said, f_done, a_acts, a_numbers, a_ways, a_first, a_second, ov, a_reg, a_last, a_often)) : wpY_loops post (f_came, f_said, f_done, a_acts, a_numbers, a_ways, a_first, a_second, a_over, a_reg, a_last, a_often) := by
  unfold wpY_loops
  dsimp only
  refine yw_fo V K (fun ov O => ?_)
  have l : ∀ d i n, i + d = 8 → d < n → wY_loops_8 post f_came f_said f_done a_acts a_numbers a_ways a_first a_second ov a_reg a_last a_often n (rl_f (tm kd fi se) i) (nI i) := by
    intro d
    induction d with
    | zero =>
      intro i n hi hn
      obtain ⟨k, rfl⟩ : ∃ k, n = k + 1 := ⟨n - 1, by omega⟩
      obtain rfl : i = 8 := by omega
      exact br_t x8_t (hp ov)
    | succ d ih =>
      intro i n hi hn
      obtain ⟨k, rfl⟩ : ∃ k, n = k + 1 := ⟨n - 1, by omega⟩
      exact br_f (x8_f (by omega)) (yw_en1 V K O (by omega) (nm_r (e' := rl_f (tm kd fi se) (i + 1)) rfl (nm_r (nI_1 i) (ih (i + 1) k (by omega) (by omega)))))
  exact ⟨9, l 8 0 9 rfl (by decide)⟩
theorem yw_mer (V : vw a_ways a_first a_second kd fi se) (K : vk kd fi se) {post : Int32 → SY → Prop} (hp : ∀ ov, post (rm (tm kd fi se)) (f_came, f_said, f_done, a_acts, a_numbers, a_ways, a_first, a_second, ov, a_reg, a_last, a_often)) : wpY_merges post (f_came, f_said, f_done, a_acts, a_numbers, a_ways, a_first, a_second, a_over, a_reg, a_last, a_often) := by
  unfold wpY_merges
  dsimp only
  refine yw_fo V K (fun ov O => ?_)
  have l : ∀ d i n, i + d = 8 → d < n → wY_merges_10 post f_came f_said f_done a_acts a_numbers a_ways a_first a_second ov a_reg a_last a_often n (rm_o (tm kd fi se) i) (rm_f (tm kd fi se) i) (nI i) := by
    intro d
    induction d with
    | zero =>
      intro i n hi hn
      obtain ⟨k, rfl⟩ : ∃ k, n = k + 1 := ⟨n - 1, by omega⟩
      obtain rfl : i = 8 := by omega
      exact br_t x8_t (hp ov)
    | succ d ih =>
      intro i n hi hn
      obtain ⟨k, rfl⟩ : ∃ k, n = k + 1 := ⟨n - 1, by omega⟩
      exact br_f (x8_f (by omega)) (yw_en0 V K O (by omega) (nm_r (e' := rm_f (tm kd fi se) (i + 1)) rfl (nm_r (e' := rm_o (tm kd fi se) (i + 1)) rfl (nm_r (nI_1 i) (ih (i + 1) k (by omega) (by omega))))))
  exact ⟨9, l 8 0 9 rfl (by decide)⟩
end
end
section
/-! the component writes its code -/
theorem rb_is {m : Int32} (T : Nat → Int32) (b c : Nat) {ds : Nat → Int32} (hm : m = rm T) (h1 : ds b = rd T b) (h2 : ds c = rd T c) :
    (bt m c = true ∧ ds b = (ds c &&& (rb_p c ^^^ (-1)))) ↔ mub T b c = true := by rw [mub_iff, hm, h1, h2]
theorem x128_f {i : Nat} (h : i < 128) : ¬ (128 : Int32) ≤ nI i := nI_ge (b := 128) h (by decide)
section
variable {f_liveSet f_loopSet f_mergeSet f_orderedSet f_orderedCount f_pendingCount f_codeLength f_outCount f_carriedCount f_lastOutcome : Int32} {a_actionKind a_actionNumber a_wayKind a_wayFirst a_waySecond a_dominatorSet a_forwardSet a_order a_pendingForm a_pendingBlock a_codeForm a_codeBlock a_loopPlace a_scopeEndPlace a_elsePlace a_registers a_visitCounts a_outNumbers : Nat → Int32}
theorem xw_push {post : SX → Prop} {L : List (Nat × Nat)} {f x : Nat} (hl : L.length < 128) (hs : stk a_pendingForm a_pendingBlock L)
    (hp : ∀ pf pb, stk pf pb ((f, x) :: L) → post (f_liveSet, f_loopSet, f_mergeSet, f_orderedSet, f_orderedCount, nI ((f, x) :: L).length, f_codeLength, f_outCount, f_carriedCount, f_lastOutcome, a_actionKind, a_actionNumber, a_wayKind, a_wayFirst, a_waySecond, a_dominatorSet, a_forwardSet, a_order, pf, pb, a_codeForm, a_codeBlock, a_loopPlace, a_scopeEndPlace, a_elsePlace, a_registers, a_visitCounts, a_outNumbers)) : wpX_push post (f_liveSet, f_loopSet, f_mergeSet, f_orderedSet, f_orderedCount, nI L.length, f_codeLength, f_outCount, f_carriedCount, f_lastOutcome, a_actionKind, a_actionNumber, a_wayKind, a_wayFirst, a_waySecond, a_dominatorSet, a_forwardSet, a_order, a_pendingForm, a_pendingBlock, a_codeForm, a_codeBlock, a_loopPlace, a_scopeEndPlace, a_elsePlace, a_registers, a_visitCounts, a_outNumbers) (nI f) (nI x) := by
  have hi : vp_in (nI L.length) 128 := vp_in_nI hl (by decide)
  have c : (nI L.length).toNatClampNeg = L.length := nI_clamp (by omega)
  refine br_f (x128_f hl) ⟨hi, nm_r (by rw [c]) ⟨hi, nm_r (by rw [c]) (nm_r (nI_1 _) (hp _ _ (stk_c hs)))⟩⟩
theorem xw_mu {T : Nat → Int32} {post : Int32 → Prop} {b c : Nat} (hb : b < 8) (hc : c < 8) (hm : f_mergeSet = rm T) (hd : ∀ b, b < 8 → a_dominatorSet b = rd T b)
    (h1 : mub T b c = true → post 1) (h0 : mub T b c = false → post 0) : wpX_isMergeUnder post (f_liveSet, f_loopSet, f_mergeSet, f_orderedSet, f_orderedCount, f_pendingCount, f_codeLength, f_outCount, f_carriedCount, f_lastOutcome, a_actionKind, a_actionNumber, a_wayKind, a_wayFirst, a_waySecond, a_dominatorSet, a_forwardSet, a_order, a_pendingForm, a_pendingBlock, a_codeForm, a_codeBlock, a_loopPlace, a_scopeEndPlace, a_elsePlace, a_registers, a_visitCounts, a_outNumbers) (nI b) (nI c) := by
  have q := rb_is T b c hm (hd b hb) (hd c hc)
  unfold wpX_isMergeUnder
  dsimp only
  rw [xw_c hb, xw_c hc]
  refine xw_has hc (fun z => br_f x10 ⟨xw_in hb, xw_in hc, br_c (fun y => h1 (q.mp ⟨z, y⟩)) (fun y => h0 (rb_tf (fun w => y (q.mpr w).2)))⟩) (fun z => br_t rfl (h0 (rb_tf (fun w => ?_))))
  have y := (q.mpr w).1
  rw [z] at y
  cases y
theorem xw_ef {T : Nat → Int32} {post : Int32 → Prop} {b c : Nat} (hb : b < 8) (hc : c < 8) (hm : f_mergeSet = rm T) (hd : ∀ b, b < 8 → a_dominatorSet b = rd T b)
    (hp : post (nI (ef T b c))) : wpX_edgeForm post (f_liveSet, f_loopSet, f_mergeSet, f_orderedSet, f_orderedCount, f_pendingCount, f_codeLength, f_outCount, f_carriedCount, f_lastOutcome, a_actionKind, a_actionNumber, a_wayKind, a_wayFirst, a_waySecond, a_dominatorSet, a_forwardSet, a_order, a_pendingForm, a_pendingBlock, a_codeForm, a_codeBlock, a_loopPlace, a_scopeEndPlace, a_elsePlace, a_registers, a_visitCounts, a_outNumbers) (nI b) (nI c) := by
  unfold ef at hp
  unfold wpX_edgeForm
  dsimp only
  rw [xw_c hb, hd b hb, hm]
  refine ⟨xw_in hb, xw_has hc (fun z => br_f x10 ?_) (fun z => br_t rfl (xw_has hc (fun y => br_f x10 ?_) (fun y => br_t rfl ?_)))⟩
  · rw [if_pos z] at hp
    exact hp
  · rw [if_neg (by rw [z]; decide), if_pos y] at hp
    exact hp
  · rw [if_neg (by rw [z]; decide), if_neg (by rw [y]; decide)] at hp
    exact hp
theorem xw_pw {kd fi se : Nat → Nat} (V : vw a_wayKind a_wayFirst a_waySecond kd fi se) (K : vk kd fi se) {T : Nat → Int32} (hm : f_mergeSet = rm T) (hd : ∀ b, b < 8 → a_dominatorSet b = rd T b)
    {post : SX → Prop} {L : List (Nat × Nat)} {b : Nat} (hb : b < 8) (hl : L.length < 120) (hs : stk a_pendingForm a_pendingBlock L)
    (hp : ∀ pf pb, stk pf pb (lk_way (ef T) kd fi se b ++ L) → post (f_liveSet, f_loopSet, f_mergeSet, f_orderedSet, f_orderedCount, nI (lk_way (ef T) kd fi se b ++ L).length, f_codeLength, f_outCount, f_carriedCount, f_lastOutcome, a_actionKind, a_actionNumber, a_wayKind, a_wayFirst, a_waySecond, a_dominatorSet, a_forwardSet, a_order, pf, pb, a_codeForm, a_codeBlock, a_loopPlace, a_scopeEndPlace, a_elsePlace, a_registers, a_visitCounts, a_outNumbers)) : wpX_pushWay post (f_liveSet, f_loopSet, f_mergeSet, f_orderedSet, f_orderedCount, nI L.length, f_codeLength, f_outCount, f_carriedCount, f_lastOutcome, a_actionKind, a_actionNumber, a_wayKind, a_wayFirst, a_waySecond, a_dominatorSet, a_forwardSet, a_order, a_pendingForm, a_pendingBlock, a_codeForm, a_codeBlock, a_loopPlace, a_scopeEndPlace, a_elsePlace, a_registers, a_visitCounts, a_outNumbers) (nI b) := by
  obtain ⟨v1, v2, v3⟩ := V b hb
  obtain ⟨k1, k2, k3⟩ := K b hb
  have hi := xw_in hb
  unfold wpX_pushWay
  dsimp only
  rw [xw_c hb]
  refine ⟨hi, ?_⟩
  unfold lk_way at hp
  by_cases k0 : kd b = 0
  · rw [if_pos k0] at hp
    exact br_t (by rw [v1, k0]; rfl) (xw_push (f := 11) (x := b) (by omega) hs hp)
  · rw [if_neg k0] at hp
    have n0 : ¬ a_wayKind b = 0 := by
      rw [v1]
      exact nI_ne0 (by omega) (by omega)
    refine br_f n0 ⟨hi, nm_r (v2 k0) (xw_ef (T := T) hb (k2 k0) hm hd ⟨hi, ?_⟩)⟩
    by_cases e1 : kd b = 1
    · rw [if_pos (Or.inl e1)] at hp
      exact br_t (by rw [v1, e1]; rfl) (xw_push (f := ef T b (fi b)) (x := fi b) (by omega) hs hp)
    · have n1 : ¬ a_wayKind b = 1 := by
        rw [v1]
        exact fun z => by
          have y := (nI_eq (a := kd b) (b := 1) (by omega) (by decide)).mp z
          omega
      have g2 : 2 ≤ kd b := by omega
      have q := k2 k0
      have q' := k3 g2
      refine br_f n1 ⟨hi, ?_⟩
      rw [v3 g2]
      by_cases e2 : fi b = se b
      · rw [if_pos (Or.inr e2)] at hp
        exact br_t (by rw [e2]) (xw_push (f := ef T b (fi b)) (x := fi b) (by omega) hs hp)
      · rw [if_neg (fun z => by rcases z with z | z; exact e1 z; exact e2 z)] at hp
        refine br_f (fun z => e2 ((nI_eq (by omega) (by omega)).mp z)) ⟨hi, nm_e (xw_ef (T := T) hb (k3 g2) hm hd ?_)⟩
        refine xw_push (f := 8) (x := b) (by omega) hs (fun pf1 pb1 s1 => ?_)
        refine xw_push (f := ef T b (se b)) (x := se b) (by simp only [List.length_cons]; omega) s1 (fun pf2 pb2 s2 => ?_)
        refine xw_push (f := 7) (x := b) (by simp only [List.length_cons]; omega) s2 (fun pf3 pb3 s3 => ?_)
        refine xw_push (f := ef T b (fi b)) (x := fi b) (by simp only [List.length_cons]; omega) s3 (fun pf4 pb4 s4 => ?_)
        refine xw_push (f := 6) (x := b) (by simp only [List.length_cons]; omega) s4 (fun pf5 pb5 s5 => ?_)
        exact hp pf5 pb5 s5
theorem xw_pp83 {T : Nat → Int32} (hm : f_mergeSet = rm T) (hd : ∀ b, b < 8 → a_dominatorSet b = rd T b) (hlo : f_loopSet = rl T)
    {post : SX → Prop} {b : Nat} (hb : b < 8) {L0 : List (Nat × Nat)} {ol : List Nat} (O : odl a_order ol) (h8 : ∀ c, c ∈ ol → c < 8) (l8 : ol.length ≤ 8) (hl : L0.length < 118)
    (hp : ∀ pf pb, stk pf pb (lk_t (lps T) 1 b (lk_scs (mul T ol b) L0)) → post (f_liveSet, f_loopSet, f_mergeSet, f_orderedSet, nI ol.length, nI (lk_t (lps T) 1 b (lk_scs (mul T ol b) L0)).length, f_codeLength, f_outCount, f_carriedCount, f_lastOutcome, a_actionKind, a_actionNumber, a_wayKind, a_wayFirst, a_waySecond, a_dominatorSet, a_forwardSet, a_order, pf, pb, a_codeForm, a_codeBlock, a_loopPlace, a_scopeEndPlace, a_elsePlace, a_registers, a_visitCounts, a_outNumbers)) :
    ∀ d i n pf pb, i + d = ol.length → d < n → stk pf pb (lk_scs ((ol.take i).filter (mub T b)) L0) →
      wX_pushPiece_83 post (nI b) n (nI i) f_liveSet f_loopSet f_mergeSet f_orderedSet (nI ol.length) (nI (lk_scs ((ol.take i).filter (mub T b)) L0).length) f_codeLength f_outCount f_carriedCount f_lastOutcome a_actionKind a_actionNumber a_wayKind a_wayFirst a_waySecond a_dominatorSet a_forwardSet a_order pf pb a_codeForm a_codeBlock a_loopPlace a_scopeEndPlace a_elsePlace a_registers a_visitCounts a_outNumbers := by
  have ln : ∀ i, (lk_scs ((ol.take i).filter (mub T b)) L0).length < 127 := by
    intro i
    rw [lk_scs_l]
    have a := List.length_filter_le (mub T b) (ol.take i)
    have c := List.length_take_le i ol
    have c' : (ol.take i).length ≤ ol.length := by
      rw [List.length_take]
      omega
    omega
  intro d
  induction d with
  | zero =>
    intro i n pf pb hi hn hs
    obtain ⟨k, rfl⟩ : ∃ k, n = k + 1 := ⟨n - 1, by omega⟩
    obtain rfl : i = ol.length := by omega
    have ll := ln ol.length
    rw [List.take_length] at hs ll ⊢
    unfold lk_t lps at hp
    refine br_t (nI_le (Nat.le_refl _) (by omega)) (xw_has hb (fun z => br_f x10 ?_) (fun z => br_t rfl ?_))
    · rw [hlo] at z
      rw [if_pos z] at hp
      exact xw_push (f := 1) (x := b) (by unfold mul at *; omega) hs (fun pf' pb' s' => hp pf' pb' s')
    · rw [hlo] at z
      rw [if_neg (by rw [z]; decide)] at hp
      exact hp pf pb hs
  | succ d ih =>
    intro i n pf pb hi hn hs
    obtain ⟨k, rfl⟩ : ∃ k, n = k + 1 := ⟨n - 1, by omega⟩
    have hil : i < ol.length := by omega
    obtain ⟨c, hc⟩ : ∃ c, ol[i]? = some c := ⟨ol[i], List.getElem?_eq_getElem hil⟩
    have oc : a_order (nI i).toNatClampNeg = nI c := by
      rw [nI_clamp (by omega)]
      exact O i c hc
    have c8 : c < 8 := h8 c (List.mem_of_getElem? hc)
    have hin : vp_in (nI i) 8 := vp_in_nI (by omega) (by decide)
    have tk : ol.take (i + 1) = ol.take i ++ [c] := by
      rw [List.take_add_one, hc]
      rfl
    have st := fun pf pb => ih (i + 1) k pf pb (by omega) (by omega)
    rw [tk, List.filter_append] at st
    refine br_f (nI_ge hil (by omega)) ⟨hin, ?_⟩
    rw [oc]
    refine xw_mu (T := T) hb c8 hm hd (fun z => br_f x10 ⟨hin, ?_⟩) (fun z => br_t rfl (nm_r (nI_1 i) ?_))
    · have e : [c].filter (mub T b) = [c] := by
        rw [List.filter_cons, if_pos z]
        rfl
      rw [e, lk_scs_a] at st
      exact xw_push (f := 3) (x := c) (by have := ln i; omega) hs (fun pf' pb' s' => nm_r (nI_1 i) (st pf' pb' s'))
    · have e : [c].filter (mub T b) = [] := by
        rw [List.filter_cons, if_neg (by rw [z]; decide)]
        rfl
      rw [e, List.append_nil] at st
      exact st pf pb hs
theorem xw_pp24 {kd fi se : Nat → Nat} (V : vw a_wayKind a_wayFirst a_waySecond kd fi se) (K : vk kd fi se) {T : Nat → Int32} (hm : f_mergeSet = rm T) (hd : ∀ b, b < 8 → a_dominatorSet b = rd T b) (hlo : f_loopSet = rl T)
    {post : SX → Prop} {b : Nat} (hb : b < 8) {S1 : List (Nat × Nat)} {ol : List Nat} (O : odl a_order ol) (h8 : ∀ c, c ∈ ol → c < 8) (l8 : ol.length ≤ 8) (hl : S1.length < 90)
    (hp : ∀ pf pb, stk pf pb (lk_t (lps T) 1 b (lk_scs (mul T ol b) ((5, b) :: (lk_way (ef T) kd fi se b ++ (lk_ends (mul T ol b) ++ S1))))) → post (f_liveSet, f_loopSet, f_mergeSet, f_orderedSet, nI ol.length, nI (lk_t (lps T) 1 b (lk_scs (mul T ol b) ((5, b) :: (lk_way (ef T) kd fi se b ++ (lk_ends (mul T ol b) ++ S1))))).length, f_codeLength, f_outCount, f_carriedCount, f_lastOutcome, a_actionKind, a_actionNumber, a_wayKind, a_wayFirst, a_waySecond, a_dominatorSet, a_forwardSet, a_order, pf, pb, a_codeForm, a_codeBlock, a_loopPlace, a_scopeEndPlace, a_elsePlace, a_registers, a_visitCounts, a_outNumbers)) :
    ∀ i n pf pb, i ≤ ol.length → i < n → stk pf pb (lk_ends ((ol.drop i).filter (mub T b)) ++ S1) →
      wX_pushPiece_24 post (nI b) n (nI i - 1) f_liveSet f_loopSet f_mergeSet f_orderedSet (nI ol.length) (nI (lk_ends ((ol.drop i).filter (mub T b)) ++ S1).length) f_codeLength f_outCount f_carriedCount f_lastOutcome a_actionKind a_actionNumber a_wayKind a_wayFirst a_waySecond a_dominatorSet a_forwardSet a_order pf pb a_codeForm a_codeBlock a_loopPlace a_scopeEndPlace a_elsePlace a_registers a_visitCounts a_outNumbers := by
  have ln : ∀ i, (lk_ends ((ol.drop i).filter (mub T b)) ++ S1).length ≤ 16 + S1.length := by
    intro i
    rw [List.length_append, lk_ends_l]
    have a := List.length_filter_le (mub T b) (ol.drop i)
    rw [List.length_drop] at a
    omega
  have lw : (lk_way (ef T) kd fi se b).length ≤ 5 := by
    rw [← lk_1_len]
    exact lk_way_len (ef T) kd fi se b
  intro i
  induction i with
  | zero =>
    intro n pf pb hi hn hs
    obtain ⟨k, rfl⟩ : ∃ k, n = k + 1 := ⟨n - 1, by omega⟩
    have l0 := ln 0
    rw [List.drop_zero] at hs l0 ⊢
    refine br_t (by decide) (xw_pw V K (T := T) hm hd hb (by omega) hs (fun pf1 pb1 s1 => ?_))
    refine xw_push (f := 5) (x := b) (by rw [List.length_append]; omega) s1 (fun pf2 pb2 s2 => ⟨9, ?_⟩)
    refine xw_pp83 (T := T) (b := b) (ol := ol) (L0 := (5, b) :: (lk_way (ef T) kd fi se b ++ (lk_ends (mul T ol b) ++ S1))) hm hd hlo hb O h8 l8 ?_ hp ol.length 0 9 pf2 pb2 (Nat.zero_add _) (by omega) s2
    rw [List.length_cons, List.length_append]
    unfold mul
    omega
  | succ i ih =>
    intro n pf pb hi hn hs
    obtain ⟨k, rfl⟩ : ∃ k, n = k + 1 := ⟨n - 1, by omega⟩
    have hil : i < ol.length := by omega
    obtain ⟨c, hc⟩ : ∃ c, ol[i]? = some c := ⟨ol[i], List.getElem?_eq_getElem hil⟩
    have oc : a_order (nI i).toNatClampNeg = nI c := by
      rw [nI_clamp (by omega)]
      exact O i c hc
    have c8 : c < 8 := h8 c (List.mem_of_getElem? hc)
    have hin : vp_in (nI i) 8 := vp_in_nI (by omega) (by decide)
    have dp : ol.drop i = c :: ol.drop (i + 1) := by
      obtain ⟨hp', e⟩ := List.getElem?_eq_some_iff.mp hc
      rw [List.drop_eq_getElem_cons hp', e]
    have st := fun pf pb => ih k pf pb (by omega) (by omega)
    rw [dp, List.filter_cons] at st
    rw [nI_pred]
    have m1 : nI i + (-1) = nI i - 1 := by rw [Int32.sub_eq_add_neg]
    refine br_f (nI_pos (by omega)) ⟨hin, ?_⟩
    rw [oc]
    refine xw_mu (T := T) hb c8 hm hd (fun z => br_f x10 ⟨hin, ?_⟩) (fun z => br_t rfl (nm_r m1 ?_))
    · rw [if_pos z] at st
      have la := ln (i + 1)
      exact xw_push (f := 0) (x := c) (by omega) hs (fun pf1 pb1 s1 => ⟨hin, by
        rw [oc]
        exact xw_push (f := 4) (x := c) (by rw [List.length_cons]; omega) s1 (fun pf2 pb2 s2 => nm_r m1 (st pf2 pb2 s2))⟩)
    · rw [if_neg (by rw [z]; decide)] at st
      exact st pf pb hs
theorem xw_pp {kd fi se : Nat → Nat} (V : vw a_wayKind a_wayFirst a_waySecond kd fi se) (K : vk kd fi se) {T : Nat → Int32} (hm : f_mergeSet = rm T) (hd : ∀ b, b < 8 → a_dominatorSet b = rd T b) (hlo : f_loopSet = rl T)
    {post : SX → Prop} {b : Nat} (hb : b < 8) {S : List (Nat × Nat)} {ol : List Nat} (hoc : f_orderedCount = nI ol.length) (O : odl a_order ol) (h8 : ∀ c, c ∈ ol → c < 8) (l8 : ol.length ≤ 8) (hl : S.length < 89) (hs : stk a_pendingForm a_pendingBlock S)
    (hp : ∀ pf pb, stk pf pb (lk_ex (lps T) (mul T ol) (ef T) kd fi se b S) → post (f_liveSet, f_loopSet, f_mergeSet, f_orderedSet, f_orderedCount, nI (lk_ex (lps T) (mul T ol) (ef T) kd fi se b S).length, f_codeLength, f_outCount, f_carriedCount, f_lastOutcome, a_actionKind, a_actionNumber, a_wayKind, a_wayFirst, a_waySecond, a_dominatorSet, a_forwardSet, a_order, pf, pb, a_codeForm, a_codeBlock, a_loopPlace, a_scopeEndPlace, a_elsePlace, a_registers, a_visitCounts, a_outNumbers)) :
    wpX_pushPiece post (f_liveSet, f_loopSet, f_mergeSet, f_orderedSet, f_orderedCount, nI S.length, f_codeLength, f_outCount, f_carriedCount, f_lastOutcome, a_actionKind, a_actionNumber, a_wayKind, a_wayFirst, a_waySecond, a_dominatorSet, a_forwardSet, a_order, a_pendingForm, a_pendingBlock, a_codeForm, a_codeBlock, a_loopPlace, a_scopeEndPlace, a_elsePlace, a_registers, a_visitCounts, a_outNumbers) (nI b) := by
  subst hoc
  have go : ∀ pf pb, stk pf pb (lk_t (lps T) 2 b S) → wX_pushPiece_24 post (nI b) 10 (nI ol.length - 1) f_liveSet f_loopSet f_mergeSet f_orderedSet (nI ol.length) (nI (lk_t (lps T) 2 b S).length) f_codeLength f_outCount f_carriedCount f_lastOutcome a_actionKind a_actionNumber a_wayKind a_wayFirst a_waySecond a_dominatorSet a_forwardSet a_order pf pb a_codeForm a_codeBlock a_loopPlace a_scopeEndPlace a_elsePlace a_registers a_visitCounts a_outNumbers := by
    intro pf pb h
    have e : lk_ends ((ol.drop ol.length).filter (mub T b)) ++ lk_t (lps T) 2 b S = lk_t (lps T) 2 b S := by
      rw [List.drop_length]
      rfl
    have l90 : (lk_t (lps T) 2 b S).length < 90 := by
      unfold lk_t
      split
      · rw [List.length_cons]
        omega
      · omega
    have g := xw_pp24 V K hm hd hlo hb O h8 l8 l90 hp ol.length 10 pf pb (Nat.le_refl _) (by omega)
    rw [e] at g
    exact g h
  unfold lk_t lps at go
  unfold wpX_pushPiece
  dsimp only
  refine xw_has hb (fun z => br_f x10 ?_) (fun z => br_t rfl ?_)
  · rw [hlo] at z
    rw [if_pos z] at go
    exact xw_push (f := 2) (x := b) (by omega) hs (fun pf pb s => nm_e ⟨10, go pf pb s⟩)
  · rw [hlo] at z
    rw [if_neg (by rw [z]; decide)] at go
    exact nm_e ⟨10, go _ _ hs⟩
end
end
section
/-! writeCode -/
def bl (L : List (Nat × Nat)) : Prop := ∀ i, i ∈ L → i.1 ≤ 11 ∧ i.2 < 8
theorem bl_k {f x : Nat} (h : f ≤ 11) (h' : x < 8) : ((f, x) : Nat × Nat).1 ≤ 11 ∧ ((f, x) : Nat × Nat).2 < 8 := ⟨h, h'⟩
theorem bl_ex {kd fi se : Nat → Nat} (K : vk kd fi se) (T : Nat → Int32) {ol : List Nat} (h8 : ∀ c, c ∈ ol → c < 8) {b : Nat} (hb : b < 8) {S : List (Nat × Nat)} (h : bl S) : bl (lk_ex (lps T) (mul T ol) (ef T) kd fi se b S) := by
  obtain ⟨k1, k2, k3⟩ := K b hb
  have m8 : ∀ m, m ∈ mul T ol b → m < 8 := fun m hm => h8 m ((List.mem_filter.mp hm).1)
  have e11 : ∀ c, ef T b c ≤ 11 := fun c => by
    have := ef_3 T b c
    omega
  intro i hi
  rcases (lk_m_ex _ _ _ _ _ _ i b S).mp hi with ⟨_, z⟩ | ⟨m, hm, z⟩ | z | z | z | ⟨_, z⟩ | z
  · rw [z]
    exact bl_k (by decide) hb
  · rw [z]
    exact bl_k (by decide) (m8 m hm)
  · rw [z]
    exact bl_k (by decide) hb
  · unfold lk_way at z
    by_cases k0 : kd b = 0
    · rw [if_pos k0] at z
      rw [List.mem_singleton.mp z]
      exact bl_k (by decide) hb
    · rw [if_neg k0] at z
      by_cases e1 : kd b = 1 ∨ fi b = se b
      · rw [if_pos e1] at z
        rw [List.mem_singleton.mp z]
        exact ⟨e11 _, k2 k0⟩
      · rw [if_neg e1] at z
        have g2 : 2 ≤ kd b := by omega
        rcases List.mem_cons.mp z with z | z
        · rw [z]
          exact bl_k (by decide) hb
        · rcases List.mem_cons.mp z with z | z
          · rw [z]
            exact ⟨e11 _, k2 k0⟩
          · rcases List.mem_cons.mp z with z | z
            · rw [z]
              exact bl_k (by decide) hb
            · rcases List.mem_cons.mp z with z | z
              · rw [z]
                exact ⟨e11 _, k3 g2⟩
              · rw [List.mem_singleton.mp z]
                exact bl_k (by decide) hb
  · obtain ⟨m, hm, z⟩ := (lk_m_ends _ _).mp z
    rcases z with z | z
    · rw [z]
      exact bl_k (by decide) (m8 m hm)
    · rw [z]
      exact bl_k (by decide) (m8 m hm)
  · rw [z]
    exact bl_k (by decide) hb
  · exact h i z
theorem nI_n {a b : Nat} (ha : a < 2 ^ 31) (hb : b < 2 ^ 31) (h : a ≠ b) : ¬ nI a = nI b := fun z => h ((nI_eq ha hb).mp z)
section
variable {f_liveSet f_loopSet f_mergeSet f_orderedSet f_orderedCount f_pendingCount f_codeLength f_outCount f_carriedCount f_lastOutcome : Int32} {a_actionKind a_actionNumber a_wayKind a_wayFirst a_waySecond a_dominatorSet a_forwardSet a_order a_pendingForm a_pendingBlock a_codeForm a_codeBlock a_loopPlace a_scopeEndPlace a_elsePlace a_registers a_visitCounts a_outNumbers : Nat → Int32}
theorem xw_write {post : SX → Prop} {A : List (Nat × Nat)} {f x : Nat} (hl : A.length < 128) (hf : f ≤ 11) (hx : x < 8) (hc : cod a_codeForm a_codeBlock A) (h1 : plc 1 a_loopPlace A) (h4 : plc 4 a_scopeEndPlace A) (h7 : plc 7 a_elsePlace A)
    (hp : ∀ cf cb lp sp el, cod cf cb (A ++ [(f, x)]) → plc 1 lp (A ++ [(f, x)]) → plc 4 sp (A ++ [(f, x)]) → plc 7 el (A ++ [(f, x)]) →
      post (f_liveSet, f_loopSet, f_mergeSet, f_orderedSet, f_orderedCount, f_pendingCount, nI (A ++ [(f, x)]).length, f_outCount, f_carriedCount, f_lastOutcome, a_actionKind, a_actionNumber, a_wayKind, a_wayFirst, a_waySecond, a_dominatorSet, a_forwardSet, a_order, a_pendingForm, a_pendingBlock, cf, cb, lp, sp, el, a_registers, a_visitCounts, a_outNumbers)) : wpX_write post (f_liveSet, f_loopSet, f_mergeSet, f_orderedSet, f_orderedCount, f_pendingCount, nI A.length, f_outCount, f_carriedCount, f_lastOutcome, a_actionKind, a_actionNumber, a_wayKind, a_wayFirst, a_waySecond, a_dominatorSet, a_forwardSet, a_order, a_pendingForm, a_pendingBlock, a_codeForm, a_codeBlock, a_loopPlace, a_scopeEndPlace, a_elsePlace, a_registers, a_visitCounts, a_outNumbers) (nI f) (nI x) := by
  have hi : vp_in (nI A.length) 128 := vp_in_nI hl (by decide)
  have c : (nI A.length).toNatClampNeg = A.length := nI_clamp (by omega)
  have e : nI A.length + 1 = nI (A ++ [(f, x)]).length := by
    rw [nI_1, List.length_append]
    rfl
  have cx := xw_c hx
  have hx' := xw_in hx
  have hc' := cod_a f x hc
  refine br_t (nI_lt (b := 128) hl (by decide)) ⟨hi, nm_r (by rw [c]) ⟨hi, nm_r (by rw [c]) ?_⟩⟩
  by_cases f1 : f = 1
  · subst f1
    exact br_t rfl ⟨hx', nm_r (by rw [cx]) (nm_r e (hp _ _ _ _ _ hc' (plc_s h1) (plc_o (by decide) h4) (plc_o (by decide) h7)))⟩
  · refine br_f (nI_n (b := 1) (by omega) (by decide) f1) ?_
    by_cases f4 : f = 4
    · subst f4
      exact br_t rfl ⟨hx', nm_r (by rw [cx]) (nm_r e (hp _ _ _ _ _ hc' (plc_o f1 h1) (plc_s h4) (plc_o (by decide) h7)))⟩
    · refine br_f (nI_n (b := 4) (by omega) (by decide) f4) ?_
      by_cases f7 : f = 7
      · subst f7
        exact br_t rfl ⟨hx', nm_r (by rw [cx]) (nm_r e (hp _ _ _ _ _ hc' (plc_o f1 h1) (plc_o f4 h4) (plc_s h7)))⟩
      · exact br_f (nI_n (b := 7) (by omega) (by decide) f7) (nm_r e (hp _ _ _ _ _ hc' (plc_o f1 h1) (plc_o f4 h4) (plc_o f7 h7)))
theorem xw_wc {kd fi se : Nat → Nat} (V : vw a_wayKind a_wayFirst a_waySecond kd fi se) (K : vk kd fi se) {T : Nat → Int32} (hT : T = tm kd fi se) (hm : f_mergeSet = rm T) (hd : ∀ b, b < 8 → a_dominatorSet b = rd T b) (hlo : f_loopSet = rl T)
    {post : SX → Prop} {ol : List Nat} (hoc : f_orderedCount = nI ol.length) (O : odl a_order ol) (OK : olk T ol)
    (hp : ∀ pc pf pb cf cb lp sp el A, cod cf cb A → plc 1 lp A → plc 4 sp A → plc 7 el A → lk_I (lps T) (mul T ol) (ef T) kd fi se (rk T) (rv T) A → bl A → (∀ x, ¬ (0, x) ∈ A) → lk_nd 0 A →
      post (f_liveSet, f_loopSet, f_mergeSet, f_orderedSet, f_orderedCount, pc, nI A.length, f_outCount, f_carriedCount, f_lastOutcome, a_actionKind, a_actionNumber, a_wayKind, a_wayFirst, a_waySecond, a_dominatorSet, a_forwardSet, a_order, pf, pb, cf, cb, lp, sp, el, a_registers, a_visitCounts, a_outNumbers)) : wpX_writeCode post (f_liveSet, f_loopSet, f_mergeSet, f_orderedSet, f_orderedCount, f_pendingCount, f_codeLength, f_outCount, f_carriedCount, f_lastOutcome, a_actionKind, a_actionNumber, a_wayKind, a_wayFirst, a_waySecond, a_dominatorSet, a_forwardSet, a_order, a_pendingForm, a_pendingBlock, a_codeForm, a_codeBlock, a_loopPlace, a_scopeEndPlace, a_elsePlace, a_registers, a_visitCounts, a_outNumbers) := by
  have tl : rt_lo T := by
    rw [hT]
    exact tg_lo K
  have h8 : ∀ c, c ∈ ol → c < 8 := fun c hc => rr_lt tl ((OK.2 c).mp hc)
  have l8 : ol.length ≤ 8 := lk_n_len OK.1 h8
  have H := sh_H K hT OK
  have lp18 : ∀ d i n pf pb cf cb lp sp el A L, i + d = 100 → d < n → stk pf pb L → cod cf cb A → plc 1 lp A → plc 4 sp A → plc 7 el A → lk_I (lps T) (mul T ol) (ef T) kd fi se (rk T) (rv T) (A ++ L) → bl (A ++ L) → (∀ x, ¬ (0, x) ∈ A) → lk_nd 0 (A ++ L) →
      i = A.length + lk_w lk_D (A ++ L) →
      wX_writeCode_18 post n (nI i) f_liveSet f_loopSet f_mergeSet f_orderedSet f_orderedCount (nI L.length) (nI A.length) f_outCount f_carriedCount f_lastOutcome a_actionKind a_actionNumber a_wayKind a_wayFirst a_waySecond a_dominatorSet a_forwardSet a_order pf pb cf cb lp sp el a_registers a_visitCounts a_outNumbers := by
    intro d
    induction d with
    | zero =>
      intro i n pf pb cf cb lp sp el A L hi hn hs hc h1 h4 h7 I B Z N E
      obtain ⟨q1, q2⟩ := lk_I_n _ _ _ _ _ _ _ _ H I
      rw [List.length_append] at q2
      omega
    | succ d ih =>
      intro i n pf pb cf cb lp sp el A L hi hn hs hc h1 h4 h7 I B Z N E
      obtain ⟨k, rfl⟩ : ∃ k, n = k + 1 := ⟨n - 1, by omega⟩
      obtain ⟨q1, q2⟩ := lk_I_n _ _ _ _ _ _ _ _ H I
      rw [List.length_append] at q2
      refine br_f (x128_f (by omega)) ?_
      cases L with
      | nil =>
        rw [List.append_nil] at I B N
        exact br_t (by decide) (hp _ _ _ _ _ _ _ _ A hc h1 h4 h7 I B Z N)
      | cons it S =>
        obtain ⟨f, x⟩ := it
        rw [List.length_cons] at q2
        obtain ⟨s1, s2, s3⟩ := hs
        have b1 := B (f, x) (List.mem_append.mpr (Or.inr (List.mem_cons_self ..)))
        have f11 : f ≤ 11 := b1.1
        have x8 : x < 8 := b1.2
        have cS : (nI S.length).toNatClampNeg = S.length := nI_clamp (by omega)
        have hin : vp_in (nI S.length) 128 := vp_in_nI (by omega) (by decide)
        refine br_f (nI_nle (Nat.succ_pos _) (by rw [List.length_cons]; omega)) (nm_r (nI_pred S.length) ⟨hin, nm_r (e' := nI f) (by rw [cS]; exact s1) ⟨hin, nm_r (e' := nI x) (by rw [cS]; exact s2) ?_⟩⟩)
        by_cases f0 : f = 0
        · subst f0
          refine br_t rfl (xw_pp V K (T := T) hm hd hlo x8 hoc O h8 l8 (by omega) s3 (fun pf' pb' s' => nm_r (nI_1 i) ?_))
          refine ih (i + 1) k pf' pb' cf cb lp sp el A _ (by omega) (by omega) s' hc h1 h4 h7 (lk_I_r _ _ _ _ _ _ _ _ H A S x I) ?_ Z (lk_nd_r _ _ _ _ _ _ 0 x S A N) ?_
          · intro j hj
            rcases List.mem_append.mp hj with hj | hj
            · exact B j (List.mem_append.mpr (Or.inl hj))
            · exact bl_ex K T h8 x8 (fun y hy => B y (List.mem_append.mpr (Or.inr (List.mem_cons_of_mem _ hy)))) j hj
          · obtain ⟨_, _, e3⟩ := lk_nm_ex (lps T) (mul T ol) (ef T) (ef_3 T) kd fi se x S
            rw [lk_w_a] at E ⊢
            rw [e3]
            have e4 : lk_w lk_D ((0, x) :: S) = 0 + lk_w lk_D S := rfl
            omega
        · refine br_f (nI_n (b := 0) (by omega) (by decide) f0) (xw_write (by omega) f11 x8 hc h1 h4 h7 (fun cf' cb' lp' sp' el' c' p1 p4 p7 => nm_r (nI_1 i) ?_))
          have as : A ++ [(f, x)] ++ S = A ++ (f, x) :: S := by rw [List.append_assoc]; rfl
          refine ih (i + 1) k pf pb cf' cb' lp' sp' el' (A ++ [(f, x)]) S (by omega) (by omega) s3 c' p1 p4 p7 (by rw [as]; exact I) (by rw [as]; exact B) (fun y hy => ?_) (by rw [as]; exact N) ?_
          · rcases List.mem_append.mp hy with hy | hy
            · exact Z y hy
            · have w := List.mem_singleton.mp hy
              injection w with w1 _
              exact f0 w1.symm
          · rw [as, List.length_append, List.length_singleton]
            omega
  unfold wpX_writeCode
  dsimp only
  refine xw_push (L := []) (f := 0) (x := 0) (by decide) trivial (fun pf pb s => ⟨101, ?_⟩)
  refine lp18 100 0 101 pf pb _ _ _ _ _ [] [(0, 0)] rfl (by decide) s (fun i f x e => by cases e) (fun b hb => by cases hb) (fun b hb => by cases hb) (fun b hb => by cases hb) (lk_I_0 _ _ _ _ _ _ _ _ H) (fun i hi => ?_) (fun x hx => by cases hx) (lk_nd_p 0 []) rfl
  have w := List.mem_singleton.mp hi
  rw [w]
  exact ⟨by decide, by decide⟩
end
end
section
/-! the component runs its code -/
/-- the actions hold what act lets in -/
def va (ak an : Nat → Int32) (ac : Nat → Nat) : Prop := ∀ b, b < 8 → ak b = nI (ac b) ∧ ac b ≤ 9 ∧ (7 ≤ ac b → ∃ j, j < 3 ∧ an b = nI j)
theorem up_w {f g : Nat → Int32} {k N : Nat} {x y : Int32} (h : ∀ i, i < N → f i = g i) (e : x = y) : ∀ i, i < N → upd f k x i = upd g k y i := by
  intro i hi
  by_cases z : i = k
  · subst z
    rw [pk_us, pk_us, e]
  · rw [pk_un z, pk_un z]
    exact h i hi
section
variable {f_liveSet f_loopSet f_mergeSet f_orderedSet f_orderedCount f_pendingCount f_codeLength f_outCount f_carriedCount f_lastOutcome : Int32} {a_actionKind a_actionNumber a_wayKind a_wayFirst a_waySecond a_dominatorSet a_forwardSet a_order a_pendingForm a_pendingBlock a_codeForm a_codeBlock a_loopPlace a_scopeEndPlace a_elsePlace a_registers a_visitCounts a_outNumbers : Nat → Int32}
theorem xw_93 {post : SX → Prop} {b n : Nat} (hb : b < 8) {vs : Nat → Int32} (hv : ∀ i, i < 8 → a_visitCounts i = vs i) (hp : ∀ vc, (∀ i, i < 8 → vc i = pu_vs b vs i) → post (f_liveSet, f_loopSet, f_mergeSet, f_orderedSet, f_orderedCount, f_pendingCount, f_codeLength, f_outCount, nI (n + 1), f_lastOutcome, a_actionKind, a_actionNumber, a_wayKind, a_wayFirst, a_waySecond, a_dominatorSet, a_forwardSet, a_order, a_pendingForm, a_pendingBlock, a_codeForm, a_codeBlock, a_loopPlace, a_scopeEndPlace, a_elsePlace, a_registers, vc, a_outNumbers)) :
    wX_carryOut_93 post (nI b) f_liveSet f_loopSet f_mergeSet f_orderedSet f_orderedCount f_pendingCount f_codeLength f_outCount (nI n) f_lastOutcome a_actionKind a_actionNumber a_wayKind a_wayFirst a_waySecond a_dominatorSet a_forwardSet a_order a_pendingForm a_pendingBlock a_codeForm a_codeBlock a_loopPlace a_scopeEndPlace a_elsePlace a_registers a_visitCounts a_outNumbers := by
  have c := xw_c hb
  have hin := xw_in hb
  refine ⟨hin, hin, nm_r (by rw [c]) (nm_r (nI_1 n) (hp _ (up_w hv ?_)))⟩
  rw [hv b hb]
theorem xw_co {ac : Nat → Nat} (VA : va a_actionKind a_actionNumber ac) {post : SX → Prop} {b n : Nat} (hb : b < 8) (hn : n < 80) {rg vs : Nat → Int32} {os : List Int32} (ho : os.length ≤ n)
    (hr : ∀ i, i < 3 → a_registers i = rg i) (hv : ∀ i, i < 8 → a_visitCounts i = vs i) (hx : ouX a_outNumbers os)
    (hp : ∀ rs vc on, (∀ i, i < 3 → rs i = pu_rg ac a_actionNumber b rg i) → (∀ i, i < 8 → vc i = pu_vs b vs i) → ouX on (pu_os ac b rg os) →
      post (f_liveSet, f_loopSet, f_mergeSet, f_orderedSet, f_orderedCount, f_pendingCount, f_codeLength, nI (pu_os ac b rg os).length, nI (n + 1), f_lastOutcome, a_actionKind, a_actionNumber, a_wayKind, a_wayFirst, a_waySecond, a_dominatorSet, a_forwardSet, a_order, a_pendingForm, a_pendingBlock, a_codeForm, a_codeBlock, a_loopPlace, a_scopeEndPlace, a_elsePlace, rs, vc, on)) :
    wpX_carryOut post (f_liveSet, f_loopSet, f_mergeSet, f_orderedSet, f_orderedCount, f_pendingCount, f_codeLength, nI os.length, nI n, f_lastOutcome, a_actionKind, a_actionNumber, a_wayKind, a_wayFirst, a_waySecond, a_dominatorSet, a_forwardSet, a_order, a_pendingForm, a_pendingBlock, a_codeForm, a_codeBlock, a_loopPlace, a_scopeEndPlace, a_elsePlace, a_registers, a_visitCounts, a_outNumbers) (nI b) := by
  obtain ⟨v1, v2, v3⟩ := VA b hb
  have c := xw_c hb
  have hin := xw_in hb
  unfold wpX_carryOut
  dsimp only
  rw [c]
  refine br_t (nI_lt (b := 80) hn (by decide)) ⟨hin, nm_r v1 ?_⟩
  unfold pu_rg pu_os at hp
  by_cases k7 : 7 ≤ ac b
  · rw [if_pos k7] at hp
    rw [if_neg (fun z : 4 ≤ ac b ∧ ac b < 7 => by omega)] at hp
    obtain ⟨j, j3, ej⟩ := v3 k7
    have es : nI (ac b) - 7 = nI (ac b - 7) := pk_sub (b := 7) k7
    have cs : (nI (ac b - 7)).toNatClampNeg = ac b - 7 := nI_clamp (by omega)
    have cj : (nI j).toNatClampNeg = j := nI_clamp (by omega)
    refine br_f (nI_nlt (b := 7) k7 (by omega)) ⟨hin, ?_⟩
    rw [ej, es, cs, cj]
    rw [ej, cj] at hp
    refine ⟨vp_in_nI j3 (by decide), vp_in_nI (by omega) (by decide), nm_e (xw_93 hb hv (fun vc hvc => hp _ vc a_outNumbers (up_w hr (hr j j3)) hvc hx))⟩
  · rw [if_neg k7] at hp
    refine br_t (nI_lt (b := 7) (by omega) (by decide)) ?_
    by_cases k4 : 4 ≤ ac b
    · rw [if_pos k4, if_pos (⟨k4, by omega⟩ : 4 ≤ ac b ∧ ac b < 7)] at hp
      have es : nI (ac b) - 4 = nI (ac b - 4) := pk_sub (b := 4) k4
      have cs : (nI (ac b - 4)).toNatClampNeg = ac b - 4 := nI_clamp (by omega)
      have co : (nI os.length).toNatClampNeg = os.length := nI_clamp (by omega)
      have hio : vp_in (nI os.length) 80 := vp_in_nI (by omega) (by decide)
      refine br_f (nI_nlt (b := 4) k4 (by omega)) ?_
      rw [es, cs]
      refine ⟨vp_in_nI (by omega) (by decide), br_f (nI_ge (b := 80) (by omega) (by decide)) ⟨hio, nm_r (e' := upd a_outNumbers os.length (rg (ac b - 4))) (by rw [co, hr _ (by omega)]) (nm_r (nI_1 _) (xw_93 hb hv (fun vc hvc => hp _ vc _ hr hvc (ouX_c hx))))⟩⟩
    · rw [if_neg k4, if_neg (fun z : 4 ≤ ac b ∧ ac b < 7 => k4 z.1)] at hp
      refine br_t (nI_lt (b := 4) (by omega) (by decide)) ?_
      by_cases k1 : 1 ≤ ac b
      · rw [if_pos k1] at hp
        have es : nI (ac b) - 1 = nI (ac b - 1) := pk_sub (b := 1) k1
        have cs : (nI (ac b - 1)).toNatClampNeg = ac b - 1 := nI_clamp (by omega)
        have hi3 : vp_in (nI (ac b - 1)) 3 := vp_in_nI (by omega) (by decide)
        refine br_f (nI_nlt (b := 1) k1 (by omega)) ?_
        rw [es, cs]
        exact ⟨hi3, hin, hi3, nm_e (xw_93 hb hv (fun vc hvc => hp _ vc a_outNumbers (up_w hr (by rw [hr _ (by omega)])) hvc hx))⟩
      · rw [if_neg k1] at hp
        exact br_t (nI_lt (b := 1) (by omega) (by decide)) (xw_93 hb hv (fun vc hvc => hp _ vc a_outNumbers hr hvc hx))
/-! one step of the walk over the code -/
theorem xr_e {A : List (Nat × Nat)} (hc : cod a_codeForm a_codeBlock A) (hl : A.length ≤ 78) {p f x : Nat} (e : A[p]? = some (f, x)) :
    p < A.length ∧ vp_in (nI p) 128 ∧ a_codeForm (nI p).toNatClampNeg = nI f ∧ a_codeBlock (nI p).toNatClampNeg = nI x := by
  obtain ⟨hp, _⟩ := List.getElem?_eq_some_iff.mp e
  have cp : (nI p).toNatClampNeg = p := nI_clamp (by omega)
  rw [cp]
  exact ⟨hp, vp_in_nI (by omega) (by decide), (hc p f x e).1, (hc p f x e).2⟩
theorem xr_d {A : List (Nat × Nat)} (hc : cod a_codeForm a_codeBlock A) (hl : A.length ≤ 78) {post : SX → Prop} {p f x st n : Nat} (e : A[p]? = some (f, x)) (hf : f < 5) (hs : st < 1000000)
    (h : wX_runCode_4 post n (nI (p + 1)) (nI (st + 1)) f_liveSet f_loopSet f_mergeSet f_orderedSet f_orderedCount f_pendingCount (nI A.length) f_outCount f_carriedCount 0 a_actionKind a_actionNumber a_wayKind a_wayFirst a_waySecond a_dominatorSet a_forwardSet a_order a_pendingForm a_pendingBlock a_codeForm a_codeBlock a_loopPlace a_scopeEndPlace a_elsePlace a_registers a_visitCounts a_outNumbers) : wX_runCode_4 post (n + 1) (nI p) (nI st) f_liveSet f_loopSet f_mergeSet f_orderedSet f_orderedCount f_pendingCount (nI A.length) f_outCount f_carriedCount 0 a_actionKind a_actionNumber a_wayKind a_wayFirst a_waySecond a_dominatorSet a_forwardSet a_order a_pendingForm a_pendingBlock a_codeForm a_codeBlock a_loopPlace a_scopeEndPlace a_elsePlace a_registers a_visitCounts a_outNumbers := by
  obtain ⟨hp, hin, e1, e2⟩ := xr_e hc hl e
  refine br_f (nI_ge (b := 1000000) hs (by decide)) (br_t rfl (br_f (nI_ge hp (by omega)) ⟨hin, nm_e ⟨hin, nm_r e1 (br_t (nI_lt (b := 5) hf (by decide)) (nm_r (nI_1 st) ?_))⟩⟩))
  rw [nI_1 p]
  exact h
theorem xr_9 {A : List (Nat × Nat)} (hc : cod a_codeForm a_codeBlock A) (hl : A.length ≤ 78) {post : SX → Prop} {p c st n j : Nat} (e : A[p]? = some (9, c)) (c8 : c < 8) (hj : a_scopeEndPlace c = nI j) (hs : st < 1000000)
    (h : wX_runCode_4 post n (nI (j + 1)) (nI (st + 1)) f_liveSet f_loopSet f_mergeSet f_orderedSet f_orderedCount f_pendingCount (nI A.length) f_outCount f_carriedCount 0 a_actionKind a_actionNumber a_wayKind a_wayFirst a_waySecond a_dominatorSet a_forwardSet a_order a_pendingForm a_pendingBlock a_codeForm a_codeBlock a_loopPlace a_scopeEndPlace a_elsePlace a_registers a_visitCounts a_outNumbers) : wX_runCode_4 post (n + 1) (nI p) (nI st) f_liveSet f_loopSet f_mergeSet f_orderedSet f_orderedCount f_pendingCount (nI A.length) f_outCount f_carriedCount 0 a_actionKind a_actionNumber a_wayKind a_wayFirst a_waySecond a_dominatorSet a_forwardSet a_order a_pendingForm a_pendingBlock a_codeForm a_codeBlock a_loopPlace a_scopeEndPlace a_elsePlace a_registers a_visitCounts a_outNumbers := by
  obtain ⟨hp, hin, e1, e2⟩ := xr_e hc hl e
  refine br_f (nI_ge (b := 1000000) hs (by decide)) (br_t rfl (br_f (nI_ge hp (by omega)) ⟨hin, nm_r e2 ⟨hin, nm_r e1 (br_f (by decide) (br_f (by decide) (br_f (by decide) (br_f (by decide) (br_f (by decide) (br_f (by decide) (br_t (by decide) ⟨xw_in c8, nm_r (nI_1 st) ?_⟩)))))))⟩⟩))
  rw [xw_c c8, hj, nI_1 j]
  exact h
theorem xr_10 {A : List (Nat × Nat)} (hc : cod a_codeForm a_codeBlock A) (hl : A.length ≤ 78) {post : SX → Prop} {p c st n j : Nat} (e : A[p]? = some (10, c)) (c8 : c < 8) (hj : a_loopPlace c = nI j) (hs : st < 1000000)
    (h : wX_runCode_4 post n (nI j) (nI (st + 1)) f_liveSet f_loopSet f_mergeSet f_orderedSet f_orderedCount f_pendingCount (nI A.length) f_outCount f_carriedCount 0 a_actionKind a_actionNumber a_wayKind a_wayFirst a_waySecond a_dominatorSet a_forwardSet a_order a_pendingForm a_pendingBlock a_codeForm a_codeBlock a_loopPlace a_scopeEndPlace a_elsePlace a_registers a_visitCounts a_outNumbers) : wX_runCode_4 post (n + 1) (nI p) (nI st) f_liveSet f_loopSet f_mergeSet f_orderedSet f_orderedCount f_pendingCount (nI A.length) f_outCount f_carriedCount 0 a_actionKind a_actionNumber a_wayKind a_wayFirst a_waySecond a_dominatorSet a_forwardSet a_order a_pendingForm a_pendingBlock a_codeForm a_codeBlock a_loopPlace a_scopeEndPlace a_elsePlace a_registers a_visitCounts a_outNumbers := by
  obtain ⟨hp, hin, e1, e2⟩ := xr_e hc hl e
  refine br_f (nI_ge (b := 1000000) hs (by decide)) (br_t rfl (br_f (nI_ge hp (by omega)) ⟨hin, nm_r e2 ⟨hin, nm_r e1 (br_f (by decide) (br_f (by decide) (br_f (by decide) (br_f (by decide) (br_f (by decide) (br_f (by decide) (br_f (by decide) (br_t (by decide) ⟨xw_in c8, nm_r (nI_1 st) ?_⟩))))))))⟩⟩))
  rw [xw_c c8, hj]
  exact h
theorem xr_11 {A : List (Nat × Nat)} (hc : cod a_codeForm a_codeBlock A) (hl : A.length ≤ 78) {post : SX → Prop} {p c st n : Nat} (e : A[p]? = some (11, c)) (hs : st + 1 < 1000000)
    (h : post (f_liveSet, f_loopSet, f_mergeSet, f_orderedSet, f_orderedCount, f_pendingCount, nI A.length, f_outCount, f_carriedCount, 1, a_actionKind, a_actionNumber, a_wayKind, a_wayFirst, a_waySecond, a_dominatorSet, a_forwardSet, a_order, a_pendingForm, a_pendingBlock, a_codeForm, a_codeBlock, a_loopPlace, a_scopeEndPlace, a_elsePlace, a_registers, a_visitCounts, a_outNumbers)) : wX_runCode_4 post (n + 2) (nI p) (nI st) f_liveSet f_loopSet f_mergeSet f_orderedSet f_orderedCount f_pendingCount (nI A.length) f_outCount f_carriedCount 0 a_actionKind a_actionNumber a_wayKind a_wayFirst a_waySecond a_dominatorSet a_forwardSet a_order a_pendingForm a_pendingBlock a_codeForm a_codeBlock a_loopPlace a_scopeEndPlace a_elsePlace a_registers a_visitCounts a_outNumbers := by
  obtain ⟨hp, hin, e1, e2⟩ := xr_e hc hl e
  refine br_f (nI_ge (b := 1000000) (by omega) (by decide)) (br_t rfl (br_f (nI_ge hp (by omega)) ⟨hin, nm_r e2 ⟨hin, nm_r e1 (br_f (by decide) (br_f (by decide) (br_f (by decide) (br_f (by decide) (br_f (by decide) (br_f (by decide) (br_f (by decide) (br_f (by decide) (br_t (by decide) (nm_r (nI_1 st) (br_f (nI_ge (b := 1000000) hs (by decide)) (br_f x10 h))))))))))))⟩⟩))
theorem xr_6 {kd fi se : Nat → Nat} (V : vw a_wayKind a_wayFirst a_waySecond kd fi se) (K : vk kd fi se) {A : List (Nat × Nat)} (hc : cod a_codeForm a_codeBlock A) (hl : A.length ≤ 78) {post : SX → Prop} {p b st n j : Nat} (e : A[p]? = some (6, b)) (b8 : b < 8) (k2 : 2 ≤ kd b) (hj : a_elsePlace b = nI j) (hs : st < 1000000)
    (h1 : 0 < a_registers (kd b - 2) → wX_runCode_4 post n (nI (p + 1)) (nI (st + 1)) f_liveSet f_loopSet f_mergeSet f_orderedSet f_orderedCount f_pendingCount (nI A.length) f_outCount f_carriedCount 0 a_actionKind a_actionNumber a_wayKind a_wayFirst a_waySecond a_dominatorSet a_forwardSet a_order a_pendingForm a_pendingBlock a_codeForm a_codeBlock a_loopPlace a_scopeEndPlace a_elsePlace a_registers a_visitCounts a_outNumbers)
    (h0 : ¬ 0 < a_registers (kd b - 2) → wX_runCode_4 post n (nI (j + 1)) (nI (st + 1)) f_liveSet f_loopSet f_mergeSet f_orderedSet f_orderedCount f_pendingCount (nI A.length) f_outCount f_carriedCount 0 a_actionKind a_actionNumber a_wayKind a_wayFirst a_waySecond a_dominatorSet a_forwardSet a_order a_pendingForm a_pendingBlock a_codeForm a_codeBlock a_loopPlace a_scopeEndPlace a_elsePlace a_registers a_visitCounts a_outNumbers) : wX_runCode_4 post (n + 1) (nI p) (nI st) f_liveSet f_loopSet f_mergeSet f_orderedSet f_orderedCount f_pendingCount (nI A.length) f_outCount f_carriedCount 0 a_actionKind a_actionNumber a_wayKind a_wayFirst a_waySecond a_dominatorSet a_forwardSet a_order a_pendingForm a_pendingBlock a_codeForm a_codeBlock a_loopPlace a_scopeEndPlace a_elsePlace a_registers a_visitCounts a_outNumbers := by
  obtain ⟨hp, hin, e1, e2⟩ := xr_e hc hl e
  have kb : a_wayKind b - 2 = nI (kd b - 2) := by
    rw [(V b b8).1]
    exact pk_sub (b := 2) k2
  have k4 := (K b b8).1
  have ck : (nI (kd b - 2)).toNatClampNeg = kd b - 2 := nI_clamp (by omega)
  refine br_f (nI_ge (b := 1000000) hs (by decide)) (br_t rfl (br_f (nI_ge hp (by omega)) ⟨hin, nm_r e2 ⟨hin, nm_r e1 (br_f (by decide) (br_f (by decide) (br_f (by decide) (br_t (by decide) ⟨xw_in b8, ?_⟩))))⟩⟩))
  rw [xw_c b8, kb, ck]
  refine ⟨vp_in_nI (by omega) (by decide), br_c (fun z => ⟨xw_in b8, nm_r (nI_1 st) ?_⟩) (fun z => nm_r (nI_1 st) ?_)⟩
  · rw [hj, nI_1 j]
    exact h0 (Int32.not_lt.mpr z)
  · rw [nI_1 p]
    exact h1 (Int32.not_le.mp z)
theorem xr_5 {ac : Nat → Nat} (VA : va a_actionKind a_actionNumber ac) {A : List (Nat × Nat)} (hc : cod a_codeForm a_codeBlock A) (hl : A.length ≤ 78) {post : SX → Prop} {p b st n k : Nat} (e : A[p]? = some (5, b)) (b8 : b < 8) (hk : k < 80) (hs : st < 1000000)
    {rg vs : Nat → Int32} {os : List Int32} (ho : os.length ≤ k) (hr : ∀ i, i < 3 → a_registers i = rg i) (hv : ∀ i, i < 8 → a_visitCounts i = vs i) (hx : ouX a_outNumbers os)
    (h : ∀ rs vc on, (∀ i, i < 3 → rs i = pu_rg ac a_actionNumber b rg i) → (∀ i, i < 8 → vc i = pu_vs b vs i) → ouX on (pu_os ac b rg os) →
      wX_runCode_4 post n (nI (p + 1)) (nI (st + 1)) f_liveSet f_loopSet f_mergeSet f_orderedSet f_orderedCount f_pendingCount (nI A.length) (nI (pu_os ac b rg os).length) (nI (k + 1)) 0 a_actionKind a_actionNumber a_wayKind a_wayFirst a_waySecond a_dominatorSet a_forwardSet a_order a_pendingForm a_pendingBlock a_codeForm a_codeBlock a_loopPlace a_scopeEndPlace a_elsePlace rs vc on) :
    wX_runCode_4 post (n + 1) (nI p) (nI st) f_liveSet f_loopSet f_mergeSet f_orderedSet f_orderedCount f_pendingCount (nI A.length) (nI os.length) (nI k) 0 a_actionKind a_actionNumber a_wayKind a_wayFirst a_waySecond a_dominatorSet a_forwardSet a_order a_pendingForm a_pendingBlock a_codeForm a_codeBlock a_loopPlace a_scopeEndPlace a_elsePlace a_registers a_visitCounts a_outNumbers := by
  obtain ⟨hp, hin, e1, e2⟩ := xr_e hc hl e
  refine br_f (nI_ge (b := 1000000) hs (by decide)) (br_t rfl (br_f (nI_ge hp (by omega)) ⟨hin, nm_r e2 ⟨hin, nm_r e1 (br_f (by decide) (br_f (by decide) (br_t (by decide) (xw_co VA b8 hk ho hr hv hx (fun rs vc on q1 q2 q3 => nm_r (nI_1 st) ?_)))))⟩⟩))
  rw [nI_1 p]
  exact h rs vc on q1 q2 q3
theorem xr_5t {A : List (Nat × Nat)} (hc : cod a_codeForm a_codeBlock A) (hl : A.length ≤ 78) {post : SX → Prop} {p b st n : Nat} (e : A[p]? = some (5, b)) (b8 : b < 8) (hs : st + 1 < 1000000)
    (h : post (f_liveSet, f_loopSet, f_mergeSet, f_orderedSet, f_orderedCount, f_pendingCount, nI A.length, f_outCount, nI 80, 2, a_actionKind, a_actionNumber, a_wayKind, a_wayFirst, a_waySecond, a_dominatorSet, a_forwardSet, a_order, a_pendingForm, a_pendingBlock, a_codeForm, a_codeBlock, a_loopPlace, a_scopeEndPlace, a_elsePlace, a_registers, a_visitCounts, a_outNumbers)) :
    wX_runCode_4 post (n + 2) (nI p) (nI st) f_liveSet f_loopSet f_mergeSet f_orderedSet f_orderedCount f_pendingCount (nI A.length) f_outCount (nI 80) 0 a_actionKind a_actionNumber a_wayKind a_wayFirst a_waySecond a_dominatorSet a_forwardSet a_order a_pendingForm a_pendingBlock a_codeForm a_codeBlock a_loopPlace a_scopeEndPlace a_elsePlace a_registers a_visitCounts a_outNumbers := by
  obtain ⟨hp, hin, e1, e2⟩ := xr_e hc hl e
  refine br_f (nI_ge (b := 1000000) (by omega) (by decide)) (br_t rfl (br_f (nI_ge hp (by omega)) ⟨hin, nm_r e2 ⟨hin, nm_r e1 (br_f (by decide) (br_f (by decide) (br_t (by decide) (br_f (by decide) (nm_r (nI_1 st) (br_f (nI_ge (b := 1000000) hs (by decide)) (br_f (by decide) h)))))))⟩⟩))
end
end
section
/-! the component's walk over its code is the walk of the blocks -/
section
variable {f_liveSet f_loopSet f_mergeSet f_orderedSet f_orderedCount f_pendingCount f_codeLength f_outCount f_carriedCount f_lastOutcome : Int32} {a_actionKind a_actionNumber a_wayKind a_wayFirst a_waySecond a_dominatorSet a_forwardSet a_order a_pendingForm a_pendingBlock a_codeForm a_codeBlock a_loopPlace a_scopeEndPlace a_elsePlace a_registers a_visitCounts a_outNumbers : Nat → Int32}
theorem xs_skip {A : List (Nat × Nat)} (hc : cod a_codeForm a_codeBlock A) (hl : A.length ≤ 78) (Z0 : ∀ x, ¬ (0, x) ∈ A) {post : SX → Prop} {b : Nat} :
    ∀ m p n st, A.length ≤ p + m → lk_nd b (A.drop p) → m ≤ n → st + m < 1000000 →
      (∀ n' st' q, n ≤ n' + m → st' ≤ st + m → A[q]? = some (5, b) → wX_runCode_4 post n' (nI q) (nI st') f_liveSet f_loopSet f_mergeSet f_orderedSet f_orderedCount f_pendingCount (nI A.length) f_outCount f_carriedCount 0 a_actionKind a_actionNumber a_wayKind a_wayFirst a_waySecond a_dominatorSet a_forwardSet a_order a_pendingForm a_pendingBlock a_codeForm a_codeBlock a_loopPlace a_scopeEndPlace a_elsePlace a_registers a_visitCounts a_outNumbers) →
      wX_runCode_4 post n (nI p) (nI st) f_liveSet f_loopSet f_mergeSet f_orderedSet f_orderedCount f_pendingCount (nI A.length) f_outCount f_carriedCount 0 a_actionKind a_actionNumber a_wayKind a_wayFirst a_waySecond a_dominatorSet a_forwardSet a_order a_pendingForm a_pendingBlock a_codeForm a_codeBlock a_loopPlace a_scopeEndPlace a_elsePlace a_registers a_visitCounts a_outNumbers := by
  intro m
  induction m with
  | zero =>
    intro p n st h1 h2 _ _ _
    rw [List.drop_eq_nil_of_le (i := p) (by omega)] at h2
    exact h2.elim
  | succ m ih =>
    intro p n st h1 h2 h3 h4 h5
    cases e : A.drop p with
    | nil =>
      rw [e] at h2
      exact h2.elim
    | cons i r =>
      obtain ⟨f, x⟩ := i
      obtain ⟨d1, d2, d3⟩ := dr_c e
      rw [e] at h2
      have h2' : if f = 1 ∨ f = 3 then lk_nd b r else ((f = 0 ∨ f = 5) ∧ x = b) := h2
      by_cases w : f = 1 ∨ f = 3
      · rw [if_pos w] at h2'
        obtain ⟨k, rfl⟩ : ∃ k, n = k + 1 := ⟨n - 1, by omega⟩
        refine xr_d hc hl d1 (by omega) (by omega) (ih (p + 1) k (st + 1) (by omega) (by rw [d2]; exact h2') (by omega) (by omega) (fun n' st' q q1 q2 q3 => h5 n' st' q (by omega) (by omega) q3))
      · rw [if_neg w] at h2'
        obtain ⟨w1, w2⟩ := h2'
        subst w2
        rcases w1 with w1 | w1
        · subst w1
          exact absurd (List.mem_of_getElem? d1) (Z0 x)
        · subst w1
          exact h5 n st p (by omega) (by omega) d1
theorem xs_edge {kd fi se : Nat → Nat} (K : vk kd fi se) {T : Nat → Int32} (hT : T = tm kd fi se) {ol : List Nat} (OK : olk T ol) {A : List (Nat × Nat)} (hc : cod a_codeForm a_codeBlock A) (hl : A.length ≤ 78) (P1 : plc 1 a_loopPlace A) (P4 : plc 4 a_scopeEndPlace A)
    (I : lk_I (lps T) (mul T ol) (ef T) kd fi se (rk T) (rv T) A) (AL : ∀ c, rv T c → (5, c) ∈ A) {post : SX → Prop} {b c p n st : Nat} (hb : rv T b) (hbc : bt (T b) c = true) (h : lk_ed (ef T) b c (A.drop p)) (hn : 1 ≤ n) (hs : st < 1000000)
    (hk : ∀ p' n' st', n ≤ n' + 1 → st' ≤ st + 1 → lk_nd c (A.drop p') → wX_runCode_4 post n' (nI p') (nI st') f_liveSet f_loopSet f_mergeSet f_orderedSet f_orderedCount f_pendingCount (nI A.length) f_outCount f_carriedCount 0 a_actionKind a_actionNumber a_wayKind a_wayFirst a_waySecond a_dominatorSet a_forwardSet a_order a_pendingForm a_pendingBlock a_codeForm a_codeBlock a_loopPlace a_scopeEndPlace a_elsePlace a_registers a_visitCounts a_outNumbers) :
    wX_runCode_4 post n (nI p) (nI st) f_liveSet f_loopSet f_mergeSet f_orderedSet f_orderedCount f_pendingCount (nI A.length) f_outCount f_carriedCount 0 a_actionKind a_actionNumber a_wayKind a_wayFirst a_waySecond a_dominatorSet a_forwardSet a_order a_pendingForm a_pendingBlock a_codeForm a_codeBlock a_loopPlace a_scopeEndPlace a_elsePlace a_registers a_visitCounts a_outNumbers := by
  have tl : rt_lo T := by
    rw [hT]
    exact tg_lo K
  have b8 := rr_lt tl hb
  have c8 : c < 8 := rs_lt8 (tl b b8) hbc
  have hcv : rv T c := rv_s b8 hb hbc
  obtain ⟨i1, i2, i3, i4, i5, i6, i7⟩ := I
  rcases ef_3 T b c with e | e | e
  · exact hk p n st (by omega) (by omega) (h.1 e)
  · obtain ⟨r, er⟩ := h.2 (by omega)
    rw [e] at er
    obtain ⟨d1, d2, d3⟩ := dr_c er
    have mc : bt (rm T) c = true := by
      unfold ef at e
      split at e
      · exact absurd e (by decide)
      · split at e
        · assumption
        · exact absurd e (by decide)
    have c0 : c ≠ 0 := by
      intro z
      rw [z, rm_n0 tl] at mc
      cases mc
    obtain ⟨b', hb', _⟩ := rk_ex tl hcv c0
    have inm : c ∈ mul T ol b' := by
      refine List.mem_filter.mpr ⟨(OK.2 c).mpr hcv, (mub_iff T b' c).mpr ?_⟩
      rcases hb'.2.2.2.2 with q | q
      · exact q
      · rw [mc] at q
        cases q.1
    obtain ⟨j, j1, j2⟩ := P4 c ((i5 b' (AL b' hb'.2.2.1)).2.2.1 c inm)
    have nd := (lk_ok_g i1 j1).2.1 rfl
    obtain ⟨k, rfl⟩ : ∃ k, n = k + 1 := ⟨n - 1, by omega⟩
    exact xr_9 hc hl d1 c8 j2 hs (hk (j + 1) k (st + 1) (by omega) (by omega) nd)
  · obtain ⟨r, er⟩ := h.2 (by omega)
    rw [e] at er
    obtain ⟨d1, d2, d3⟩ := dr_c er
    have dc : bt (rd T b) c = true := by
      unfold ef at e
      split at e
      · assumption
      · split at e
        · exact absurd e (by decide)
        · exact absurd e (by decide)
    have lc : lps T c = true := rl_to ((rg_iff tl b c).mpr ⟨hb, hbc⟩) dc 8 b8
    obtain ⟨j, j1, j2⟩ := P1 c ((i5 c (AL c hcv)).1 lc)
    have nd := (lk_ok_g i1 j1).1 rfl
    have nd' : lk_nd c (A.drop j) := by
      rw [dr_g j1]
      show if (1 : Nat) = 1 ∨ (1 : Nat) = 3 then _ else _
      rw [if_pos (Or.inl rfl)]
      exact nd
    obtain ⟨k, rfl⟩ : ∃ k, n = k + 1 := ⟨n - 1, by omega⟩
    exact xr_10 hc hl d1 c8 j2 hs (hk j k (st + 1) (by omega) (by omega) nd')
theorem xs_sim {kd fi se : Nat → Nat} (V : vw a_wayKind a_wayFirst a_waySecond kd fi se) (K : vk kd fi se) {T : Nat → Int32} (hT : T = tm kd fi se) {ol : List Nat} (OK : olk T ol) {ac : Nat → Nat} (VA : va a_actionKind a_actionNumber ac)
    {A : List (Nat × Nat)} (hc : cod a_codeForm a_codeBlock A) (hl : A.length ≤ 78) (P1 : plc 1 a_loopPlace A) (P4 : plc 4 a_scopeEndPlace A) (P7 : plc 7 a_elsePlace A) (Z0 : ∀ x, ¬ (0, x) ∈ A)
    (I : lk_I (lps T) (mul T ol) (ef T) kd fi se (rk T) (rv T) A) (AL : ∀ c, rv T c → (5, c) ∈ A) {post : SX → Prop} :
    ∀ fl b k rg os vs n st p rs vc on, fl + k = 80 → rv T b → lk_nd b (A.drop p) → 100 * (fl + 1) ≤ n → st + 100 * (fl + 1) < 1000000 → os.length ≤ k →
      (∀ i, i < 3 → rs i = rg i) → (∀ i, i < 8 → vc i = vs i) → ouX on os →
      (∀ rs' vc' on', (∀ i, i < 3 → rs' i = (pu ac a_actionNumber kd fi se fl b rg os vs k).1 i) → (∀ i, i < 8 → vc' i = (pu ac a_actionNumber kd fi se fl b rg os vs k).2.2.1 i) → ouX on' (pu ac a_actionNumber kd fi se fl b rg os vs k).2.1 →
        post (f_liveSet, f_loopSet, f_mergeSet, f_orderedSet, f_orderedCount, f_pendingCount, nI A.length, nI (pu ac a_actionNumber kd fi se fl b rg os vs k).2.1.length, nI (pu ac a_actionNumber kd fi se fl b rg os vs k).2.2.2.1, nI (pu ac a_actionNumber kd fi se fl b rg os vs k).2.2.2.2, a_actionKind, a_actionNumber, a_wayKind, a_wayFirst, a_waySecond, a_dominatorSet, a_forwardSet, a_order, a_pendingForm, a_pendingBlock, a_codeForm, a_codeBlock, a_loopPlace, a_scopeEndPlace, a_elsePlace, rs', vc', on')) →
      wX_runCode_4 post n (nI p) (nI st) f_liveSet f_loopSet f_mergeSet f_orderedSet f_orderedCount f_pendingCount (nI A.length) (nI os.length) (nI k) 0 a_actionKind a_actionNumber a_wayKind a_wayFirst a_waySecond a_dominatorSet a_forwardSet a_order a_pendingForm a_pendingBlock a_codeForm a_codeBlock a_loopPlace a_scopeEndPlace a_elsePlace rs vc on := by
  have tl : rt_lo T := by
    rw [hT]
    exact tg_lo K
  intro fl
  induction fl with
  | zero =>
    intro b k rg os vs n st p rs vc on hk hb hnd hn hs ho hr hv hx hp
    obtain rfl : k = 80 := by omega
    refine xs_skip hc hl Z0 (A.length - p) p n st (by omega) hnd (by omega) (by omega) (fun n' st' q q1 q2 q3 => ?_)
    obtain ⟨w, rfl⟩ : ∃ w, n' = w + 2 := ⟨n' - 2, by omega⟩
    exact xr_5t hc hl q3 (rr_lt tl hb) (by omega) (hp rs vc on hr hv hx)
  | succ fl ih =>
    intro b k rg os vs n st p rs vc on hk hb hnd hn hs ho hr hv hx hp
    have b8 := rr_lt tl hb
    obtain ⟨v1, v2, v3⟩ := K b b8
    refine xs_skip hc hl Z0 (A.length - p) p n st (by omega) hnd (by omega) (by omega) (fun n' st' q q1 q2 q3 => ?_)
    obtain ⟨w, rfl⟩ : ∃ w, n' = w + 1 := ⟨n' - 1, by omega⟩
    refine xr_5 VA hc hl q3 b8 (by omega) (by omega) ho hr hv hx (fun rs' vc' on' r1 r2 r3 => ?_)
    have wy := (lk_ok_g I.1 q3).2.2.1 rfl
    by_cases k0 : kd b = 0
    · rw [pu_z _ _ _ _ _ _ _ _ _ _ _ k0] at hp
      obtain ⟨r, er⟩ := wy.1 k0
      obtain ⟨d1, d2, d3⟩ := dr_c er
      obtain ⟨w2, rfl⟩ : ∃ w2, w = w2 + 2 := ⟨w - 2, by omega⟩
      exact xr_11 hc hl d1 (by omega) (hp rs' vc' on' r1 r2 r3)
    · rw [pu_s _ _ _ _ _ _ _ _ _ _ _ k0] at hp
      have ol1 := pu_ol ac b rg os
      have key : bt (T b) (pu_nx kd fi se b (pu_rg ac a_actionNumber b rg)) = true → ∀ p' n' st'', w ≤ n' + 2 → st'' ≤ st' + 3 → lk_nd (pu_nx kd fi se b (pu_rg ac a_actionNumber b rg)) (A.drop p') →
          wX_runCode_4 post n' (nI p') (nI st'') f_liveSet f_loopSet f_mergeSet f_orderedSet f_orderedCount f_pendingCount (nI A.length) (nI (pu_os ac b rg os).length) (nI (k + 1)) 0 a_actionKind a_actionNumber a_wayKind a_wayFirst a_waySecond a_dominatorSet a_forwardSet a_order a_pendingForm a_pendingBlock a_codeForm a_codeBlock a_loopPlace a_scopeEndPlace a_elsePlace rs' vc' on' := by
        intro hbt p' n' st'' g1 g2 g3
        exact ih _ (k + 1) _ _ _ n' st'' p' rs' vc' on' (by omega) (rv_s b8 hb hbt) g3 (by omega) (by omega) (by omega) r1 r2 r3 hp
      by_cases e1 : kd b = 1 ∨ fi b = se b
      · have nx : pu_nx kd fi se b (pu_rg ac a_actionNumber b rg) = fi b := by
          unfold pu_nx
          split
          · rfl
          · rename_i z
            rcases e1 with e1 | e1
            · exact absurd (Or.inl e1) z
            · exact e1.symm
        rw [nx] at key
        have hbt : bt (T b) (fi b) = true := by
          rw [hT]
          exact (tg_iff K b8 _).mpr ⟨k0, Or.inl rfl⟩
        exact xs_edge K hT OK hc hl P1 P4 I AL hb hbt (wy.2.1 k0 e1) (by omega) (by omega) (fun p' n' st'' g1 g2 g3 => key hbt p' n' st'' (by omega) (by omega) g3)
      · have k2 : 2 ≤ kd b := by omega
        obtain ⟨r, er, ed⟩ := wy.2.2 k0 e1
        obtain ⟨d1, d2, d3⟩ := dr_c er
        rw [← d2] at ed
        obtain ⟨j, j1, j2⟩ := P7 b ((I.2.2.2.2.1 b (AL b hb)).2.1 k0 e1)
        have ee := (lk_ok_g I.1 j1).2.2.2 rfl
        have rk2 := r1 (kd b - 2) (by omega)
        obtain ⟨w2, rfl⟩ : ∃ w2, w = w2 + 1 := ⟨w - 1, by omega⟩
        refine xr_6 V K hc hl d1 b8 k2 j2 (by omega) (fun z => ?_) (fun z => ?_)
        · rw [rk2] at z
          have nx : pu_nx kd fi se b (pu_rg ac a_actionNumber b rg) = fi b := if_pos (Or.inr z)
          rw [nx] at key
          have hbt : bt (T b) (fi b) = true := by
            rw [hT]
            exact (tg_iff K b8 _).mpr ⟨k0, Or.inl rfl⟩
          exact xs_edge K hT OK hc hl P1 P4 I AL hb hbt ed (by omega) (by omega) (fun p' n' st'' g1 g2 g3 => key hbt p' n' st'' (by omega) (by omega) g3)
        · rw [rk2] at z
          have nx : pu_nx kd fi se b (pu_rg ac a_actionNumber b rg) = se b := if_neg (fun y => by
            rcases y with y | y
            · exact e1 (Or.inl y)
            · exact z y)
          rw [nx] at key
          have hbt : bt (T b) (se b) = true := by
            rw [hT]
            exact (tg_iff K b8 _).mpr ⟨k0, Or.inr ⟨k2, rfl⟩⟩
          exact xs_edge K hT OK hc hl P1 P4 I AL hb hbt ee (by omega) (by omega) (fun p' n' st'' g1 g2 g3 => key hbt p' n' st'' (by omega) (by omega) g3)
end
end
section
/-! run of the component, whole -/
/-- the registers at the beginning of a run -/
def rg0 (x y : Int32) : Nat → Int32 := upd (upd (fun _ => 0) 0 x) 1 y
section
variable {f_liveSet f_loopSet f_mergeSet f_orderedSet f_orderedCount f_pendingCount f_codeLength f_outCount f_carriedCount f_lastOutcome : Int32} {a_actionKind a_actionNumber a_wayKind a_wayFirst a_waySecond a_dominatorSet a_forwardSet a_order a_pendingForm a_pendingBlock a_codeForm a_codeBlock a_loopPlace a_scopeEndPlace a_elsePlace a_registers a_visitCounts a_outNumbers : Nat → Int32}
theorem xw_fr {post : SX → Prop} (hp : ∀ rs vc, (∀ i, i < 3 → rs i = 0) → (∀ i, i < 8 → vc i = 0) → post (f_liveSet, f_loopSet, f_mergeSet, f_orderedSet, f_orderedCount, f_pendingCount, f_codeLength, 0, 0, 0, a_actionKind, a_actionNumber, a_wayKind, a_wayFirst, a_waySecond, a_dominatorSet, a_forwardSet, a_order, a_pendingForm, a_pendingBlock, a_codeForm, a_codeBlock, a_loopPlace, a_scopeEndPlace, a_elsePlace, rs, vc, a_outNumbers)) : wpX_forgetRun post (f_liveSet, f_loopSet, f_mergeSet, f_orderedSet, f_orderedCount, f_pendingCount, f_codeLength, f_outCount, f_carriedCount, f_lastOutcome, a_actionKind, a_actionNumber, a_wayKind, a_wayFirst, a_waySecond, a_dominatorSet, a_forwardSet, a_order, a_pendingForm, a_pendingBlock, a_codeForm, a_codeBlock, a_loopPlace, a_scopeEndPlace, a_elsePlace, a_registers, a_visitCounts, a_outNumbers) := by
  have l22 : ∀ d i n rs vc, i + d = 8 → d < n → (∀ i, i < 3 → rs i = 0) → (∀ j, j < i → vc j = 0) → wX_forgetRun_22 post f_liveSet f_loopSet f_mergeSet f_orderedSet f_orderedCount f_pendingCount f_codeLength f_outCount f_carriedCount f_lastOutcome n (nI i) a_actionKind a_actionNumber a_wayKind a_wayFirst a_waySecond a_dominatorSet a_forwardSet a_order a_pendingForm a_pendingBlock a_codeForm a_codeBlock a_loopPlace a_scopeEndPlace a_elsePlace rs vc a_outNumbers := by
    intro d
    induction d with
    | zero =>
      intro i n rs vc hi hn h1 h2
      obtain ⟨k, rfl⟩ : ∃ k, n = k + 1 := ⟨n - 1, by omega⟩
      obtain rfl : i = 8 := by omega
      exact br_t x8_t (hp rs vc h1 h2)
    | succ d ih =>
      intro i n rs vc hi hn h1 h2
      obtain ⟨k, rfl⟩ : ∃ k, n = k + 1 := ⟨n - 1, by omega⟩
      have h8 : i < 8 := by omega
      refine br_f (x8_f h8) ⟨xw_in h8, nm_e (nm_r (nI_1 i) (ih (i + 1) k rs _ (by omega) (by omega) h1 (fun j hj => ?_)))⟩
      rw [xw_c h8]
      by_cases e : j = i
      · rw [e, pk_us]
      · rw [pk_un e]
        exact h2 j (by omega)
  have l2 : ∀ d i n rs, i + d = 3 → d < n → (∀ j, j < i → rs j = 0) → wX_forgetRun_2 post f_liveSet f_loopSet f_mergeSet f_orderedSet f_orderedCount f_pendingCount f_codeLength f_outCount f_carriedCount f_lastOutcome n (nI i) a_actionKind a_actionNumber a_wayKind a_wayFirst a_waySecond a_dominatorSet a_forwardSet a_order a_pendingForm a_pendingBlock a_codeForm a_codeBlock a_loopPlace a_scopeEndPlace a_elsePlace rs a_visitCounts a_outNumbers := by
    intro d
    induction d with
    | zero =>
      intro i n rs hi hn h1
      obtain ⟨k, rfl⟩ : ∃ k, n = k + 1 := ⟨n - 1, by omega⟩
      obtain rfl : i = 3 := by omega
      exact br_t (by decide) ⟨9, l22 8 0 9 rs a_visitCounts rfl (by decide) h1 (fun j hj => absurd hj (Nat.not_lt_zero j))⟩
    | succ d ih =>
      intro i n rs hi hn h1
      obtain ⟨k, rfl⟩ : ∃ k, n = k + 1 := ⟨n - 1, by omega⟩
      refine br_f (nI_ge (b := 3) (by omega) (by decide)) ⟨vp_in_nI (by omega) (by decide), nm_e (nm_r (nI_1 i) (ih (i + 1) k _ (by omega) (by omega) (fun j hj => ?_)))⟩
      rw [nI_clamp (by omega)]
      by_cases e : j = i
      · rw [e, pk_us]
      · rw [pk_un e]
        exact h1 j (by omega)
  exact ⟨4, l2 3 0 4 a_registers rfl (by decide) (fun j hj => absurd hj (Nat.not_lt_zero j))⟩
theorem xw_run {kd fi se : Nat → Nat} (V : vw a_wayKind a_wayFirst a_waySecond kd fi se) (K : vk kd fi se) {ac : Nat → Nat} (VA : va a_actionKind a_actionNumber ac) (SH : shp (tm kd fi se) f_liveSet f_loopSet f_mergeSet f_orderedSet f_orderedCount a_dominatorSet a_order) (hreg : f_orderedSet = f_liveSet)
    {post : Int32 → SX → Prop} {x y : Int32}
    (hp : ∀ pc cl pf pb cf cb lp sp el rs vc on, (∀ i, i < 3 → rs i = (pu ac a_actionNumber kd fi se 80 0 (rg0 x y) [] (fun _ => 0) 0).1 i) → (∀ i, i < 8 → vc i = (pu ac a_actionNumber kd fi se 80 0 (rg0 x y) [] (fun _ => 0) 0).2.2.1 i) → ouX on (pu ac a_actionNumber kd fi se 80 0 (rg0 x y) [] (fun _ => 0) 0).2.1 →
      post (nI (pu ac a_actionNumber kd fi se 80 0 (rg0 x y) [] (fun _ => 0) 0).2.2.2.2) (f_liveSet, f_loopSet, f_mergeSet, f_orderedSet, f_orderedCount, pc, cl, nI (pu ac a_actionNumber kd fi se 80 0 (rg0 x y) [] (fun _ => 0) 0).2.1.length, nI (pu ac a_actionNumber kd fi se 80 0 (rg0 x y) [] (fun _ => 0) 0).2.2.2.1, nI (pu ac a_actionNumber kd fi se 80 0 (rg0 x y) [] (fun _ => 0) 0).2.2.2.2, a_actionKind, a_actionNumber, a_wayKind, a_wayFirst, a_waySecond, a_dominatorSet, a_forwardSet, a_order, pf, pb, cf, cb, lp, sp, el, rs, vc, on)) :
    wpX_run post (f_liveSet, f_loopSet, f_mergeSet, f_orderedSet, f_orderedCount, f_pendingCount, f_codeLength, f_outCount, f_carriedCount, f_lastOutcome, a_actionKind, a_actionNumber, a_wayKind, a_wayFirst, a_waySecond, a_dominatorSet, a_forwardSet, a_order, a_pendingForm, a_pendingBlock, a_codeForm, a_codeBlock, a_loopPlace, a_scopeEndPlace, a_elsePlace, a_registers, a_visitCounts, a_outNumbers) x y := by
  have tl := tg_lo K
  obtain ⟨s1, s2, s3, s4, s5, ol, s6, s7, s8⟩ := SH
  have OK : olk (tm kd fi se) ol := by
    refine ⟨s8.1, fun c => ?_⟩
    rw [s8.2, ← s4, hreg, s1]
    exact rv_iff tl c
  unfold wpX_run
  refine br_t hreg (br_f x10 (xw_wc V K (T := tm kd fi se) rfl s3 s5 s2 s6 s7 OK (fun pc pf pb cf cb lp sp el A c1 c2 c3 c4 c5 c6 c7 c8 => ?_)))
  refine xw_fr (fun rs vc r1 r2 => nm_e (nm_e ⟨8100, ?_⟩))
  have AL := sh_all K (T := tm kd fi se) rfl c5 c7
  have L78 := (lk_I_n _ _ _ _ _ _ _ _ (sh_H K (T := tm kd fi se) rfl OK) c5).2
  refine xs_sim V K (T := tm kd fi se) rfl OK VA c1 L78 c2 c3 c4 c7 c5 AL 80 0 0 (rg0 x y) [] (fun _ => 0) 8100 0 0 _ vc _ rfl rv_0 c8 (by decide) (by decide) (Nat.le_refl 0) ?_ r2 trivial (fun rs' vc' on' q1 q2 q3 => hp _ _ _ _ _ _ _ _ _ rs' vc' on' q1 q2 q3)
  exact up_w (up_w (fun i hi => r1 i hi) rfl) rfl
theorem xw_runb {post : Int32 → SX → Prop} {x y : Int32} (hreg : ¬ f_orderedSet = f_liveSet) (hp : post (-1) (f_liveSet, f_loopSet, f_mergeSet, f_orderedSet, f_orderedCount, f_pendingCount, f_codeLength, f_outCount, f_carriedCount, f_lastOutcome, a_actionKind, a_actionNumber, a_wayKind, a_wayFirst, a_waySecond, a_dominatorSet, a_forwardSet, a_order, a_pendingForm, a_pendingBlock, a_codeForm, a_codeBlock, a_loopPlace, a_scopeEndPlace, a_elsePlace, a_registers, a_visitCounts, a_outNumbers)) : wpX_run post (f_liveSet, f_loopSet, f_mergeSet, f_orderedSet, f_orderedCount, f_pendingCount, f_codeLength, f_outCount, f_carriedCount, f_lastOutcome, a_actionKind, a_actionNumber, a_wayKind, a_wayFirst, a_waySecond, a_dominatorSet, a_forwardSet, a_order, a_pendingForm, a_pendingBlock, a_codeForm, a_codeBlock, a_loopPlace, a_scopeEndPlace, a_elsePlace, a_registers, a_visitCounts, a_outNumbers) x y := by
  unfold wpX_run
  exact br_f hreg (br_t rfl hp)
end
end
section
/-! run of the reference -/
theorem x80 : (80 : Int32) ≤ nI 80 := by decide
section
variable {f_came f_said f_done : Int32} {a_acts a_numbers a_ways a_first a_second a_over a_reg a_last a_often : Nat → Int32}
theorem yw_80 {post : SY → Prop} {a : Nat} (h4 : 4 ≤ a) (h6 : a ≤ 6) {rg : Nat → Int32} {os : List Int32} {la : Nat → Int32} (hr : ∀ i, i < 3 → a_reg i = rg i) (hy : ouY la os)
    (hp : ∀ la', ouY la' (rg (a - 4) :: os) → post (f_came, nI (os.length + 1), f_done, a_acts, a_numbers, a_ways, a_first, a_second, a_over, a_reg, la', a_often)) :
    ∀ i n l, i < 8 → i < n → (∀ j, i < j → j < 8 → l j = la (j - 1)) → (∀ j, j ≤ i → l j = la j) → wY_carryOut_80 post (nI a) f_came (nI os.length) f_done n (nI i) a_acts a_numbers a_ways a_first a_second a_over a_reg l a_often := by
  have es : nI a - 4 = nI (a - 4) := pk_sub (b := 4) h4
  have cs : (nI (a - 4)).toNatClampNeg = a - 4 := nI_clamp (by omega)
  intro i
  induction i with
  | zero =>
    intro n l hi hn h1 h2
    obtain ⟨k, rfl⟩ : ∃ k, n = k + 1 := ⟨n - 1, by omega⟩
    refine br_t (by decide) ?_
    rw [es, cs, hr _ (by omega)]
    refine ⟨vp_in_nI (by omega) (by decide), nm_e (nm_r (nI_1 _) (hp _ (ouY_c hy _ pk_us (fun k hk => ?_))))⟩
    rw [pk_un (by omega), h1 (k + 1) (by omega) (by omega), Nat.add_sub_cancel]
  | succ i ih =>
    intro n l hi hn h1 h2
    obtain ⟨k, rfl⟩ : ∃ k, n = k + 1 := ⟨n - 1, by omega⟩
    have e1 : nI (i + 1) - 1 = nI i := nI_pred i
    have m1 : nI (i + 1) + (-1) = nI i := pk_m1 i
    refine br_f (nI_nle (by omega) (by omega)) ?_
    rw [e1]
    refine ⟨xw_in (by omega), xw_in (by omega), nm_e (nm_r m1 (ih k _ (by omega) (by omega) (fun j hj hj8 => ?_) (fun j hj => ?_)))⟩
    · rw [xw_c (by omega), xw_c (by omega)]
      by_cases e : j = i + 1
      · rw [e, pk_us, Nat.add_sub_cancel]
        exact h2 i (by omega)
      · rw [pk_un e]
        exact h1 j (by omega) hj8
    · rw [xw_c (by omega), pk_un (by omega)]
      exact h2 j (by omega)
theorem yw_co {ac : Nat → Nat} (VA : va a_acts a_numbers ac) {post : SY → Prop} {b n : Nat} (hb : b < 8) {rg vs : Nat → Int32} {os : List Int32}
    (hr : ∀ i, i < 3 → a_reg i = rg i) (hv : ∀ i, i < 8 → a_often i = vs i) (hy : ouY a_last os)
    (hp : ∀ rs vc la, (∀ i, i < 3 → rs i = pu_rg ac a_numbers b rg i) → (∀ i, i < 8 → vc i = pu_vs b vs i) → ouY la (pu_os ac b rg os) →
      post (f_came, nI (pu_os ac b rg os).length, nI (n + 1), a_acts, a_numbers, a_ways, a_first, a_second, a_over, rs, la, vc)) :
    wpY_carryOut post (f_came, nI os.length, nI n, a_acts, a_numbers, a_ways, a_first, a_second, a_over, a_reg, a_last, a_often) (nI b) := by
  obtain ⟨v1, v2, v3⟩ := VA b hb
  have c := xw_c hb
  have hin := xw_in hb
  have hv' : ∀ i, i < 8 → upd a_often b (a_often b + 1) i = pu_vs b vs i := up_w hv (by rw [hv b hb])
  unfold wpY_carryOut
  dsimp only
  rw [c]
  refine ⟨hin, nm_r v1 ⟨hin, nm_e (nm_r (nI_1 n) ⟨hin, hin, nm_e ?_⟩)⟩⟩
  unfold pu_rg pu_os at hp
  by_cases k7 : 7 ≤ ac b
  · rw [if_pos k7] at hp
    rw [if_neg (fun z : 4 ≤ ac b ∧ ac b < 7 => by omega)] at hp
    obtain ⟨j, j3, ej⟩ := v3 k7
    have es : nI (ac b) - 7 = nI (ac b - 7) := pk_sub (b := 7) k7
    have cs : (nI (ac b - 7)).toNatClampNeg = ac b - 7 := nI_clamp (by omega)
    have cj : (nI j).toNatClampNeg = j := nI_clamp (by omega)
    refine br_f (nI_nlt (b := 1) (by omega) (by omega)) (br_t (nI_lt (a := 3) (by omega) (by omega)) (br_f (nI_nlt (b := 4) (by omega) (by omega)) (br_t (nI_lt (a := 6) (by omega) (by omega)) (br_f (nI_nlt (b := 7) k7 (by omega)) ?_))))
    rw [ej, es, cs, cj]
    rw [ej, cj] at hp
    exact ⟨vp_in_nI j3 (by decide), vp_in_nI (by omega) (by decide), nm_e (hp _ _ a_last (up_w hr (hr j j3)) hv' hy)⟩
  · rw [if_neg k7] at hp
    by_cases k4 : 4 ≤ ac b
    · rw [if_pos k4, if_pos (⟨k4, by omega⟩ : 4 ≤ ac b ∧ ac b < 7)] at hp
      refine br_f (nI_nlt (b := 1) (by omega) (by omega)) (br_t (nI_lt (a := 3) (by omega) (by omega)) (br_f (nI_nlt (b := 4) k4 (by omega)) (br_f (nI_nlt (a := 6) (by omega) (by decide)) ⟨8, ?_⟩)))
      exact yw_80 (a := ac b) k4 (by omega) hr hy (fun la' h' => hp _ _ la' hr hv' h') 7 8 a_last (by decide) (by decide) (fun j h1 h2 => absurd h1 (by omega)) (fun j _ => rfl)
    · rw [if_neg k4, if_neg (fun z : 4 ≤ ac b ∧ ac b < 7 => k4 z.1)] at hp
      by_cases k1 : 1 ≤ ac b
      · rw [if_pos k1] at hp
        have es : nI (ac b) - 1 = nI (ac b - 1) := pk_sub (b := 1) k1
        have cs : (nI (ac b - 1)).toNatClampNeg = ac b - 1 := nI_clamp (by omega)
        have hi3 : vp_in (nI (ac b - 1)) 3 := vp_in_nI (by omega) (by decide)
        refine br_f (nI_nlt (b := 1) k1 (by omega)) (br_f (nI_nlt (a := 3) (by omega) (by decide)) ?_)
        rw [es, cs]
        exact ⟨hi3, hi3, nm_e (hp _ _ a_last (up_w hr (by rw [hr _ (by omega)])) hv' hy)⟩
      · rw [if_neg k1] at hp
        exact br_t (nI_lt (b := 1) (by omega) (by decide)) (br_t (nI_lt (b := 4) (by omega) (by decide)) (br_t (nI_lt (b := 7) (by omega) (by decide)) (hp _ _ a_last hr hv' hy)))
theorem yw_71 {kd fi se : Nat → Nat} (V : vw a_ways a_first a_second kd fi se) (K : vk kd fi se) {ac : Nat → Nat} (VA : va a_acts a_numbers ac) {post : Int32 → SY → Prop} :
    ∀ fl b k rg os vs n rs vc la, fl + k = 80 → b < 8 → fl + 1 < n → (∀ i, i < 3 → rs i = rg i) → (∀ i, i < 8 → vc i = vs i) → ouY la os →
      (∀ rs' vc' la', (∀ i, i < 3 → rs' i = (pu ac a_numbers kd fi se fl b rg os vs k).1 i) → (∀ i, i < 8 → vc' i = (pu ac a_numbers kd fi se fl b rg os vs k).2.2.1 i) → ouY la' (pu ac a_numbers kd fi se fl b rg os vs k).2.1 →
        post (nI (pu ac a_numbers kd fi se fl b rg os vs k).2.2.2.2) (nI (pu ac a_numbers kd fi se fl b rg os vs k).2.2.2.2, nI (pu ac a_numbers kd fi se fl b rg os vs k).2.1.length, nI (pu ac a_numbers kd fi se fl b rg os vs k).2.2.2.1, a_acts, a_numbers, a_ways, a_first, a_second, a_over, rs', la', vc')) →
      wY_run_71 post n (nI b) (nI k) 2 (nI os.length) (nI k) a_acts a_numbers a_ways a_first a_second a_over rs la vc := by
  intro fl
  induction fl with
  | zero =>
    intro b k rg os vs n rs vc la hk hb hn hr hv hy hp
    obtain ⟨w, rfl⟩ : ∃ w, n = w + 1 := ⟨n - 1, by omega⟩
    obtain rfl : k = 80 := by omega
    exact br_t x80 (hp rs vc la hr hv hy)
  | succ fl ih =>
    intro b k rg os vs n rs vc la hk hb hn hr hv hy hp
    obtain ⟨w, rfl⟩ : ∃ w, n = w + 1 := ⟨n - 1, by omega⟩
    obtain ⟨v1, v2, v3⟩ := V b hb
    obtain ⟨k1, k2, k3⟩ := K b hb
    have hin := xw_in hb
    have c := xw_c hb
    refine br_f (nI_ge (b := 80) (by omega) (by decide)) (br_t rfl (yw_co VA hb hr hv hy (fun rs' vc' la' q1 q2 q3 => ⟨hin, nm_r (e' := nI (kd b)) (by rw [c]; exact v1) ?_⟩)))
    by_cases k0 : kd b = 0
    · rw [pu_z _ _ _ _ _ _ _ _ _ _ _ k0] at hp
      rw [k0]
      obtain ⟨w2, rfl⟩ : ∃ w2, w = w2 + 1 := ⟨w - 1, by omega⟩
      refine br_t rfl (br_t (by decide) ⟨hin, nm_e (nm_r (nI_1 k) ?_)⟩)
      have fin := hp rs' vc' la' q1 q2 q3
      exact br_c (fun _ => fin) (fun _ => br_f (by decide) fin)
    · rw [pu_s _ _ _ _ _ _ _ _ _ _ _ k0] at hp
      have n0 : ¬ nI (kd b) = 0 := nI_ne0 (by omega) (by omega)
      have key : pu_nx kd fi se b (pu_rg ac a_numbers b rg) < 8 → wY_run_71 post w (nI (pu_nx kd fi se b (pu_rg ac a_numbers b rg))) (nI (k + 1)) 2 (nI (pu_os ac b rg os).length) (nI (k + 1)) a_acts a_numbers a_ways a_first a_second a_over rs' la' vc' := by
        intro h8
        exact ih _ (k + 1) _ _ _ w rs' vc' la' (by omega) h8 (by omega) q1 q2 q3 hp
      refine br_f n0 ?_
      by_cases e1 : kd b = 1
      · have nx : pu_nx kd fi se b (pu_rg ac a_numbers b rg) = fi b := if_pos (Or.inl e1)
        rw [nx] at key
        refine br_t (nI_lt (b := 2) (by omega) (by decide)) ⟨hin, nm_r (e' := nI (fi b)) (by rw [c]; exact v2 k0) (nm_r (nI_1 k) (key (k2 k0)))⟩
      · have g2 : 2 ≤ kd b := by omega
        have es : nI (kd b) - 2 = nI (kd b - 2) := pk_sub (b := 2) g2
        have cs : (nI (kd b - 2)).toNatClampNeg = kd b - 2 := nI_clamp (by omega)
        refine br_f (nI_nlt (b := 2) g2 (by omega)) ?_
        rw [es, cs, q1 (kd b - 2) (by omega)]
        refine ⟨vp_in_nI (by omega) (by decide), br_c (fun z => ?_) (fun z => ?_)⟩
        · have nx : pu_nx kd fi se b (pu_rg ac a_numbers b rg) = se b := if_neg (fun y => by
            rcases y with y | y
            · exact e1 y
            · exact absurd y (Int32.not_lt.mpr z))
          rw [nx] at key
          exact ⟨hin, nm_r (e' := nI (se b)) (by rw [c]; exact v3 g2) (nm_r (nI_1 k) (key (k3 g2)))⟩
        · have nx : pu_nx kd fi se b (pu_rg ac a_numbers b rg) = fi b := if_pos (Or.inr (Int32.not_le.mp z))
          rw [nx] at key
          exact ⟨hin, nm_r (e' := nI (fi b)) (by rw [c]; exact v2 k0) (nm_r (nI_1 k) (key (k2 k0)))⟩
theorem yw_run {kd fi se : Nat → Nat} (V : vw a_ways a_first a_second kd fi se) (K : vk kd fi se) {ac : Nat → Nat} (VA : va a_acts a_numbers ac) (hreg : rgn (rf (tm kd fi se)) 8 = false) {post : Int32 → SY → Prop} {x y : Int32}
    (hp : ∀ ov rs vc la, (∀ i, i < 3 → rs i = (pu ac a_numbers kd fi se 80 0 (rg0 x y) [] (fun _ => 0) 0).1 i) → (∀ i, i < 8 → vc i = (pu ac a_numbers kd fi se 80 0 (rg0 x y) [] (fun _ => 0) 0).2.2.1 i) → ouY la (pu ac a_numbers kd fi se 80 0 (rg0 x y) [] (fun _ => 0) 0).2.1 →
      post (nI (pu ac a_numbers kd fi se 80 0 (rg0 x y) [] (fun _ => 0) 0).2.2.2.2) (nI (pu ac a_numbers kd fi se 80 0 (rg0 x y) [] (fun _ => 0) 0).2.2.2.2, nI (pu ac a_numbers kd fi se 80 0 (rg0 x y) [] (fun _ => 0) 0).2.1.length, nI (pu ac a_numbers kd fi se 80 0 (rg0 x y) [] (fun _ => 0) 0).2.2.2.1, a_acts, a_numbers, a_ways, a_first, a_second, ov, rs, la, vc)) :
    wpY_run post (f_came, f_said, f_done, a_acts, a_numbers, a_ways, a_first, a_second, a_over, a_reg, a_last, a_often) x y := by
  unfold wpY_run
  refine yw_reg V K (fun z => absurd z (by rw [hreg]; decide)) (fun _ ov => br_f x10 (nm_e (nm_e (nm_e ⟨9, ?_⟩))))
  have l : ∀ d i n vc, i + d = 8 → d < n → (∀ j, j < i → vc j = 0) → wY_run_47 post 2 0 0 n (nI i) a_acts a_numbers a_ways a_first a_second ov (upd (upd (upd a_reg 0 x) 1 y) 2 0) a_last vc := by
    intro d
    induction d with
    | zero =>
      intro i n vc hi hn h
      obtain ⟨k, rfl⟩ : ∃ k, n = k + 1 := ⟨n - 1, by omega⟩
      obtain rfl : i = 8 := by omega
      refine br_t x8_t ⟨82, ?_⟩
      refine yw_71 V K VA 80 0 0 (rg0 x y) [] (fun _ => 0) 82 _ vc a_last rfl (by decide) (by decide) (fun i hi => ?_) (fun i hi => h i hi) (fun k _ hk => absurd hk (Nat.not_lt_zero k)) (fun rs' vc' la' q1 q2 q3 => hp ov rs' vc' la' q1 q2 q3)
      unfold rg0
      rcases (by omega : i = 0 ∨ i = 1 ∨ i = 2) with e | e | e
      · subst e
        rfl
      · subst e
        rfl
      · subst e
        rfl
    | succ d ih =>
      intro i n vc hi hn h
      obtain ⟨k, rfl⟩ : ∃ k, n = k + 1 := ⟨n - 1, by omega⟩
      have h8 : i < 8 := by omega
      refine br_f (x8_f h8) ⟨xw_in h8, nm_e (nm_r (nI_1 i) (ih (i + 1) k _ (by omega) (by omega) (fun j hj => ?_)))⟩
      rw [xw_c h8]
      by_cases e : j = i
      · rw [e, pk_us]
      · rw [pk_un e]
        exact h j (by omega)
  exact l 8 0 9 a_often rfl (by decide) (fun j hj => absurd hj (Nat.not_lt_zero j))
theorem yw_runb {kd fi se : Nat → Nat} (V : vw a_ways a_first a_second kd fi se) (K : vk kd fi se) (hreg : rgn (rf (tm kd fi se)) 8 = true) {post : Int32 → SY → Prop} {x y : Int32} (hp : ∀ ov, post (-1) (f_came, f_said, f_done, a_acts, a_numbers, a_ways, a_first, a_second, ov, a_reg, a_last, a_often)) : wpY_run post (f_came, f_said, f_done, a_acts, a_numbers, a_ways, a_first, a_second, a_over, a_reg, a_last, a_often) x y := by
  unfold wpY_run
  exact yw_reg V K (fun _ ov => br_t rfl (hp ov)) (fun z => absurd z (by rw [hreg]; decide))
end
end
section
/-! the relation, and what is owed -/
def rE (lv lo me os oc ou cc lc : Int32) (ak an wk wf ws ds od rs vc on : Nat → Int32) (cm sd dn : Int32) (acs nu wa f1 s2 rg la oft : Nat → Int32) : Prop :=
  ∃ (kd fi se ac : Nat → Nat) (l : List Int32), vk kd fi se ∧ vw wk wf ws kd fi se ∧ vw wa f1 s2 kd fi se ∧ va ak an ac ∧ ak = acs ∧ an = nu ∧ shp (tm kd fi se) lv lo me os oc ds od ∧
    lc = cm ∧ ou = nI l.length ∧ sd = nI l.length ∧ l.length ≤ 80 ∧ ouX on l ∧ ouY la l ∧ cc = dn ∧ (∀ i, i < 3 → rs i = rg i) ∧ (∀ i, i < 8 → vc i = oft i)
def i_Rel (_k : Nat) (u : SX) (v : SY) : Prop := match u with
  | (f_liveSet, f_loopSet, f_mergeSet, f_orderedSet, f_orderedCount, f_pendingCount, f_codeLength, f_outCount, f_carriedCount, f_lastOutcome, a_actionKind, a_actionNumber, a_wayKind, a_wayFirst, a_waySecond, a_dominatorSet, a_forwardSet, a_order, a_pendingForm, a_pendingBlock, a_codeForm, a_codeBlock, a_loopPlace, a_scopeEndPlace, a_elsePlace, a_registers, a_visitCounts, a_outNumbers) => match v with
    | (f_came, f_said, f_done, a_acts, a_numbers, a_ways, a_first, a_second, a_over, a_reg, a_last, a_often) => rE f_liveSet f_loopSet f_mergeSet f_orderedSet f_orderedCount f_outCount f_carriedCount f_lastOutcome a_actionKind a_actionNumber a_wayKind a_wayFirst a_waySecond a_dominatorSet a_order a_registers a_visitCounts a_outNumbers f_came f_said f_done a_acts a_numbers a_ways a_first a_second a_reg a_last a_often
theorem i_up {k : Nat} {u : SX} {v : SY} (h : i_Rel k u v) : i_Rel (k + 5) u v := h
def fu (f : Nat → Nat) (b x : Nat) : Nat → Nat := fun j => if j = b then x else f j
theorem fu_s {f : Nat → Nat} {b x : Nat} : fu f b x b = x := if_pos rfl
theorem fu_n {f : Nat → Nat} {b x j : Nat} (h : j ≠ b) : fu f b x j = f j := if_neg h
theorem vk_u {kd fi se : Nat → Nat} (K : vk kd fi se) {b k x y : Nat} (h4 : k ≤ 4) (hx : k ≠ 0 → x < 8) (hy : 2 ≤ k → y < 8) : vk (fu kd b k) (fu fi b x) (fu se b y) := by
  intro j hj
  by_cases e : j = b
  · subst e
    rw [fu_s, fu_s, fu_s]
    exact ⟨h4, hx, hy⟩
  · rw [fu_n e, fu_n e, fu_n e]
    exact K j hj
theorem vw_u {wk wf ws : Nat → Int32} {kd fi se : Nat → Nat} (V : vw wk wf ws kd fi se) {b k x y : Nat} {vx vy : Int32} (hx : k ≠ 0 → vx = nI x) (hy : 2 ≤ k → vy = nI y) : vw (upd wk b (nI k)) (upd wf b vx) (upd ws b vy) (fu kd b k) (fu fi b x) (fu se b y) := by
  intro j hj
  by_cases e : j = b
  · subst e
    rw [fu_s, fu_s, fu_s, pk_us, pk_us, pk_us]
    exact ⟨rfl, hx, hy⟩
  · rw [fu_n e, fu_n e, fu_n e, pk_un e, pk_un e, pk_un e]
    exact V j hj
theorem va_u {ak an : Nat → Int32} {ac : Nat → Nat} (VA : va ak an ac) {b k : Nat} {v : Int32} (h9 : k ≤ 9) (h7 : 7 ≤ k → ∃ j, j < 3 ∧ v = nI j) : va (upd ak b (nI k)) (upd an b v) (fu ac b k) := by
  intro j hj
  by_cases e : j = b
  · subst e
    rw [fu_s, pk_us, pk_us]
    exact ⟨rfl, h9, h7⟩
  · rw [fu_n e, pk_un e, pk_un e]
    exact VA j hj
theorem pu_len (ac : Nat → Nat) (an : Nat → Int32) (kd fi se : Nat → Nat) : ∀ fl b rg os vs k, (pu ac an kd fi se fl b rg os vs k).2.1.length ≤ os.length + fl := by
  intro fl
  induction fl with
  | zero => exact fun b rg os vs k => Nat.le_refl _
  | succ fl ih =>
    intro b rg os vs k
    have a := pu_ol ac b rg os
    by_cases k0 : kd b = 0
    · rw [pu_z _ _ _ _ _ _ _ _ _ _ _ k0]
      show (pu_os ac b rg os).length ≤ _
      omega
    · rw [pu_s _ _ _ _ _ _ _ _ _ _ _ k0]
      have c := ih (pu_nx kd fi se b (pu_rg ac an b rg)) (pu_rg ac an b rg) (pu_os ac b rg os) (pu_vs b vs) (k + 1)
      omega
theorem sh_reg {kd fi se : Nat → Nat} (K : vk kd fi se) : ka (rf (tm kd fi se)) (rc (tm kd fi se) 0) 8 = rc (tm kd fi se) 0 ↔ rgn (rf (tm kd fi se)) 8 = false := by
  have tl := tg_lo K
  rw [rgn_f]
  refine ka_iff (fun b hb => rf_lo tl hb) (rc_cl tl 0).1 (fun b hb h => ?_)
  unfold rf rg
  rw [if_neg (by rw [h]; decide), Int32.zero_and]
theorem xw_blk {post : Int32 → Prop} {j : Nat} (hj : j < 8) (h : post 1) : wpX_isBlock post (nI j) := br_f (xn_f hj) (br_f (x8_f hj) h)
theorem xw_nblk {post : Int32 → Prop} {x : Int32} (hx : x < 0 ∨ nI 8 ≤ x) (h : post 0) : wpX_isBlock post x := by
  rcases hx with z | z
  · exact br_t z h
  · exact br_f (x8_n z) (br_t z h)
theorem x8_c (x : Int32) : (x < 0 ∨ nI 8 ≤ x) ∨ ∃ j : Nat, j < 8 ∧ x = nI j := by
  rcases pk_ix x (n := 8) (by decide) with z | z | z
  · exact Or.inl (Or.inl z)
  · exact Or.inl (Or.inr z)
  · exact Or.inr z
theorem x3_n {x : Int32} (h : nI 3 ≤ x) : ¬ x < 0 := fun z => absurd (Int32.lt_of_le_of_lt h z) (by decide)
theorem x3_2 {x : Int32} (h : nI 3 ≤ x) : (2 : Int32) < x := Int32.lt_of_lt_of_le (by decide : (2 : Int32) < nI 3) h
theorem i_vc0 : wpX_init (fun u => wpY_init (fun v => i_Rel 0 u v)) := by
  have K : vk (fun _ => 0) (fun _ => 0) (fun _ => 0) := fun b _ => ⟨Nat.zero_le 4, fun z => absurd rfl z, fun z => absurd z (by decide : ¬ 2 ≤ 0)⟩
  have V : vw (fun _ => 0) (fun _ => 0) (fun _ => 0) (fun _ => 0) (fun _ => 0) (fun _ => 0) := fun b _ => ⟨rfl, fun z => absurd rfl z, fun z => absurd z (by decide : ¬ 2 ≤ 0)⟩
  unfold wpX_init
  refine xw_ss V K rfl (fun lv lo me os oc ds fs od h => ?_)
  exact ⟨fun _ => 0, fun _ => 0, fun _ => 0, fun _ => 0, [], K, V, V, fun b _ => ⟨rfl, Nat.zero_le 9, fun z => absurd z (by decide : ¬ 7 ≤ 0)⟩, rfl, rfl, h, rfl, rfl, rfl, Nat.zero_le 80, trivial, fun k _ hk => absurd hk (Nat.not_lt_zero k), rfl, fun _ _ => rfl, fun _ _ => rfl⟩
theorem i_vc_live {k : Nat} {u : SX} {v : SY} (I : i_Rel k u v) (hk : k + 5 ≤ 2560) : wpX_live (fun r => wpY_live (fun r' => r' = r ∧ i_Rel (k + 5) u v) v) u := by
  obtain ⟨f_liveSet, f_loopSet, f_mergeSet, f_orderedSet, f_orderedCount, f_pendingCount, f_codeLength, f_outCount, f_carriedCount, f_lastOutcome, a_actionKind, a_actionNumber, a_wayKind, a_wayFirst, a_waySecond, a_dominatorSet, a_forwardSet, a_order, a_pendingForm, a_pendingBlock, a_codeForm, a_codeBlock, a_loopPlace, a_scopeEndPlace, a_elsePlace, a_registers, a_visitCounts, a_outNumbers⟩ := u
  obtain ⟨f_came, f_said, f_done, a_acts, a_numbers, a_ways, a_first, a_second, a_over, a_reg, a_last, a_often⟩ := v
  obtain ⟨kd, fi, se, ac, l, K, VX, VY, VA, rfl, rfl, SH, rfl, rfl, rfl, hl, hX, hY, rfl, hr, hv⟩ := I
  obtain ⟨s1, s2, s3, s4, s5, s6⟩ := SH
  refine yw_live VY K ⟨s1.symm, ?_⟩
  exact ⟨kd, fi, se, ac, l, K, VX, VY, VA, rfl, rfl, ⟨s1, s2, s3, s4, s5, s6⟩, rfl, rfl, rfl, hl, hX, hY, rfl, hr, hv⟩
theorem i_vc_dominators {k : Nat} {u : SX} {v : SY} (I : i_Rel k u v) (hk : k + 5 ≤ 2560) (v1 : Int32) : wpX_dominators (fun r => wpY_dominators (fun r' => r' = r ∧ i_Rel (k + 5) u v) v v1) u v1 := by
  obtain ⟨f_liveSet, f_loopSet, f_mergeSet, f_orderedSet, f_orderedCount, f_pendingCount, f_codeLength, f_outCount, f_carriedCount, f_lastOutcome, a_actionKind, a_actionNumber, a_wayKind, a_wayFirst, a_waySecond, a_dominatorSet, a_forwardSet, a_order, a_pendingForm, a_pendingBlock, a_codeForm, a_codeBlock, a_loopPlace, a_scopeEndPlace, a_elsePlace, a_registers, a_visitCounts, a_outNumbers⟩ := u
  obtain ⟨f_came, f_said, f_done, a_acts, a_numbers, a_ways, a_first, a_second, a_over, a_reg, a_last, a_often⟩ := v
  obtain ⟨kd, fi, se, ac, l, K, VX, VY, VA, rfl, rfl, SH, rfl, rfl, rfl, hl, hX, hY, rfl, hr, hv⟩ := I
  have R := SH
  obtain ⟨s1, s2, s3, s4, s5, s6⟩ := SH
  unfold wpX_dominators
  dsimp only
  rcases x8_c v1 with z | ⟨j, j8, rfl⟩
  · exact xw_nblk z (br_t rfl (yw_domn VY K z ⟨rfl, kd, fi, se, ac, l, K, VX, VY, VA, rfl, rfl, R, rfl, rfl, rfl, hl, hX, hY, rfl, hr, hv⟩))
  · refine xw_blk j8 (br_f x10 ⟨xw_in j8, ?_⟩)
    rw [xw_c j8, s5 j j8]
    exact yw_dom VY K j8 ⟨rfl, kd, fi, se, ac, l, K, VX, VY, VA, rfl, rfl, R, rfl, rfl, rfl, hl, hX, hY, rfl, hr, hv⟩
theorem i_vc_regular {k : Nat} {u : SX} {v : SY} (I : i_Rel k u v) (hk : k + 5 ≤ 2560) : wpX_regular (fun r => wpY_regular (fun r' v' => r' = r ∧ i_Rel (k + 5) u v') v) u := by
  obtain ⟨f_liveSet, f_loopSet, f_mergeSet, f_orderedSet, f_orderedCount, f_pendingCount, f_codeLength, f_outCount, f_carriedCount, f_lastOutcome, a_actionKind, a_actionNumber, a_wayKind, a_wayFirst, a_waySecond, a_dominatorSet, a_forwardSet, a_order, a_pendingForm, a_pendingBlock, a_codeForm, a_codeBlock, a_loopPlace, a_scopeEndPlace, a_elsePlace, a_registers, a_visitCounts, a_outNumbers⟩ := u
  obtain ⟨f_came, f_said, f_done, a_acts, a_numbers, a_ways, a_first, a_second, a_over, a_reg, a_last, a_often⟩ := v
  obtain ⟨kd, fi, se, ac, l, K, VX, VY, VA, rfl, rfl, SH, rfl, rfl, rfl, hl, hX, hY, rfl, hr, hv⟩ := I
  have R := SH
  obtain ⟨s1, s2, s3, s4, s5, s6⟩ := SH
  have q := sh_reg K
  rw [← s4, ← s1] at q
  refine br_c (fun z => ?_) (fun z => ?_)
  · exact yw_reg VY K (fun y => absurd (q.mp z) (by rw [y]; decide)) (fun _ ov => ⟨rfl, kd, fi, se, ac, l, K, VX, VY, VA, rfl, rfl, R, rfl, rfl, rfl, hl, hX, hY, rfl, hr, hv⟩)
  · exact yw_reg VY K (fun _ ov => ⟨rfl, kd, fi, se, ac, l, K, VX, VY, VA, rfl, rfl, R, rfl, rfl, rfl, hl, hX, hY, rfl, hr, hv⟩) (fun y => absurd (q.mpr y) z)
theorem i_vc_loops {k : Nat} {u : SX} {v : SY} (I : i_Rel k u v) (hk : k + 5 ≤ 2560) : wpX_loops (fun r => wpY_loops (fun r' v' => r' = r ∧ i_Rel (k + 5) u v') v) u := by
  obtain ⟨f_liveSet, f_loopSet, f_mergeSet, f_orderedSet, f_orderedCount, f_pendingCount, f_codeLength, f_outCount, f_carriedCount, f_lastOutcome, a_actionKind, a_actionNumber, a_wayKind, a_wayFirst, a_waySecond, a_dominatorSet, a_forwardSet, a_order, a_pendingForm, a_pendingBlock, a_codeForm, a_codeBlock, a_loopPlace, a_scopeEndPlace, a_elsePlace, a_registers, a_visitCounts, a_outNumbers⟩ := u
  obtain ⟨f_came, f_said, f_done, a_acts, a_numbers, a_ways, a_first, a_second, a_over, a_reg, a_last, a_often⟩ := v
  obtain ⟨kd, fi, se, ac, l, K, VX, VY, VA, rfl, rfl, SH, rfl, rfl, rfl, hl, hX, hY, rfl, hr, hv⟩ := I
  have R := SH
  obtain ⟨s1, s2, s3, s4, s5, s6⟩ := SH
  exact yw_lps VY K (fun ov => ⟨s2.symm, kd, fi, se, ac, l, K, VX, VY, VA, rfl, rfl, R, rfl, rfl, rfl, hl, hX, hY, rfl, hr, hv⟩)
theorem i_vc_merges {k : Nat} {u : SX} {v : SY} (I : i_Rel k u v) (hk : k + 5 ≤ 2560) : wpX_merges (fun r => wpY_merges (fun r' v' => r' = r ∧ i_Rel (k + 5) u v') v) u := by
  obtain ⟨f_liveSet, f_loopSet, f_mergeSet, f_orderedSet, f_orderedCount, f_pendingCount, f_codeLength, f_outCount, f_carriedCount, f_lastOutcome, a_actionKind, a_actionNumber, a_wayKind, a_wayFirst, a_waySecond, a_dominatorSet, a_forwardSet, a_order, a_pendingForm, a_pendingBlock, a_codeForm, a_codeBlock, a_loopPlace, a_scopeEndPlace, a_elsePlace, a_registers, a_visitCounts, a_outNumbers⟩ := u
  obtain ⟨f_came, f_said, f_done, a_acts, a_numbers, a_ways, a_first, a_second, a_over, a_reg, a_last, a_often⟩ := v
  obtain ⟨kd, fi, se, ac, l, K, VX, VY, VA, rfl, rfl, SH, rfl, rfl, rfl, hl, hX, hY, rfl, hr, hv⟩ := I
  have R := SH
  obtain ⟨s1, s2, s3, s4, s5, s6⟩ := SH
  exact yw_mer VY K (fun ov => ⟨s3.symm, kd, fi, se, ac, l, K, VX, VY, VA, rfl, rfl, R, rfl, rfl, rfl, hl, hX, hY, rfl, hr, hv⟩)
theorem i_vc_act {k : Nat} {u : SX} {v : SY} (I : i_Rel k u v) (hk : k + 5 ≤ 2560) (v1 : Int32) (v2 : Int32) (v3 : Int32) : wpX_act (fun r u' => wpY_act (fun r' v' => r' = r ∧ i_Rel (k + 5) u' v') v v1 v2 v3) u v1 v2 v3 := by
  obtain ⟨f_liveSet, f_loopSet, f_mergeSet, f_orderedSet, f_orderedCount, f_pendingCount, f_codeLength, f_outCount, f_carriedCount, f_lastOutcome, a_actionKind, a_actionNumber, a_wayKind, a_wayFirst, a_waySecond, a_dominatorSet, a_forwardSet, a_order, a_pendingForm, a_pendingBlock, a_codeForm, a_codeBlock, a_loopPlace, a_scopeEndPlace, a_elsePlace, a_registers, a_visitCounts, a_outNumbers⟩ := u
  obtain ⟨f_came, f_said, f_done, a_acts, a_numbers, a_ways, a_first, a_second, a_over, a_reg, a_last, a_often⟩ := v
  obtain ⟨kd, fi, se, ac, l, K, VX, VY, VA, rfl, rfl, SH, rfl, rfl, rfl, hl, hX, hY, rfl, hr, hv⟩ := I
  have R : rE f_liveSet f_loopSet f_mergeSet f_orderedSet f_orderedCount (nI l.length) f_carriedCount f_lastOutcome a_actionKind a_actionNumber a_wayKind a_wayFirst a_waySecond a_dominatorSet a_order a_registers a_visitCounts a_outNumbers f_lastOutcome (nI l.length) f_carriedCount a_actionKind a_actionNumber a_ways a_first a_second a_reg a_last a_often := ⟨kd, fi, se, ac, l, K, VX, VY, VA, rfl, rfl, SH, rfl, rfl, rfl, hl, hX, hY, rfl, hr, hv⟩
  unfold wpX_act
  dsimp only
  rcases x8_c v1 with z | ⟨b, b8, rfl⟩
  · exact xw_nblk z (br_t rfl (by unfold wpY_act; exact yw_nblk z (br_t rfl ⟨rfl, R⟩)))
  · refine xw_blk b8 (br_f x10 ?_)
    rcases pk_ix v2 (n := 10) (by decide) with z | z | ⟨kk, k10, rfl⟩
    · exact br_t z (by unfold wpY_act; exact yw_blk b8 (br_f x10 (br_t z ⟨rfl, R⟩)))
    · have z0 : ¬ v2 < 0 := fun w => absurd (Int32.lt_of_le_of_lt z w) (by decide)
      have z9 : (9 : Int32) < v2 := Int32.lt_of_lt_of_le (by decide : (9 : Int32) < nI 10) z
      exact br_f z0 (br_f (Int32.not_le.mpr z9) (by unfold wpY_act; exact yw_blk b8 (br_f x10 (br_f z0 (br_t z9 ⟨rfl, R⟩)))))
    · have z0 : ¬ nI kk < 0 := nI_pos (by omega)
      have z9 : ¬ (9 : Int32) < nI kk := nI_nlt (a := 9) (by omega) (by decide)
      have z9' : nI kk ≤ 9 := nI_le (b := 9) (by omega) (by decide)
      have hin := xw_in b8
      have ok : (7 ≤ kk → ∃ j, j < 3 ∧ v3 = nI j) → wX_act_34 (fun r u' => wpY_act (fun r' v' => r' = r ∧ i_Rel (k + 5) u' v') (f_lastOutcome, nI l.length, f_carriedCount, a_actionKind, a_actionNumber, a_ways, a_first, a_second, a_over, a_reg, a_last, a_often) (nI b) (nI kk) v3) (nI b) (nI kk) v3 f_liveSet f_loopSet f_mergeSet f_orderedSet f_orderedCount f_pendingCount f_codeLength (nI l.length) f_carriedCount f_lastOutcome a_actionKind a_actionNumber a_wayKind a_wayFirst a_waySecond a_dominatorSet a_forwardSet a_order a_pendingForm a_pendingBlock a_codeForm a_codeBlock a_loopPlace a_scopeEndPlace a_elsePlace a_registers a_visitCounts a_outNumbers := by
        intro h7
        have VA' := va_u (b := b) (v := v3) VA (by omega : kk ≤ 9) h7
        refine ⟨hin, nm_e ⟨hin, nm_e ?_⟩⟩
        rw [xw_c b8]
        unfold wpY_act
        refine yw_blk b8 (br_f x10 (br_f z0 (br_f z9 ?_)))
        have fin : wY_act_35 (fun r' v' => r' = 1 ∧ i_Rel (k + 5) (f_liveSet, f_loopSet, f_mergeSet, f_orderedSet, f_orderedCount, f_pendingCount, f_codeLength, nI l.length, f_carriedCount, f_lastOutcome, upd a_actionKind b (nI kk), upd a_actionNumber b v3, a_wayKind, a_wayFirst, a_waySecond, a_dominatorSet, a_forwardSet, a_order, a_pendingForm, a_pendingBlock, a_codeForm, a_codeBlock, a_loopPlace, a_scopeEndPlace, a_elsePlace, a_registers, a_visitCounts, a_outNumbers) v') (nI b) (nI kk) v3 f_lastOutcome (nI l.length) f_carriedCount a_actionKind a_actionNumber a_ways a_first a_second a_over a_reg a_last a_often := by
          refine ⟨hin, nm_e ⟨hin, nm_e ?_⟩⟩
          rw [xw_c b8]
          exact ⟨rfl, kd, fi, se, fu ac b kk, l, K, VX, VY, VA', rfl, rfl, SH, rfl, rfl, rfl, hl, hX, hY, rfl, hr, hv⟩
        by_cases k7 : 7 ≤ kk
        · obtain ⟨j, j3, rfl⟩ := h7 k7
          exact br_f (nI_nlt (b := 7) k7 (by omega)) (br_f (nI_pos (by omega)) (br_t (nI_le (b := 2) (by omega) (by decide)) fin))
        · exact br_t (nI_lt (b := 7) (by omega) (by decide)) fin
      refine br_f z0 (br_t z9' ?_)
      by_cases k7 : 7 ≤ kk
      · have n7 : ¬ nI kk < 7 := nI_nlt (b := 7) k7 (by omega)
        refine br_f n7 ?_
        rcases pk_ix v3 (n := 3) (by decide) with z | z | ⟨j, j3, rfl⟩
        · exact br_t z (br_t rfl (by unfold wpY_act; exact yw_blk b8 (br_f x10 (br_f z0 (br_f z9 (br_f n7 (br_t z ⟨rfl, R⟩)))))))
        · exact br_f (x3_n z) (br_t z (br_t rfl (by unfold wpY_act; exact yw_blk b8 (br_f x10 (br_f z0 (br_f z9 (br_f n7 (br_f (x3_n z) (br_f (Int32.not_le.mpr (x3_2 z)) ⟨rfl, R⟩)))))))))
        · exact br_f (nI_pos (by omega)) (br_f (nI_ge (b := 3) j3 (by decide)) (br_f x10 (ok (fun _ => ⟨j, j3, rfl⟩))))
      · exact br_t (nI_lt (b := 7) (by omega) (by decide)) (ok (fun z => absurd z k7))
theorem i_vc_way {k : Nat} {u : SX} {v : SY} (I : i_Rel k u v) (hk : k + 5 ≤ 2560) (v1 : Int32) (v2 : Int32) (v3 : Int32) (v4 : Int32) : wpX_way (fun r u' => wpY_way (fun r' v' => r' = r ∧ i_Rel (k + 5) u' v') v v1 v2 v3 v4) u v1 v2 v3 v4 := by
  obtain ⟨f_liveSet, f_loopSet, f_mergeSet, f_orderedSet, f_orderedCount, f_pendingCount, f_codeLength, f_outCount, f_carriedCount, f_lastOutcome, a_actionKind, a_actionNumber, a_wayKind, a_wayFirst, a_waySecond, a_dominatorSet, a_forwardSet, a_order, a_pendingForm, a_pendingBlock, a_codeForm, a_codeBlock, a_loopPlace, a_scopeEndPlace, a_elsePlace, a_registers, a_visitCounts, a_outNumbers⟩ := u
  obtain ⟨f_came, f_said, f_done, a_acts, a_numbers, a_ways, a_first, a_second, a_over, a_reg, a_last, a_often⟩ := v
  obtain ⟨kd, fi, se, ac, l, K, VX, VY, VA, rfl, rfl, SH, rfl, rfl, rfl, hl, hX, hY, rfl, hr, hv⟩ := I
  have R : rE f_liveSet f_loopSet f_mergeSet f_orderedSet f_orderedCount (nI l.length) f_carriedCount f_lastOutcome a_actionKind a_actionNumber a_wayKind a_wayFirst a_waySecond a_dominatorSet a_order a_registers a_visitCounts a_outNumbers f_lastOutcome (nI l.length) f_carriedCount a_actionKind a_actionNumber a_ways a_first a_second a_reg a_last a_often := ⟨kd, fi, se, ac, l, K, VX, VY, VA, rfl, rfl, SH, rfl, rfl, rfl, hl, hX, hY, rfl, hr, hv⟩
  unfold wpX_way
  dsimp only
  rcases x8_c v1 with z | ⟨b, b8, rfl⟩
  · exact xw_nblk z (br_t rfl (by unfold wpY_way; exact yw_nblk z (br_t rfl ⟨rfl, R⟩)))
  · refine xw_blk b8 (br_f x10 ?_)
    rcases pk_ix v2 (n := 5) (by decide) with z | z | ⟨kk, k5, rfl⟩
    · exact br_t z (by unfold wpY_way; exact yw_blk b8 (br_f x10 (br_t z ⟨rfl, R⟩)))
    · have z0 : ¬ v2 < 0 := fun w => absurd (Int32.lt_of_le_of_lt z w) (by decide)
      have z9 : (4 : Int32) < v2 := Int32.lt_of_lt_of_le (by decide : (4 : Int32) < nI 5) z
      exact br_f z0 (br_f (Int32.not_le.mpr z9) (by unfold wpY_way; exact yw_blk b8 (br_f x10 (br_f z0 (br_t z9 ⟨rfl, R⟩)))))
    · have z0 : ¬ nI kk < 0 := nI_pos (by omega)
      have z9 : ¬ (4 : Int32) < nI kk := nI_nlt (a := 4) (by omega) (by decide)
      have z9' : nI kk ≤ 4 := nI_le (b := 4) (by omega) (by decide)
      have hin := xw_in b8
      have ok : (kk ≠ 0 → ∃ j, j < 8 ∧ v3 = nI j) → (2 ≤ kk → ∃ j, j < 8 ∧ v4 = nI j) → wX_way_47 (fun r u' => wpY_way (fun r' v' => r' = r ∧ i_Rel (k + 5) u' v') (f_lastOutcome, nI l.length, f_carriedCount, a_actionKind, a_actionNumber, a_ways, a_first, a_second, a_over, a_reg, a_last, a_often) (nI b) (nI kk) v3 v4) (nI b) (nI kk) v3 v4 f_liveSet f_loopSet f_mergeSet f_orderedSet f_orderedCount f_pendingCount f_codeLength (nI l.length) f_carriedCount f_lastOutcome a_actionKind a_actionNumber a_wayKind a_wayFirst a_waySecond a_dominatorSet a_forwardSet a_order a_pendingForm a_pendingBlock a_codeForm a_codeBlock a_loopPlace a_scopeEndPlace a_elsePlace a_registers a_visitCounts a_outNumbers := by
        intro h1 h2
        have c1 : kk ≠ 0 → v3 = nI v3.toNatClampNeg ∧ v3.toNatClampNeg < 8 := by
          intro y
          obtain ⟨j, j8, rfl⟩ := h1 y
          rw [xw_c j8]
          exact ⟨rfl, j8⟩
        have c2 : 2 ≤ kk → v4 = nI v4.toNatClampNeg ∧ v4.toNatClampNeg < 8 := by
          intro y
          obtain ⟨j, j8, rfl⟩ := h2 y
          rw [xw_c j8]
          exact ⟨rfl, j8⟩
        have K' : vk (fu kd b kk) (fu fi b v3.toNatClampNeg) (fu se b v4.toNatClampNeg) := vk_u K (by omega) (fun y => (c1 y).2) (fun y => (c2 y).2)
        have VX' := vw_u (b := b) VX (fun y => (c1 y).1) (fun y => (c2 y).1)
        refine ⟨hin, nm_r (e' := upd a_wayKind b (nI kk)) (by rw [xw_c b8]) ⟨hin, nm_r (e' := upd a_wayFirst b v3) (by rw [xw_c b8]) ⟨hin, nm_r (e' := upd a_waySecond b v4) (by rw [xw_c b8]) ?_⟩⟩⟩
        refine xw_ss VX' K' rfl (fun lv lo me os oc ds fs od SH' => ?_)
        have fin : ∀ f1 s2, (kk ≠ 0 → f1 = v3) → (2 ≤ kk → s2 = v4) → i_Rel (k + 5) (lv, lo, me, os, oc, f_pendingCount, f_codeLength, nI l.length, f_carriedCount, f_lastOutcome, a_actionKind, a_actionNumber, upd a_wayKind b (nI kk), upd a_wayFirst b v3, upd a_waySecond b v4, ds, fs, od, a_pendingForm, a_pendingBlock, a_codeForm, a_codeBlock, a_loopPlace, a_scopeEndPlace, a_elsePlace, a_registers, a_visitCounts, a_outNumbers) (f_lastOutcome, nI l.length, f_carriedCount, a_actionKind, a_actionNumber, upd a_ways b (nI kk), upd a_first b f1, upd a_second b s2, a_over, a_reg, a_last, a_often) := by
          intro f1 s2 e1 e2
          have VY' : vw (upd a_ways b (nI kk)) (upd a_first b f1) (upd a_second b s2) (fu kd b kk) (fu fi b v3.toNatClampNeg) (fu se b v4.toNatClampNeg) := vw_u VY (fun y => (e1 y).trans (c1 y).1) (fun y => (e2 y).trans (c2 y).1)
          exact ⟨_, _, _, ac, l, K', VX', VY', VA, rfl, rfl, SH', rfl, rfl, rfl, hl, hX, hY, rfl, hr, hv⟩
        have y46 : wY_way_46 (fun r' v' => r' = 1 ∧ i_Rel (k + 5) (lv, lo, me, os, oc, f_pendingCount, f_codeLength, nI l.length, f_carriedCount, f_lastOutcome, a_actionKind, a_actionNumber, upd a_wayKind b (nI kk), upd a_wayFirst b v3, upd a_waySecond b v4, ds, fs, od, a_pendingForm, a_pendingBlock, a_codeForm, a_codeBlock, a_loopPlace, a_scopeEndPlace, a_elsePlace, a_registers, a_visitCounts, a_outNumbers) v') (nI b) (nI kk) v3 v4 f_lastOutcome (nI l.length) f_carriedCount a_actionKind a_actionNumber a_ways a_first a_second a_over a_reg a_last a_often := by
          refine ⟨hin, nm_r (e' := upd a_ways b (nI kk)) (by rw [xw_c b8]) ?_⟩
          by_cases y0 : kk = 0
          · subst y0
            exact br_t (by decide) ⟨hin, nm_r (e' := upd a_first b 0) (by rw [xw_c b8]) (br_t (by decide) ⟨hin, nm_r (e' := upd a_second b 0) (by rw [xw_c b8]) ⟨rfl, fin 0 0 (fun w => absurd rfl w) (fun w => absurd w (by decide))⟩⟩)⟩
          · refine br_f (nI_nlt (b := 1) (by omega) (by omega)) ⟨hin, nm_r (e' := upd a_first b v3) (by rw [xw_c b8]) ?_⟩
            by_cases y2 : 2 ≤ kk
            · exact br_f (nI_nlt (b := 2) y2 (by omega)) ⟨hin, nm_r (e' := upd a_second b v4) (by rw [xw_c b8]) ⟨rfl, fin v3 v4 (fun _ => rfl) (fun _ => rfl)⟩⟩
            · exact br_t (nI_lt (b := 2) (by omega) (by decide)) ⟨hin, nm_r (e' := upd a_second b 0) (by rw [xw_c b8]) ⟨rfl, fin v3 0 (fun _ => rfl) (fun w => absurd w y2)⟩⟩
        have y30 : wY_way_30 (fun r' v' => r' = 1 ∧ i_Rel (k + 5) (lv, lo, me, os, oc, f_pendingCount, f_codeLength, nI l.length, f_carriedCount, f_lastOutcome, a_actionKind, a_actionNumber, upd a_wayKind b (nI kk), upd a_wayFirst b v3, upd a_waySecond b v4, ds, fs, od, a_pendingForm, a_pendingBlock, a_codeForm, a_codeBlock, a_loopPlace, a_scopeEndPlace, a_elsePlace, a_registers, a_visitCounts, a_outNumbers) v') (nI b) (nI kk) v3 v4 f_lastOutcome (nI l.length) f_carriedCount a_actionKind a_actionNumber a_ways a_first a_second a_over a_reg a_last a_often := by
          by_cases y2 : 2 ≤ kk
          · obtain ⟨j, j8, rfl⟩ := h2 y2
            exact br_f (nI_nlt (b := 2) y2 (by omega)) (yw_blk j8 (br_f x10 y46))
          · exact br_t (nI_lt (b := 2) (by omega) (by decide)) y46
        unfold wpY_way
        refine yw_blk b8 (br_f x10 (br_f z0 (br_f z9 ?_)))
        by_cases y0 : kk = 0
        · subst y0
          exact br_t (by decide) y30
        · obtain ⟨j, j8, rfl⟩ := h1 y0
          exact br_f (nI_nlt (b := 1) (Nat.pos_of_ne_zero y0) (Nat.lt_trans k5 (by decide))) (yw_blk j8 (br_f x10 y30))
      refine br_f z0 (br_t z9' ?_)
      by_cases y0 : kk = 0
      · subst y0
        exact br_t (by decide) (br_t (by decide) (ok (fun w => absurd rfl w) (fun w => absurd w (by decide))))
      · have n1 : ¬ nI kk < 1 := nI_nlt (b := 1) (by omega) (by omega)
        refine br_f n1 ?_
        rcases x8_c v3 with z | ⟨j, j8, rfl⟩
        · exact xw_nblk z (br_t rfl (by unfold wpY_way; exact yw_blk b8 (br_f x10 (br_f z0 (br_f z9 (br_f n1 (yw_nblk z (br_t rfl ⟨rfl, R⟩))))))))
        · refine xw_blk j8 (br_f x10 ?_)
          by_cases y2 : 2 ≤ kk
          · have n2 : ¬ nI kk < 2 := nI_nlt (b := 2) y2 (by omega)
            refine br_f n2 ?_
            rcases x8_c v4 with z | ⟨j', j8', rfl⟩
            · exact xw_nblk z (br_t rfl (by unfold wpY_way; exact yw_blk b8 (br_f x10 (br_f z0 (br_f z9 (br_f n1 (yw_blk j8 (br_f x10 (br_f n2 (yw_nblk z (br_t rfl ⟨rfl, R⟩)))))))))))
            · exact xw_blk j8' (br_f x10 (ok (fun _ => ⟨j, j8, rfl⟩) (fun _ => ⟨j', j8', rfl⟩)))
          · exact br_t (nI_lt (b := 2) (by omega) (by decide)) (ok (fun _ => ⟨j, j8, rfl⟩) (fun w => absurd w y2))
theorem i_vc_run {k : Nat} {u : SX} {v : SY} (I : i_Rel k u v) (hk : k + 5 ≤ 2560) (v1 : Int32) (v2 : Int32) : wpX_run (fun r u' => wpY_run (fun r' v' => r' = r ∧ i_Rel (k + 5) u' v') v v1 v2) u v1 v2 := by
  obtain ⟨f_liveSet, f_loopSet, f_mergeSet, f_orderedSet, f_orderedCount, f_pendingCount, f_codeLength, f_outCount, f_carriedCount, f_lastOutcome, a_actionKind, a_actionNumber, a_wayKind, a_wayFirst, a_waySecond, a_dominatorSet, a_forwardSet, a_order, a_pendingForm, a_pendingBlock, a_codeForm, a_codeBlock, a_loopPlace, a_scopeEndPlace, a_elsePlace, a_registers, a_visitCounts, a_outNumbers⟩ := u
  obtain ⟨f_came, f_said, f_done, a_acts, a_numbers, a_ways, a_first, a_second, a_over, a_reg, a_last, a_often⟩ := v
  obtain ⟨kd, fi, se, ac, l, K, VX, VY, VA, rfl, rfl, SH, rfl, rfl, rfl, hl, hX, hY, rfl, hr, hv⟩ := I
  have R := SH
  obtain ⟨s1, s2, s3, s4, s5, s6⟩ := SH
  have q := sh_reg K
  rw [← s4, ← s1] at q
  by_cases z : f_orderedSet = f_liveSet
  · refine xw_run VX K VA R z (fun pc cl pf pb cf cb lp sp el rs vc on q1 q2 q3 => ?_)
    refine yw_run VY K VA (q.mp z) (fun ov rs' vc' la p1 p2 p3 => ⟨rfl, kd, fi, se, ac, _, K, VX, VY, VA, rfl, rfl, R, rfl, rfl, rfl, ?_, q3, p3, rfl, fun i hi => (q1 i hi).trans (p1 i hi).symm, fun i hi => (q2 i hi).trans (p2 i hi).symm⟩)
    have a := pu_len ac a_actionNumber kd fi se 80 0 (rg0 v1 v2) [] (fun _ => 0) 0
    exact a
  · refine xw_runb z (yw_runb VY K (ts_nf (fun y => z (q.mpr y))) (fun ov => ⟨rfl, kd, fi, se, ac, l, K, VX, VY, VA, rfl, rfl, R, rfl, rfl, rfl, hl, hX, hY, rfl, hr, hv⟩))
theorem i_vc_outcome {k : Nat} {u : SX} {v : SY} (I : i_Rel k u v) (hk : k + 5 ≤ 2560) : wpX_outcome (fun r => wpY_outcome (fun r' => r' = r ∧ i_Rel (k + 5) u v) v) u := by
  obtain ⟨f_liveSet, f_loopSet, f_mergeSet, f_orderedSet, f_orderedCount, f_pendingCount, f_codeLength, f_outCount, f_carriedCount, f_lastOutcome, a_actionKind, a_actionNumber, a_wayKind, a_wayFirst, a_waySecond, a_dominatorSet, a_forwardSet, a_order, a_pendingForm, a_pendingBlock, a_codeForm, a_codeBlock, a_loopPlace, a_scopeEndPlace, a_elsePlace, a_registers, a_visitCounts, a_outNumbers⟩ := u
  obtain ⟨f_came, f_said, f_done, a_acts, a_numbers, a_ways, a_first, a_second, a_over, a_reg, a_last, a_often⟩ := v
  obtain ⟨kd, fi, se, ac, l, K, VX, VY, VA, rfl, rfl, SH, rfl, rfl, rfl, hl, hX, hY, rfl, hr, hv⟩ := I
  exact ⟨rfl, kd, fi, se, ac, l, K, VX, VY, VA, rfl, rfl, SH, rfl, rfl, rfl, hl, hX, hY, rfl, hr, hv⟩
theorem i_vc_register {k : Nat} {u : SX} {v : SY} (I : i_Rel k u v) (hk : k + 5 ≤ 2560) (v1 : Int32) : wpX_register (fun r => wpY_register (fun r' => r' = r ∧ i_Rel (k + 5) u v) v v1) u v1 := by
  obtain ⟨f_liveSet, f_loopSet, f_mergeSet, f_orderedSet, f_orderedCount, f_pendingCount, f_codeLength, f_outCount, f_carriedCount, f_lastOutcome, a_actionKind, a_actionNumber, a_wayKind, a_wayFirst, a_waySecond, a_dominatorSet, a_forwardSet, a_order, a_pendingForm, a_pendingBlock, a_codeForm, a_codeBlock, a_loopPlace, a_scopeEndPlace, a_elsePlace, a_registers, a_visitCounts, a_outNumbers⟩ := u
  obtain ⟨f_came, f_said, f_done, a_acts, a_numbers, a_ways, a_first, a_second, a_over, a_reg, a_last, a_often⟩ := v
  obtain ⟨kd, fi, se, ac, l, K, VX, VY, VA, rfl, rfl, SH, rfl, rfl, rfl, hl, hX, hY, rfl, hr, hv⟩ := I
  have R : rE f_liveSet f_loopSet f_mergeSet f_orderedSet f_orderedCount (nI l.length) f_carriedCount f_lastOutcome a_actionKind a_actionNumber a_wayKind a_wayFirst a_waySecond a_dominatorSet a_order a_registers a_visitCounts a_outNumbers f_lastOutcome (nI l.length) f_carriedCount a_actionKind a_actionNumber a_ways a_first a_second a_reg a_last a_often := ⟨kd, fi, se, ac, l, K, VX, VY, VA, rfl, rfl, SH, rfl, rfl, rfl, hl, hX, hY, rfl, hr, hv⟩
  unfold wpX_register
  dsimp only
  rcases pk_ix v1 (n := 3) (by decide) with z | z | ⟨j, j3, rfl⟩
  · exact br_t z (br_t rfl (br_t z ⟨rfl, R⟩))
  · exact br_f (x3_n z) (br_t z (br_t rfl (br_f (x3_n z) (br_t (x3_2 z) ⟨rfl, R⟩))))
  · have c : (nI j).toNatClampNeg = j := nI_clamp (by omega)
    have hin : vp_in (nI j) 3 := vp_in_nI j3 (by decide)
    refine br_f (nI_pos (by omega)) (br_f (nI_ge (b := 3) j3 (by decide)) (br_f x10 ⟨hin, br_f (nI_pos (by omega)) (br_f (nI_nlt (a := 2) (by omega) (by decide)) ⟨hin, ?_, R⟩)⟩))
    rw [c]
    exact (hr j j3).symm
theorem i_vc_outs {k : Nat} {u : SX} {v : SY} (I : i_Rel k u v) (hk : k + 5 ≤ 2560) : wpX_outs (fun r => wpY_outs (fun r' => r' = r ∧ i_Rel (k + 5) u v) v) u := by
  obtain ⟨f_liveSet, f_loopSet, f_mergeSet, f_orderedSet, f_orderedCount, f_pendingCount, f_codeLength, f_outCount, f_carriedCount, f_lastOutcome, a_actionKind, a_actionNumber, a_wayKind, a_wayFirst, a_waySecond, a_dominatorSet, a_forwardSet, a_order, a_pendingForm, a_pendingBlock, a_codeForm, a_codeBlock, a_loopPlace, a_scopeEndPlace, a_elsePlace, a_registers, a_visitCounts, a_outNumbers⟩ := u
  obtain ⟨f_came, f_said, f_done, a_acts, a_numbers, a_ways, a_first, a_second, a_over, a_reg, a_last, a_often⟩ := v
  obtain ⟨kd, fi, se, ac, l, K, VX, VY, VA, rfl, rfl, SH, rfl, rfl, rfl, hl, hX, hY, rfl, hr, hv⟩ := I
  exact ⟨rfl, kd, fi, se, ac, l, K, VX, VY, VA, rfl, rfl, SH, rfl, rfl, rfl, hl, hX, hY, rfl, hr, hv⟩
theorem i_vc_lastOut {k : Nat} {u : SX} {v : SY} (I : i_Rel k u v) (hk : k + 5 ≤ 2560) (v1 : Int32) : wpX_lastOut (fun r => wpY_lastOut (fun r' => r' = r ∧ i_Rel (k + 5) u v) v v1) u v1 := by
  obtain ⟨f_liveSet, f_loopSet, f_mergeSet, f_orderedSet, f_orderedCount, f_pendingCount, f_codeLength, f_outCount, f_carriedCount, f_lastOutcome, a_actionKind, a_actionNumber, a_wayKind, a_wayFirst, a_waySecond, a_dominatorSet, a_forwardSet, a_order, a_pendingForm, a_pendingBlock, a_codeForm, a_codeBlock, a_loopPlace, a_scopeEndPlace, a_elsePlace, a_registers, a_visitCounts, a_outNumbers⟩ := u
  obtain ⟨f_came, f_said, f_done, a_acts, a_numbers, a_ways, a_first, a_second, a_over, a_reg, a_last, a_often⟩ := v
  obtain ⟨kd, fi, se, ac, l, K, VX, VY, VA, rfl, rfl, SH, rfl, rfl, rfl, hl, hX, hY, rfl, hr, hv⟩ := I
  have R : rE f_liveSet f_loopSet f_mergeSet f_orderedSet f_orderedCount (nI l.length) f_carriedCount f_lastOutcome a_actionKind a_actionNumber a_wayKind a_wayFirst a_waySecond a_dominatorSet a_order a_registers a_visitCounts a_outNumbers f_lastOutcome (nI l.length) f_carriedCount a_actionKind a_actionNumber a_ways a_first a_second a_reg a_last a_often := ⟨kd, fi, se, ac, l, K, VX, VY, VA, rfl, rfl, SH, rfl, rfl, rfl, hl, hX, hY, rfl, hr, hv⟩
  rcases x8_c v1 with (z | z) | ⟨j, j8, rfl⟩
  · exact br_t z (br_t z ⟨rfl, R⟩)
  · exact br_f (x8_n z) (br_t z (br_f (x8_n z) (br_t (x8_7 z) ⟨rfl, R⟩)))
  · refine br_f (xn_f j8) (br_f (x8_f j8) ?_)
    by_cases h : j < l.length
    · have e : nI l.length - 1 - nI j = nI (l.length - 1 - j) := by
        rw [show nI l.length - 1 = nI (l.length - 1) from pk_sub (b := 1) (by omega), pk_sub (by omega)]
      have c : (nI (l.length - 1 - j)).toNatClampNeg = l.length - 1 - j := nI_clamp (by omega)
      refine br_t (nI_lt h (by omega)) ?_
      rw [e, c]
      refine ⟨vp_in_nI (by omega) (by decide), br_f (xn_f j8) (br_f (x7_f j8) (br_f (nI_ge h (by omega)) ⟨xw_in j8, ?_, R⟩))⟩
      rw [xw_c j8, ouX_g hX h]
      exact hY j j8 h
    · exact br_f (nI_nlt (by omega) (by omega)) (br_f (xn_f j8) (br_f (x7_f j8) (br_t (nI_le (by omega) (by omega)) ⟨rfl, R⟩)))
theorem i_vc_carried {k : Nat} {u : SX} {v : SY} (I : i_Rel k u v) (hk : k + 5 ≤ 2560) : wpX_carried (fun r => wpY_carried (fun r' => r' = r ∧ i_Rel (k + 5) u v) v) u := by
  obtain ⟨f_liveSet, f_loopSet, f_mergeSet, f_orderedSet, f_orderedCount, f_pendingCount, f_codeLength, f_outCount, f_carriedCount, f_lastOutcome, a_actionKind, a_actionNumber, a_wayKind, a_wayFirst, a_waySecond, a_dominatorSet, a_forwardSet, a_order, a_pendingForm, a_pendingBlock, a_codeForm, a_codeBlock, a_loopPlace, a_scopeEndPlace, a_elsePlace, a_registers, a_visitCounts, a_outNumbers⟩ := u
  obtain ⟨f_came, f_said, f_done, a_acts, a_numbers, a_ways, a_first, a_second, a_over, a_reg, a_last, a_often⟩ := v
  obtain ⟨kd, fi, se, ac, l, K, VX, VY, VA, rfl, rfl, SH, rfl, rfl, rfl, hl, hX, hY, rfl, hr, hv⟩ := I
  exact ⟨rfl, kd, fi, se, ac, l, K, VX, VY, VA, rfl, rfl, SH, rfl, rfl, rfl, hl, hX, hY, rfl, hr, hv⟩
theorem i_vc_visits {k : Nat} {u : SX} {v : SY} (I : i_Rel k u v) (hk : k + 5 ≤ 2560) (v1 : Int32) : wpX_visits (fun r => wpY_visits (fun r' => r' = r ∧ i_Rel (k + 5) u v) v v1) u v1 := by
  obtain ⟨f_liveSet, f_loopSet, f_mergeSet, f_orderedSet, f_orderedCount, f_pendingCount, f_codeLength, f_outCount, f_carriedCount, f_lastOutcome, a_actionKind, a_actionNumber, a_wayKind, a_wayFirst, a_waySecond, a_dominatorSet, a_forwardSet, a_order, a_pendingForm, a_pendingBlock, a_codeForm, a_codeBlock, a_loopPlace, a_scopeEndPlace, a_elsePlace, a_registers, a_visitCounts, a_outNumbers⟩ := u
  obtain ⟨f_came, f_said, f_done, a_acts, a_numbers, a_ways, a_first, a_second, a_over, a_reg, a_last, a_often⟩ := v
  obtain ⟨kd, fi, se, ac, l, K, VX, VY, VA, rfl, rfl, SH, rfl, rfl, rfl, hl, hX, hY, rfl, hr, hv⟩ := I
  have R : rE f_liveSet f_loopSet f_mergeSet f_orderedSet f_orderedCount (nI l.length) f_carriedCount f_lastOutcome a_actionKind a_actionNumber a_wayKind a_wayFirst a_waySecond a_dominatorSet a_order a_registers a_visitCounts a_outNumbers f_lastOutcome (nI l.length) f_carriedCount a_actionKind a_actionNumber a_ways a_first a_second a_reg a_last a_often := ⟨kd, fi, se, ac, l, K, VX, VY, VA, rfl, rfl, SH, rfl, rfl, rfl, hl, hX, hY, rfl, hr, hv⟩
  unfold wpX_visits
  dsimp only
  rcases x8_c v1 with z | ⟨j, j8, rfl⟩
  · exact xw_nblk z (br_t rfl (by unfold wpY_visits; exact yw_nblk z (br_t rfl ⟨rfl, R⟩)))
  · refine xw_blk j8 (br_f x10 ⟨xw_in j8, ?_⟩)
    unfold wpY_visits
    refine yw_blk j8 (br_f x10 ⟨xw_in j8, ?_, R⟩)
    rw [xw_c j8]
    exact (hv j j8).symm
end
