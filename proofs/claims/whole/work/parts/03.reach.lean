/-! reachability: the passes that both sides make, and the least set -/
def rc_st (T : Nat → Int32) (m s : Int32) (b : Nat) : Int32 := if bt s b = true then s ||| (T b &&& (m ^^^ (-1))) else s
def rc_ps (T : Nat → Int32) (m s : Int32) : Nat → Int32
  | 0 => s
  | n + 1 => rc_st T m (rc_ps T m s n) n
def rc_s0 (m : Int32) : Int32 := 1 &&& (m ^^^ (-1))
def rc (T : Nat → Int32) (m : Int32) : Int32 := rs_it (fun s => rc_ps T m s 8) (rc_s0 m) 8
def rt_lo (T : Nat → Int32) : Prop := ∀ b, b < 8 → rs_lo (T b)
theorem rc_st_sub (T : Nat → Int32) (m s : Int32) (b : Nat) : rs_sub s (rc_st T m s b) := by
  intro i h
  unfold rc_st
  split
  · rw [b_or, h, Bool.true_or]
  · exact h
theorem rc_st_in {T : Nat → Int32} {m s : Int32} {b i : Nat} (h : bt (rc_st T m s b) i = true) : bt s i = true ∨ (bt s b = true ∧ bt (T b) i = true ∧ bt m i = false) := by
  unfold rc_st at h
  split at h
  · rename_i hb
    rw [b_or, rb_an] at h
    cases e : bt s i with
    | true => exact Or.inl rfl
    | false =>
      right
      rw [e, Bool.false_or] at h
      cases e1 : bt (T b) i with
      | false => rw [e1] at h; cases h
      | true =>
        cases e2 : bt m i with
        | true => rw [e1, e2] at h; cases h
        | false => exact ⟨hb, rfl, rfl⟩
  · exact Or.inl h
theorem rc_st_to {T : Nat → Int32} {m s : Int32} {b i : Nat} (hb : bt s b = true) (h1 : bt (T b) i = true) (h2 : bt m i = false) : bt (rc_st T m s b) i = true := by
  unfold rc_st
  rw [if_pos hb, b_or, rb_an, h1, h2]
  exact Bool.or_true _
theorem rc_ps_up (T : Nat → Int32) (m s : Int32) (n d : Nat) : rs_sub (rc_ps T m s n) (rc_ps T m s (n + d)) := by
  induction d with
  | zero => exact fun _ h => h
  | succ d ih => exact fun i h => rc_st_sub T m (rc_ps T m s (n + d)) (n + d) i (ih i h)
theorem rc_ps_lo {T : Nat → Int32} (hT : rt_lo T) {m s : Int32} (hs : rs_lo s) : ∀ n, n ≤ 8 → rs_lo (rc_ps T m s n) := by
  intro n
  induction n with
  | zero => exact fun _ => hs
  | succ n ih =>
    intro h i hi
    cases e : bt (rc_ps T m s (n + 1)) i with
    | false => rfl
    | true =>
      rcases rc_st_in (T := T) (m := m) (s := rc_ps T m s n) (b := n) e with z | z
      · rw [ih (by omega) i hi] at z
        cases z
      · rw [hT n (by omega) i hi] at z
        cases z.2.1
theorem rc_s0_b (m : Int32) (i : Nat) : bt (rc_s0 m) i = (decide (i = 0) && !bt m i) := by
  unfold rc_s0
  rw [rb_an, b_1]
theorem rc_s0_lo (m : Int32) : rs_lo (rc_s0 m) := by
  intro i hi
  rw [rc_s0_b, decide_eq_false (by omega)]
  rfl
theorem rc_cl {T : Nat → Int32} (hT : rt_lo T) (m : Int32) : rs_lo (rc T m) ∧ rc_ps T m (rc T m) 8 = rc T m :=
  rs_fix (fun s => rc_ps T m s 8) (rc_s0 m) (rc_s0_lo m) (fun s hs => rc_ps_lo hT hs 8 (by omega)) (fun s i h => by
    have a := rc_ps_up T m s 0 8 i h
    exact a)
/-- the least set: x can be come to from 0 with no block of A -/
def rr (T : Nat → Int32) (A : Nat → Prop) (x : Nat) : Prop :=
  ∀ S : Nat → Prop, (¬ A 0 → S 0) → (∀ u v, u < 8 → S u → bt (T u) v = true → ¬ A v → S v) → S x
theorem rr_0 {T : Nat → Int32} {A : Nat → Prop} (h : ¬ A 0) : rr T A 0 := fun _ h0 _ => h0 h
theorem rr_s {T : Nat → Int32} {A : Nat → Prop} {u v : Nat} (hu : u < 8) (h : rr T A u) (e : bt (T u) v = true) (ha : ¬ A v) : rr T A v :=
  fun S h0 hs => hs u v hu (h S h0 hs) e ha
theorem rr_lt {T : Nat → Int32} (hT : rt_lo T) {A : Nat → Prop} {x : Nat} (h : rr T A x) : x < 8 :=
  h (fun x => x < 8) (fun _ => by omega) (fun u v hu _ e _ => rs_lt8 (hT u hu) e)
theorem rr_na {T : Nat → Int32} {A : Nat → Prop} {x : Nat} (h : rr T A x) : ¬ A x :=
  h (fun x => ¬ A x) (fun z => z) (fun _ _ _ _ _ z => z)
theorem rr_mono {T : Nat → Int32} {A B : Nat → Prop} (hAB : ∀ x, A x → B x) {x : Nat} (h : rr T B x) : rr T A x :=
  h (rr T A) (fun z => rr_0 (fun y => z (hAB 0 y))) (fun u v hu s e z => rr_s hu s e (fun y => z (hAB v y)))
theorem rc_sound {T : Nat → Int32} {m : Int32} {S : Nat → Prop} (h0 : bt m 0 = false → S 0) (hs : ∀ u v, u < 8 → S u → bt (T u) v = true → bt m v = false → S v) {x : Nat} (h : bt (rc T m) x = true) : S x := by
  have ps : ∀ s, (∀ i, bt s i = true → S i) → ∀ n, n ≤ 8 → ∀ i, bt (rc_ps T m s n) i = true → S i := by
    intro s a n
    induction n with
    | zero => exact fun _ => a
    | succ n ih =>
      intro hn i z
      rcases rc_st_in (T := T) (m := m) (s := rc_ps T m s n) (b := n) z with y | ⟨y1, y2, y3⟩
      · exact ih (by omega) i y
      · exact hs n i (by omega) (ih (by omega) n y1) y2 y3
  have it : ∀ k, ∀ i, bt (rs_it (fun s => rc_ps T m s 8) (rc_s0 m) k) i = true → S i := by
    intro k
    induction k with
    | zero =>
      intro i z
      have z' : bt (rc_s0 m) i = true := z
      rw [rc_s0_b] at z'
      by_cases e : i = 0
      · subst e
        apply h0
        cases y : bt m 0 with
        | false => rfl
        | true => rw [y] at z'; cases z'
      · rw [decide_eq_false e] at z'
        cases z'
    | succ k ih => exact fun i z => ps _ ih 8 (by omega) i z
  exact it 8 x h
theorem rc_up0 {T : Nat → Int32} (m : Int32) : rs_sub (rc_s0 m) (rc T m) := by
  have it : ∀ k, rs_sub (rc_s0 m) (rs_it (fun s => rc_ps T m s 8) (rc_s0 m) k) := by
    intro k
    induction k with
    | zero => exact fun _ h => h
    | succ k ih => exact fun i h => rc_ps_up T m _ 0 8 i (ih i h)
  exact it 8
theorem rc_step {T : Nat → Int32} (hT : rt_lo T) {m : Int32} {u v : Nat} (hu : u < 8) (h : bt (rc T m) u = true) (e : bt (T u) v = true) (hm : bt m v = false) : bt (rc T m) v = true := by
  have a := (rc_cl hT m).2
  have b : bt (rc_ps T m (rc T m) u) u = true := by
    have c := rc_ps_up T m (rc T m) 0 u u h
    rw [Nat.zero_add] at c
    exact c
  have c : bt (rc_ps T m (rc T m) (u + 1)) v = true := rc_st_to b e hm
  have d := rc_ps_up T m (rc T m) (u + 1) (8 - (u + 1)) v c
  rw [show u + 1 + (8 - (u + 1)) = 8 by omega, a] at d
  exact d
theorem rc_iff {T : Nat → Int32} (hT : rt_lo T) (m : Int32) (x : Nat) : bt (rc T m) x = true ↔ rr T (fun i => bt m i = true) x := by
  constructor
  · intro h S h0 hs
    exact rc_sound (fun z => h0 (fun y => rb_no z y)) (fun u v hu su e z => hs u v hu su e (fun y => rb_no z y)) h
  · intro h
    refine h (fun x => bt (rc T m) x = true) (fun z => ?_) (fun u v hu su e z => ?_)
    · apply rc_up0 m
      rw [rc_s0_b, rb_tf z]
      rfl
    · exact rc_step hT hu su e (rb_tf z)
