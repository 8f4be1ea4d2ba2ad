/-! the order of the blocks against the search for a ring -/
theorem rs_cn_z {f : Nat → Bool} {n : Nat} (h : ∀ i, i < n → f i = false) : rs_cn f n = 0 := by
  induction n with
  | zero => rfl
  | succ n ih =>
    simp only [rs_cn]
    rw [ih (fun i hi => h i (by omega)), if_neg (by rw [h n (by omega)]; decide)]
def ka_h (F : Nat → Int32) (w : Int32) : Nat → Int32
  | 0 => 0
  | n + 1 => if bt w n = true then ka_h F w n ||| F n else ka_h F w n
def ka_w (L os : Int32) : Int32 := L &&& (os ^^^ (-1))
def ka_r (F : Nat → Int32) (L os : Int32) : Int32 := ka_w L os &&& (ka_h F (ka_w L os) 8 ^^^ (-1))
def ka (F : Nat → Int32) (L : Int32) : Nat → Int32
  | 0 => 0
  | k + 1 => ka F L k ||| ka_r F L (ka F L k)
def ow_f (F : Nat → Int32) (s : Int32) : Nat → Int32
  | 0 => s
  | n + 1 => if bt s n = true then ow_f F s n ||| F n else ow_f F s n
def ow (F : Nat → Int32) (s : Int32) : Int32 := ow_f F s 8
def ow_c (F : Nat → Int32) (b : Nat) : Int32 := rs_it (ow F) (F b) 8
theorem ka_hi (F : Nat → Int32) (w : Int32) (c n : Nat) : bt (ka_h F w n) c = true ↔ ∃ b, b < n ∧ bt w b = true ∧ bt (F b) c = true := by
  induction n with
  | zero =>
    simp only [ka_h]
    rw [b_0]
    exact ⟨fun z => (by cases z), fun ⟨p, z, _⟩ => absurd z (Nat.not_lt_zero p)⟩
  | succ n ih =>
    simp only [ka_h]
    split
    · rename_i hw
      rw [b_or, Bool.or_eq_true, ih]
      constructor
      · rintro (⟨p, h, e⟩ | h)
        · exact ⟨p, by omega, e⟩
        · exact ⟨n, by omega, hw, h⟩
      · rintro ⟨p, h, e1, e2⟩
        by_cases z : p = n
        · subst z
          exact Or.inr e2
        · exact Or.inl ⟨p, by omega, e1, e2⟩
    · rename_i hw
      rw [ih]
      constructor
      · rintro ⟨p, h, e⟩
        exact ⟨p, by omega, e⟩
      · rintro ⟨p, h, e1, e2⟩
        by_cases z : p = n
        · subst z
          exact absurd e1 hw
        · exact ⟨p, by omega, e1, e2⟩
theorem ow_fi (F : Nat → Int32) (s : Int32) (c n : Nat) : bt (ow_f F s n) c = true ↔ bt s c = true ∨ ∃ b, b < n ∧ bt s b = true ∧ bt (F b) c = true := by
  induction n with
  | zero =>
    simp only [ow_f]
    exact ⟨fun z => Or.inl z, fun z => by
      rcases z with z | ⟨p, z, _⟩
      · exact z
      · exact absurd z (Nat.not_lt_zero p)⟩
  | succ n ih =>
    simp only [ow_f]
    split
    · rename_i hw
      rw [b_or, Bool.or_eq_true, ih]
      constructor
      · rintro ((h | ⟨p, h, e⟩) | h)
        · exact Or.inl h
        · exact Or.inr ⟨p, by omega, e⟩
        · exact Or.inr ⟨n, by omega, hw, h⟩
      · rintro (h | ⟨p, h, e1, e2⟩)
        · exact Or.inl (Or.inl h)
        · by_cases z : p = n
          · subst z
            exact Or.inr e2
          · exact Or.inl (Or.inr ⟨p, by omega, e1, e2⟩)
    · rename_i hw
      rw [ih]
      constructor
      · rintro (h | ⟨p, h, e⟩)
        · exact Or.inl h
        · exact Or.inr ⟨p, by omega, e⟩
      · rintro (h | ⟨p, h, e1, e2⟩)
        · exact Or.inl h
        · by_cases z : p = n
          · subst z
            exact absurd e1 hw
          · exact Or.inr ⟨p, by omega, e1, e2⟩
theorem ka_wi (L os : Int32) (b : Nat) : bt (ka_w L os) b = true ↔ bt L b = true ∧ bt os b = false := by
  unfold ka_w
  rw [rb_an, Bool.and_eq_true, Bool.not_eq_true']
theorem ka_ri (F : Nat → Int32) (L os : Int32) (c : Nat) : bt (ka_r F L os) c = true ↔ bt (ka_w L os) c = true ∧ ¬ ∃ b, b < 8 ∧ bt (ka_w L os) b = true ∧ bt (F b) c = true := by
  unfold ka_r
  rw [rb_an, Bool.and_eq_true, Bool.not_eq_true', ← ka_hi]
  constructor
  · exact fun z => ⟨z.1, fun y => by rw [z.2] at y; cases y⟩
  · exact fun z => ⟨z.1, rb_tf z.2⟩
theorem ka_up (F : Nat → Int32) (L : Int32) (k : Nat) : rs_sub (ka F L k) (ka F L (k + 1)) := by
  intro i h
  simp only [ka]
  rw [b_or, h, Bool.true_or]
theorem ka_sub (F : Nat → Int32) (L : Int32) (k : Nat) : rs_sub (ka F L k) L := by
  induction k with
  | zero =>
    intro i h
    simp only [ka] at h
    rw [b_0] at h
    cases h
  | succ k ih =>
    intro i h
    simp only [ka] at h
    rw [b_or, Bool.or_eq_true] at h
    rcases h with h | h
    · exact ih i h
    · exact ((ka_wi _ _ _).mp ((ka_ri _ _ _ _).mp h).1).1
theorem ka_pr {F : Nat → Int32} {L : Int32} (hd : ∀ b, b < 8 → bt L b = false → F b = 0) (k : Nat) : ∀ c b, b < 8 → bt (ka F L (k + 1)) c = true → bt (F b) c = true → bt (ka F L k) b = true := by
  have rdy : ∀ os c b, b < 8 → bt (ka_r F L os) c = true → bt (F b) c = true → bt os b = true := by
    intro os c b hb h e
    obtain ⟨_, h2⟩ := (ka_ri _ _ _ _).mp h
    apply Classical.byContradiction
    intro n
    cases l : bt L b with
    | false =>
      rw [hd b hb l, b_0] at e
      cases e
    | true => exact h2 ⟨b, hb, (ka_wi _ _ _).mpr ⟨l, rb_tf n⟩, e⟩
  induction k with
  | zero =>
    intro c b hb h e
    have h' : bt (0 ||| ka_r F L 0) c = true := h
    rw [b_or, b_0, Bool.false_or] at h'
    exact rdy _ c b hb h' e
  | succ k ih =>
    intro c b hb h e
    have h' : bt (ka F L (k + 1) ||| ka_r F L (ka F L (k + 1))) c = true := h
    rw [b_or, Bool.or_eq_true] at h'
    rcases h' with h' | h'
    · exact ka_up F L k b (ih c b hb h' e)
    · exact rdy _ c b hb h' e
theorem ow_up (F : Nat → Int32) (s : Int32) : rs_sub s (ow F s) := fun i h => (ow_fi F s i 8).mpr (Or.inl h)
theorem ow_lo {F : Nat → Int32} (hF : ∀ b, b < 8 → rs_lo (F b)) {s : Int32} (hs : rs_lo s) : rs_lo (ow F s) := by
  intro i hi
  apply rb_tf
  intro z
  rcases (ow_fi F s i 8).mp z with y | ⟨b, hb, _, y⟩
  · rw [hs i hi] at y
    cases y
  · rw [hF b hb i hi] at y
    cases y
theorem ow_cl {F : Nat → Int32} (hF : ∀ b, b < 8 → rs_lo (F b)) {b : Nat} (hb : b < 8) {y x : Nat} (h8 : y < 8) (hy : bt (ow_c F b) y = true) (hx : bt (F y) x = true) : bt (ow_c F b) x = true := by
  have a := (rs_fix (ow F) (F b) (hF b hb) (fun s hs => ow_lo hF hs) (fun s => ow_up F s)).2
  have c : bt (ow F (ow_c F b)) x = true := (ow_fi F _ x 8).mpr (Or.inr ⟨y, h8, hy, hx⟩)
  unfold ow_c at c ⊢
  rw [a] at c
  exact c
theorem ow_st (F : Nat → Int32) (b : Nat) : rs_sub (F b) (ow_c F b) := by
  have k : ∀ j, rs_sub (F b) (rs_it (ow F) (F b) j) := by
    intro j
    induction j with
    | zero => exact fun _ h => h
    | succ j ih => exact fun i h => ow_up F _ i (ih i h)
  exact k 8
theorem ow_le {F : Nat → Int32} {b : Nat} {S : Nat → Prop} (h0 : ∀ i, bt (F b) i = true → S i) (hs : ∀ u v, u < 8 → S u → bt (F u) v = true → S v) {x : Nat} (h : bt (ow_c F b) x = true) : S x := by
  have k : ∀ j i, bt (rs_it (ow F) (F b) j) i = true → S i := by
    intro j
    induction j with
    | zero => exact h0
    | succ j ih =>
      intro i z
      rcases (ow_fi F _ i 8).mp z with y | ⟨u, hu, y1, y2⟩
      · exact ih i y
      · exact hs u i hu (ih u y1) y2
  exact k 8 x h
theorem ka_iff {F : Nat → Int32} {L : Int32} (hF : ∀ b, b < 8 → rs_lo (F b)) (hL : rs_lo L) (hd : ∀ b, b < 8 → bt L b = false → F b = 0) :
    ka F L 8 = L ↔ ∀ b, b < 8 → bt (ow_c F b) b = false := by
  constructor
  · intro e b hb
    apply rb_tf
    intro z
    have path : ∀ x, bt (ow_c F b) x = true → ∀ k, bt (ka F L (k + 1)) x = true → bt (ka F L k) b = true := by
      intro x hx
      exact ow_le (S := fun x => ∀ k, bt (ka F L (k + 1)) x = true → bt (ka F L k) b = true)
        (fun i hi k hk => ka_pr hd k i b hb hk hi)
        (fun u v hu su e k hk => su k (ka_up F L k u (ka_pr hd k v u hu hk e))) hx
    have nn : ∀ k, bt (ka F L k) b = false := by
      intro k
      induction k with
      | zero => exact b_0 b
      | succ k ih =>
        apply rb_tf
        intro y
        rw [path b z k y] at ih
        cases ih
    have nl : bt L b = false := by
      have a := nn 8
      rw [e] at a
      exact a
    have f0 := hd b hb nl
    exact ow_le (b := b) (S := fun _ => False) (fun i hi => by rw [f0, b_0] at hi; cases hi) (fun _ _ _ s _ => s) z
  · intro hr
    have rdy : ∀ os, (∃ b, b < 8 ∧ bt (ka_w L os) b = true) → ∃ c, c < 8 ∧ bt (ka_r F L os) c = true := by
      intro os ⟨b0, hb0, hw0⟩
      apply Classical.byContradiction
      intro n
      have pre : ∀ c, bt (ka_w L os) c = true → ∃ b, b < 8 ∧ bt (ka_w L os) b = true ∧ bt (F b) c = true := by
        intro c hc
        apply Classical.byContradiction
        intro n2
        exact n ⟨c, rs_lt8 hL ((ka_wi _ _ _).mp hc).1, (ka_ri _ _ _ _).mpr ⟨hc, n2⟩⟩
      have big : ∀ k, ∃ b, b < 8 ∧ bt (ka_w L os) b = true ∧ k ≤ rs_cn (bt (ow_c F b)) 8 := by
        intro k
        induction k with
        | zero => exact ⟨b0, hb0, hw0, Nat.zero_le _⟩
        | succ k ih =>
          obtain ⟨b, hb, hw, hk⟩ := ih
          obtain ⟨p, hp, pw, pf⟩ := pre b hw
          have bp : bt (ow_c F p) b = true := ow_st F p b pf
          have lt : rs_cn (bt (ow_c F b)) 8 < rs_cn (bt (ow_c F p)) 8 :=
            rs_cn_lt (fun i _ z => ow_le (S := fun i => bt (ow_c F p) i = true) (fun j hj => ow_cl hF hp hb bp hj) (fun u v hu su e => ow_cl hF hp hu su e) z) b hb (hr b hb) bp
          exact ⟨p, hp, pw, by omega⟩
      obtain ⟨b, _, _, h9⟩ := big 9
      have := rs_cn_le (bt (ow_c F b)) 8
      omega
    have cnt : ∀ k, rs_cn (bt (ka_w L (ka F L k))) 8 + k ≤ 8 ∨ rs_cn (bt (ka_w L (ka F L k))) 8 = 0 := by
      intro k
      induction k with
      | zero =>
        left
        have := rs_cn_le (bt (ka_w L (ka F L 0))) 8
        omega
      | succ k ih =>
        have sub : ∀ i, i < 8 → bt (ka_w L (ka F L (k + 1))) i = true → bt (ka_w L (ka F L k)) i = true := by
          intro i _ z
          obtain ⟨z1, z2⟩ := (ka_wi _ _ _).mp z
          refine (ka_wi _ _ _).mpr ⟨z1, rb_tf (fun y => ?_)⟩
          rw [ka_up F L k i y] at z2
          cases z2
        by_cases w : ∃ b, b < 8 ∧ bt (ka_w L (ka F L k)) b = true
        · obtain ⟨c, hc, hr'⟩ := rdy _ w
          have cw := ((ka_ri _ _ _ _).mp hr').1
          have cn : bt (ka_w L (ka F L (k + 1))) c = false := by
            apply rb_tf
            intro z
            have y := ((ka_wi _ _ _).mp z).2
            simp only [ka] at y
            rw [b_or, hr', Bool.or_true] at y
            cases y
          have lt := rs_cn_lt sub c hc cn cw
          omega
        · right
          apply rs_cn_z
          intro i hi
          apply rb_tf
          intro z
          exact w ⟨i, hi, sub i hi z⟩
    apply rs_eq
    · exact ka_sub F L 8
    · intro i hi
      have h8 := rs_lt8 hL hi
      have z : rs_cn (bt (ka_w L (ka F L 8))) 8 = 0 := by
        rcases cnt 8 with c | c
        · omega
        · exact c
      apply Classical.byContradiction
      intro n
      have a := rs_cn_0 z i h8
      rw [(ka_wi _ _ _).mpr ⟨hi, rb_tf n⟩] at a
      cases a
