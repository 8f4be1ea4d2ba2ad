/-! dominators -/
def rv (T : Nat → Int32) (x : Nat) : Prop := rr T (fun _ => False) x
def rq (T : Nat → Int32) (h x : Nat) : Prop := rr T (fun i => i = h) x
theorem rv_iff {T : Nat → Int32} (hT : rt_lo T) (x : Nat) : bt (rc T 0) x = true ↔ rv T x := by
  rw [rc_iff hT]
  constructor
  · exact fun h => rr_mono (fun _ z => False.elim z) h
  · exact fun h => rr_mono (fun i z => rb_no (b_0 i) z) h
theorem rq_iff {T : Nat → Int32} (hT : rt_lo T) {h : Nat} (hh : h < 8) (x : Nat) : bt (rc T (rb_p h)) x = true ↔ rq T h x := by
  rw [rc_iff hT]
  constructor
  · exact fun z => rr_mono (fun i y => (rb_pb (by omega) i).trans (decide_eq_true y)) z
  · exact fun z => rr_mono (fun i y => of_decide_eq_true ((rb_pb (by omega) i).symm.trans y)) z
theorem rq_v {T : Nat → Int32} {h x : Nat} (z : rq T h x) : rv T x := rr_mono (fun _ y => False.elim y) z
theorem rq_self {T : Nat → Int32} (h : Nat) : ¬ rq T h h := fun z => rr_na z rfl
theorem rq_0 {T : Nat → Int32} (x : Nat) : ¬ rq T 0 x := fun z => z (fun _ => False) (fun y => y rfl) (fun _ _ _ y _ _ => y)
theorem rv_0 {T : Nat → Int32} : rv T 0 := rr_0 (fun z => z)
theorem rv_s {T : Nat → Int32} {u v : Nat} (hu : u < 8) (h : rv T u) (e : bt (T u) v = true) : rv T v := rr_s hu h e (fun z => z)
theorem rq_tr {T : Nat → Int32} {a b c : Nat} (h1 : ¬ rq T a b) (h2 : ¬ rq T b c) : ¬ rq T a c := by
  intro h
  have k : rq T a c ∧ (rq T b c ∨ rq T a b) := by
    refine h (fun x => rq T a x ∧ (rq T b x ∨ rq T a b)) (fun z => ⟨rr_0 z, ?_⟩) (fun u v hu s e z => ⟨rr_s hu s.1 e z, ?_⟩)
    · by_cases e : 0 = b
      · right
        rw [← e]
        exact rr_0 z
      · exact Or.inl (rr_0 e)
    · by_cases n : v = b
      · right
        rw [← n]
        exact rr_s hu s.1 e z
      · rcases s.2 with y | y
        · exact Or.inl (rr_s hu y e n)
        · exact Or.inr y
  rcases k.2 with y | y
  · exact h2 y
  · exact h1 y
theorem rq_an {T : Nat → Int32} {a b : Nat} (hn : a ≠ b) (hv : rv T b) (h1 : ¬ rq T a b) (h2 : ¬ rq T b a) : False := by
  have k : rq T a b ∨ rq T b a ∨ (rq T a b ∧ rq T b b) := by
    refine hv (fun x => rq T a b ∨ rq T b a ∨ (rq T a x ∧ rq T b x)) (fun _ => ?_) (fun u v hu s e _ => ?_)
    · by_cases ea : 0 = a
      · right; left
        rw [← ea]
        exact rr_0 (fun z => hn (ea.symm.trans z))
      · by_cases eb : 0 = b
        · left
          rw [← eb]
          exact rr_0 ea
        · exact Or.inr (Or.inr ⟨rr_0 ea, rr_0 eb⟩)
    · rcases s with s | s | ⟨s1, s2⟩
      · exact Or.inl s
      · exact Or.inr (Or.inl s)
      · by_cases ea : v = a
        · right; left
          rw [← ea]
          exact rr_s hu s2 e (fun z => hn (ea.symm.trans z))
        · by_cases eb : v = b
          · left
            rw [← eb]
            exact rr_s hu s1 e ea
          · exact Or.inr (Or.inr ⟨rr_s hu s1 e ea, rr_s hu s2 e eb⟩)
  rcases k with k | k | k
  · exact h1 k
  · exact h2 k
  · exact h1 k.1
theorem rq_to {T : Nat → Int32} {a b c : Nat} (hn : a ≠ b) (hv : rv T c) (h1 : ¬ rq T a c) (h2 : ¬ rq T b c) (h3 : rq T a b) : ¬ rq T b a := by
  intro h4
  have k : rq T a c ∨ rq T b c := by
    refine hv (fun x => rq T a x ∨ rq T b x) (fun _ => ?_) (fun u v hu s e _ => ?_)
    · by_cases ea : 0 = a
      · exact Or.inr (rr_0 (fun z => hn (ea.symm.trans z)))
      · exact Or.inl (rr_0 ea)
    · rcases s with s | s
      · by_cases ea : v = a
        · rw [ea]
          exact Or.inr h4
        · exact Or.inl (rr_s hu s e ea)
      · by_cases eb : v = b
        · rw [eb]
          exact Or.inl h3
        · exact Or.inr (rr_s hu s e eb)
  rcases k with k | k
  · exact h1 k
  · exact h2 k
theorem rq_lv {T : Nat → Int32} {h b : Nat} (hv : rv T b) (h1 : ¬ rq T h b) : rv T h := by
  apply Classical.byContradiction
  intro n
  have k : rv T b ∧ rq T h b := by
    refine hv (fun x => rv T x ∧ rq T h x) (fun _ => ⟨rv_0, rr_0 (fun z => n (z ▸ rv_0))⟩) (fun u v hu s e _ => ?_)
    have a : rv T v := rv_s hu s.1 e
    exact ⟨a, rr_s hu s.2 e (fun z => n (z ▸ a))⟩
  exact h1 k.2
theorem rq_id {T : Nat → Int32} {c : Nat} (hv : rv T c) (h0 : c ≠ 0) : ∃ b, b < 8 ∧ b ≠ c ∧ ¬ rq T b c ∧ ∀ a, a < 8 → a ≠ c → ¬ rq T a c → ¬ rq T a b := by
  have k : ∀ n, n ≤ 8 → ∃ b, b < 8 ∧ b ≠ c ∧ ¬ rq T b c ∧ ∀ a, a < n → a ≠ c → ¬ rq T a c → ¬ rq T a b := by
    intro n
    induction n with
    | zero => exact fun _ => ⟨0, by omega, fun z => h0 z.symm, rq_0 c, fun a z => absurd z (by omega)⟩
    | succ n ih =>
      intro hn
      obtain ⟨b, b8, bc, bd, ba⟩ := ih (by omega)
      by_cases w : n ≠ c ∧ ¬ rq T n c ∧ rq T n b
      · obtain ⟨w1, w2, w3⟩ := w
        have nb : n ≠ b := fun z => rq_self b (z ▸ w3)
        have dn : ¬ rq T b n := rq_to nb hv w2 bd w3
        refine ⟨n, by omega, w1, w2, fun a ha ac ad => ?_⟩
        by_cases e : a = n
        · rw [e]
          exact rq_self n
        · exact rq_tr (ba a (by omega) ac ad) dn
      · refine ⟨b, b8, bc, bd, fun a ha ac ad => ?_⟩
        by_cases e : a = n
        · subst e
          exact fun z => w ⟨ac, ad, z⟩
        · exact ba a (by omega) ac ad
  exact k 8 (Nat.le_refl 8)
/-! the masks of dominators, as the component reckons them -/
def rd_f (T : Nat → Int32) (b : Nat) : Nat → Int32
  | 0 => 0
  | n + 1 => if bt (rc T 0 &&& (rc T (rb_p n) ^^^ (-1))) b = true then rd_f T b n ||| rb_p n else rd_f T b n
def rd (T : Nat → Int32) (b : Nat) : Int32 := rd_f T b 8
theorem rd_fb (T : Nat → Int32) (b h : Nat) : ∀ n, n ≤ 8 → bt (rd_f T b n) h = (decide (h < n) && (bt (rc T 0) b && !bt (rc T (rb_p h)) b)) := by
  intro n
  induction n with
  | zero =>
    intro _
    exact b_0 h
  | succ n ih =>
    intro hn
    have a := ih (by omega)
    simp only [rd_f]
    rw [rb_an]
    by_cases e : h = n
    · subst e
      rw [decide_eq_false (Nat.lt_irrefl h), Bool.false_and] at a
      rw [decide_eq_true (Nat.lt_succ_self h), Bool.true_and]
      by_cases c : (bt (rc T 0) b && !bt (rc T (rb_p h)) b) = true
      · rw [if_pos c, c, b_or, rb_pb (by omega), decide_eq_true rfl, Bool.or_true]
      · rw [if_neg c, a, rb_tf c]
    · have d : decide (h < n + 1) = decide (h < n) := by
        by_cases l : h < n
        · rw [decide_eq_true l, decide_eq_true (by omega)]
        · rw [decide_eq_false l, decide_eq_false (by omega)]
      rw [d, ← a]
      split
      · rw [b_or, rb_pb (by omega), decide_eq_false e, Bool.or_false]
      · rfl
theorem rd_iff {T : Nat → Int32} (hT : rt_lo T) (b h : Nat) : bt (rd T b) h = true ↔ h < 8 ∧ rv T b ∧ ¬ rq T h b := by
  unfold rd
  rw [rd_fb T b h 8 (Nat.le_refl 8)]
  constructor
  · intro z
    have z1 : h < 8 := by
      by_cases l : h < 8
      · exact l
      · rw [decide_eq_false l] at z
        cases z
    rw [decide_eq_true z1, Bool.true_and] at z
    have z2 : bt (rc T 0) b = true := by
      cases y : bt (rc T 0) b with
      | true => rfl
      | false => rw [y] at z; cases z
    refine ⟨z1, (rv_iff hT b).mp z2, fun y => ?_⟩
    rw [(rq_iff hT z1 b).mpr y, z2] at z
    cases z
  · rintro ⟨z1, z2, z3⟩
    rw [decide_eq_true z1, (rv_iff hT b).mpr z2, rb_tf (fun y => z3 ((rq_iff hT z1 b).mp y))]
    rfl
theorem rd_lo {T : Nat → Int32} (hT : rt_lo T) (b : Nat) : rs_lo (rd T b) := fun i hi => rb_tf (fun z => by have a := ((rd_iff hT b i).mp z).1; omega)
theorem rd_self {T : Nat → Int32} (hT : rt_lo T) {b : Nat} (h : rv T b) : bt (rd T b) b = true := (rd_iff hT b b).mpr ⟨rr_lt hT h, h, rq_self b⟩
/-! forward edges, loops, merges -/
def rg (T : Nat → Int32) (b : Nat) : Int32 := if bt (rc T 0) b = true then T b else 0
def rf (T : Nat → Int32) (b : Nat) : Int32 := rg T b &&& (rd T b ^^^ (-1))
theorem rg_iff {T : Nat → Int32} (hT : rt_lo T) (b c : Nat) : bt (rg T b) c = true ↔ rv T b ∧ bt (T b) c = true := by
  unfold rg
  rw [← rv_iff hT b]
  split
  · rename_i h
    exact ⟨fun z => ⟨h, z⟩, fun z => z.2⟩
  · rename_i h
    rw [b_0]
    exact ⟨fun z => (by cases z), fun z => absurd z.1 h⟩
theorem rf_iff {T : Nat → Int32} (hT : rt_lo T) {b : Nat} (hb : b < 8) (c : Nat) : bt (rf T b) c = true ↔ rv T b ∧ bt (T b) c = true ∧ rq T c b := by
  unfold rf
  rw [rb_an]
  constructor
  · intro z
    have z1 : bt (rg T b) c = true := by
      cases y : bt (rg T b) c with
      | true => rfl
      | false => rw [y] at z; cases z
    obtain ⟨a1, a2⟩ := (rg_iff hT b c).mp z1
    refine ⟨a1, a2, Classical.byContradiction (fun n => ?_)⟩
    rw [(rd_iff hT b c).mpr ⟨rs_lt8 (hT b hb) a2, a1, n⟩, z1] at z
    cases z
  · rintro ⟨a1, a2, a3⟩
    rw [(rg_iff hT b c).mpr ⟨a1, a2⟩, rb_tf (fun y => ((rd_iff hT b c).mp y).2.2 a3)]
    rfl
def rl_f (T : Nat → Int32) : Nat → Int32
  | 0 => 0
  | n + 1 => rl_f T n ||| (rg T n &&& rd T n)
def rl (T : Nat → Int32) : Int32 := rl_f T 8
theorem rl_to {T : Nat → Int32} {b c : Nat} (h1 : bt (rg T b) c = true) (h2 : bt (rd T b) c = true) : ∀ n, b < n → bt (rl_f T n) c = true := by
  intro n
  induction n with
  | zero => exact fun z => absurd z (Nat.not_lt_zero b)
  | succ n ih =>
    intro z
    simp only [rl_f]
    by_cases e : b = n
    · subst e
      rw [b_or, b_and, h1, h2]
      exact Bool.or_true _
    · rw [b_or, ih (by omega), Bool.true_or]
def rm_o (T : Nat → Int32) : Nat → Int32
  | 0 => 0
  | n + 1 => rm_o T n ||| rf T n
def rm_f (T : Nat → Int32) : Nat → Int32
  | 0 => 0
  | n + 1 => rm_f T n ||| (rm_o T n &&& rf T n)
def rm (T : Nat → Int32) : Int32 := rm_f T 8
theorem rm_oi (T : Nat → Int32) (c n : Nat) : bt (rm_o T n) c = true ↔ ∃ p, p < n ∧ bt (rf T p) c = true := by
  induction n with
  | zero =>
    simp only [rm_o]
    rw [b_0]
    exact ⟨fun z => (by cases z), fun ⟨p, z, _⟩ => absurd z (Nat.not_lt_zero p)⟩
  | succ n ih =>
    simp only [rm_o]
    rw [b_or, Bool.or_eq_true, ih]
    constructor
    · rintro (⟨p, h, e⟩ | h)
      · exact ⟨p, by omega, e⟩
      · exact ⟨n, by omega, h⟩
    · rintro ⟨p, h, e⟩
      by_cases z : p = n
      · subst z
        exact Or.inr e
      · exact Or.inl ⟨p, by omega, e⟩
theorem rm_fi (T : Nat → Int32) (c n : Nat) : bt (rm_f T n) c = true ↔ ∃ p q, p < q ∧ q < n ∧ bt (rf T p) c = true ∧ bt (rf T q) c = true := by
  induction n with
  | zero =>
    simp only [rm_f]
    rw [b_0]
    exact ⟨fun z => (by cases z), fun ⟨p, q, _, z, _⟩ => absurd z (Nat.not_lt_zero q)⟩
  | succ n ih =>
    simp only [rm_f]
    rw [b_or, Bool.or_eq_true, ih, b_and, Bool.and_eq_true, rm_oi]
    constructor
    · rintro (⟨p, q, h1, h2, h3⟩ | ⟨⟨p, h, e⟩, h2⟩)
      · exact ⟨p, q, h1, by omega, h3⟩
      · exact ⟨p, n, h, by omega, e, h2⟩
    · rintro ⟨p, q, h1, h2, h3, h4⟩
      by_cases z : q = n
      · subst z
        exact Or.inr ⟨⟨p, h1, h3⟩, h4⟩
      · exact Or.inl ⟨p, q, h1, by omega, h3, h4⟩
theorem rm_un {T : Nat → Int32} {c p q : Nat} (hm : bt (rm T) c = false) (hp : p < 8) (hq : q < 8) (h1 : bt (rf T p) c = true) (h2 : bt (rf T q) c = true) : p = q := by
  apply Classical.byContradiction
  intro n
  have z : bt (rm T) c = true := by
    rcases Nat.lt_or_gt_of_ne n with l | l
    · exact (rm_fi T c 8).mpr ⟨p, q, l, hq, h1, h2⟩
    · exact (rm_fi T c 8).mpr ⟨q, p, l, hp, h2, h1⟩
  rw [hm] at z
  cases z
/-! the parent of a block in the nested code -/
def rk (T : Nat → Int32) (b c : Nat) : Prop :=
  b < 8 ∧ c < 8 ∧ rv T b ∧ rv T c ∧ ((bt (rm T) c = true ∧ rd T b = rd T c &&& (rb_p c ^^^ (-1))) ∨ (bt (rm T) c = false ∧ bt (rf T b) c = true))
theorem rd_inj {T : Nat → Int32} (hT : rt_lo T) {b c : Nat} (hb : rv T b) (hc : rv T c) (e : rd T b = rd T c) : b = c := by
  apply Classical.byContradiction
  intro n
  have h1 : bt (rd T c) b = true := e ▸ rd_self hT hb
  have h2 : bt (rd T b) c = true := e.symm ▸ rd_self hT hc
  exact rq_an n hc ((rd_iff hT c b).mp h1).2.2 ((rd_iff hT b c).mp h2).2.2
theorem rk_u {T : Nat → Int32} (hT : rt_lo T) {b b' c : Nat} (h : rk T b c) (h' : rk T b' c) : b = b' := by
  obtain ⟨a1, a2, a3, a4, a5⟩ := h
  obtain ⟨c1, c2, c3, c4, c5⟩ := h'
  rcases a5 with ⟨m, e⟩ | ⟨m, e⟩
  · rcases c5 with ⟨m', e'⟩ | ⟨m', e'⟩
    · exact rd_inj hT a3 c3 (e.trans e'.symm)
    · rw [m] at m'
      cases m'
  · rcases c5 with ⟨m', e'⟩ | ⟨m', e'⟩
    · rw [m] at m'
      cases m'
    · exact rm_un m a1 c1 e e'
theorem rf_n0 {T : Nat → Int32} (hT : rt_lo T) {b : Nat} (hb : b < 8) : ¬ bt (rf T b) 0 = true := fun z => rq_0 b ((rf_iff hT hb 0).mp z).2.2
theorem rm_n0 {T : Nat → Int32} (hT : rt_lo T) : bt (rm T) 0 = false := by
  apply rb_tf
  intro z
  obtain ⟨p, q, h1, h2, h3, _⟩ := (rm_fi T 0 8).mp z
  exact rf_n0 hT (by omega) h3
theorem rk_0 {T : Nat → Int32} (hT : rt_lo T) {b c : Nat} (h : rk T b c) : c ≠ 0 := by
  intro e
  subst e
  obtain ⟨a1, a2, a3, a4, a5⟩ := h
  rcases a5 with ⟨m, e⟩ | ⟨m, e⟩
  · rw [rm_n0 hT] at m
    cases m
  · exact rf_n0 hT a1 e
theorem rk_ne {T : Nat → Int32} (hT : rt_lo T) {b c : Nat} (h : rk T b c) : b ≠ c := by
  intro e
  subst e
  obtain ⟨a1, a2, a3, a4, a5⟩ := h
  rcases a5 with ⟨m, e⟩ | ⟨m, e⟩
  · have z := rd_self hT a3
    rw [e, rb_an, rb_pb (by omega), decide_eq_true rfl, Bool.not_true, Bool.and_false] at z
    cases z
  · exact rq_self b ((rf_iff hT a1 b).mp e).2.2
theorem rk_cn {T : Nat → Int32} (hT : rt_lo T) {b c : Nat} (h1 : ∀ a, ¬ rq T a b → ¬ rq T a c) (hc : rv T c) (h2 : rq T c b) : rs_cn (bt (rd T b)) 8 < rs_cn (bt (rd T c)) 8 := by
  refine rs_cn_lt (fun i _ z => ?_) c (rr_lt hT hc) (rb_tf (fun z => ((rd_iff hT b c).mp z).2.2 h2)) (rd_self hT hc)
  obtain ⟨z1, z2, z3⟩ := (rd_iff hT b i).mp z
  exact (rd_iff hT c i).mpr ⟨z1, hc, h1 i z3⟩
theorem rk_ex {T : Nat → Int32} (hT : rt_lo T) {c : Nat} (hc : rv T c) (h0 : c ≠ 0) : ∃ b, rk T b c ∧ rs_cn (bt (rd T b)) 8 < rs_cn (bt (rd T c)) 8 := by
  cases m : bt (rm T) c with
  | true =>
    obtain ⟨b, b8, bc, bd, ba⟩ := rq_id hc h0
    have hb : rv T b := rq_lv hc bd
    have hcb : rq T c b := Classical.byContradiction (fun n => rq_an bc hc bd n)
    refine ⟨b, ⟨b8, rr_lt hT hc, hb, hc, Or.inl ⟨m, ?_⟩⟩, rk_cn hT (fun a z => rq_tr z bd) hc hcb⟩
    apply rs_eq
    · intro i z
      obtain ⟨z1, z2, z3⟩ := (rd_iff hT b i).mp z
      have ni : i ≠ c := fun e => z3 (e ▸ hcb)
      rw [rb_an, rb_pb (by have := rr_lt hT hc; omega), decide_eq_false ni, (rd_iff hT c i).mpr ⟨z1, hc, rq_tr z3 bd⟩]
      rfl
    · intro i z
      rw [rb_an, rb_pb (by have := rr_lt hT hc; omega)] at z
      by_cases ni : i = c
      · rw [decide_eq_true ni, Bool.not_true, Bool.and_false] at z
        cases z
      · rw [decide_eq_false ni, Bool.not_false, Bool.and_true] at z
        obtain ⟨z1, z2, z3⟩ := (rd_iff hT c i).mp z
        exact (rd_iff hT b i).mpr ⟨z1, hb, ba i z1 ni z3⟩
  | false =>
    have ex : ∃ p, p < 8 ∧ bt (rf T p) c = true := by
      apply Classical.byContradiction
      intro n
      have k : rq T c c := by
        refine hc (fun x => rq T c x) (fun _ => rr_0 (fun z => h0 z.symm)) (fun u v hu s e _ => ?_)
        by_cases w : v = c
        · subst w
          exact absurd ⟨u, hu, (rf_iff hT hu v).mpr ⟨rq_v s, e, s⟩⟩ n
        · exact rr_s hu s e w
      exact rq_self c k
    obtain ⟨p, p8, pf⟩ := ex
    obtain ⟨a1, a2, a3⟩ := (rf_iff hT p8 c).mp pf
    have pd : ¬ rq T p c := by
      intro z
      have k : rr T (fun i => i = p ∨ i = c) c := by
        refine z (fun x => rr T (fun i => i = p ∨ i = c) x) (fun y => rr_0 (fun w => ?_)) (fun u v hu s e y => ?_)
        · rcases w with w | w
          · exact y w
          · exact h0 w.symm
        · by_cases w : v = c
          · subst w
            have s1 : rq T v u := rr_mono (fun i q => Or.inr q) s
            have up : u = p := rm_un m hu p8 ((rf_iff hT hu v).mpr ⟨rq_v s1, e, s1⟩) pf
            exact absurd (Or.inl up) (rr_na s)
          · exact rr_s hu s e (fun q => by
              rcases q with q | q
              · exact y q
              · exact w q)
      exact rr_na k (Or.inr rfl)
    exact ⟨p, ⟨p8, rr_lt hT hc, a1, hc, Or.inr ⟨m, pf⟩⟩, rk_cn hT (fun a z => rq_tr z pd) hc a3⟩
