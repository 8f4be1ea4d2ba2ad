/-! the run as a pure walk of the blocks: registers, numbers put out (the last first), visits, blocks carried out, outcome -/
def pu_rg (ac : Nat → Nat) (an : Nat → Int32) (b : Nat) (rg : Nat → Int32) : Nat → Int32 :=
  if 7 ≤ ac b then upd rg (ac b - 7) (rg (an b).toNatClampNeg) else if 4 ≤ ac b then rg else if 1 ≤ ac b then upd rg (ac b - 1) (rg (ac b - 1) + an b) else rg
def pu_os (ac : Nat → Nat) (b : Nat) (rg : Nat → Int32) (os : List Int32) : List Int32 := if 4 ≤ ac b ∧ ac b < 7 then rg (ac b - 4) :: os else os
def pu_vs (b : Nat) (vs : Nat → Int32) : Nat → Int32 := upd vs b (vs b + 1)
def pu_nx (kd fi se : Nat → Nat) (b : Nat) (rg : Nat → Int32) : Nat := if kd b = 1 ∨ 0 < rg (kd b - 2) then fi b else se b
def pu (ac : Nat → Nat) (an : Nat → Int32) (kd fi se : Nat → Nat) : Nat → Nat → (Nat → Int32) → List Int32 → (Nat → Int32) → Nat → (Nat → Int32) × List Int32 × (Nat → Int32) × Nat × Nat
  | 0, _, rg, os, vs, n => (rg, os, vs, n, 2)
  | f + 1, b, rg, os, vs, n =>
    if kd b = 0 then (pu_rg ac an b rg, pu_os ac b rg os, pu_vs b vs, n + 1, 1)
    else pu ac an kd fi se f (pu_nx kd fi se b (pu_rg ac an b rg)) (pu_rg ac an b rg) (pu_os ac b rg os) (pu_vs b vs) (n + 1)
theorem pu_z (ac : Nat → Nat) (an : Nat → Int32) (kd fi se : Nat → Nat) (f b : Nat) (rg : Nat → Int32) (os : List Int32) (vs : Nat → Int32) (n : Nat) (h : kd b = 0) :
    pu ac an kd fi se (f + 1) b rg os vs n = (pu_rg ac an b rg, pu_os ac b rg os, pu_vs b vs, n + 1, 1) := if_pos h
theorem pu_s (ac : Nat → Nat) (an : Nat → Int32) (kd fi se : Nat → Nat) (f b : Nat) (rg : Nat → Int32) (os : List Int32) (vs : Nat → Int32) (n : Nat) (h : kd b ≠ 0) :
    pu ac an kd fi se (f + 1) b rg os vs n = pu ac an kd fi se f (pu_nx kd fi se b (pu_rg ac an b rg)) (pu_rg ac an b rg) (pu_os ac b rg os) (pu_vs b vs) (n + 1) := if_neg h
/-- the component's list of numbers -/
def ouX (on : Nat → Int32) : List Int32 → Prop
  | [] => True
  | v :: r => on r.length = v ∧ ouX on r
theorem ouX_u {on : Nat → Int32} {v : Int32} : ∀ {os : List Int32} {n : Nat}, os.length ≤ n → ouX on os → ouX (upd on n v) os := by
  intro os
  induction os with
  | nil => exact fun _ _ => trivial
  | cons x r ih =>
    intro n hn h
    have hn' : r.length + 1 ≤ n := hn
    exact ⟨(pk_un (by omega)).trans h.1, ih (by omega) h.2⟩
theorem ouX_c {on : Nat → Int32} {v : Int32} {os : List Int32} (h : ouX on os) : ouX (upd on os.length v) (v :: os) := ⟨pk_us, ouX_u (Nat.le_refl _) h⟩
theorem ouX_g {on : Nat → Int32} : ∀ {os : List Int32} {k : Nat}, ouX on os → k < os.length → on (os.length - 1 - k) = os.getD k 0 := by
  intro os
  induction os with
  | nil => exact fun _ h => absurd h (Nat.not_lt_zero _)
  | cons x r ih =>
    intro k h hk
    have hk' : k < r.length + 1 := hk
    cases k with
    | zero =>
      show on (r.length + 1 - 1 - 0) = x
      rw [show r.length + 1 - 1 - 0 = r.length by omega]
      exact h.1
    | succ k =>
      show on (r.length + 1 - 1 - (k + 1)) = r.getD k 0
      rw [show r.length + 1 - 1 - (k + 1) = r.length - 1 - k by omega]
      exact ih h.2 (by omega)
/-- the reference's last eight -/
def ouY (la : Nat → Int32) (os : List Int32) : Prop := ∀ k, k < 8 → k < os.length → la k = os.getD k 0
theorem ouY_c {la la' : Nat → Int32} {os : List Int32} (h : ouY la os) (v : Int32) (h0 : la' 0 = v) (hs : ∀ k, k < 7 → la' (k + 1) = la k) : ouY la' (v :: os) := by
  intro k h8 hk
  have hk' : k < os.length + 1 := hk
  cases k with
  | zero => exact h0
  | succ k =>
    rw [hs k (by omega)]
    exact h k (by omega) (by omega)
theorem pu_ol (ac : Nat → Nat) (b : Nat) (rg : Nat → Int32) (os : List Int32) : (pu_os ac b rg os).length ≤ os.length + 1 := by
  unfold pu_os
  split
  · exact Nat.le_refl _
  · omega
