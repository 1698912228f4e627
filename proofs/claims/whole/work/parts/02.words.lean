section FRW
/-! words: next and output are one more than the document's, 0 for NONE -/
def fr_nx (e : Nat → Nat) (s a : Nat) : Nat := e (2 * s + a) / 3
def fr_ou (e : Nat → Nat) (s a : Nat) : Nat := e (2 * s + a) % 3
def fr_od (e : Nat → Nat) (s t a : Nat) : Bool := decide (fr_ou e s a ≠ 0 ∧ fr_ou e t a ≠ 0 ∧ fr_ou e s a ≠ fr_ou e t a)
def fr_go (e : Nat → Nat) (s t a : Nat) : Bool := decide (fr_nx e s a ≠ 0 ∧ fr_nx e t a ≠ 0)
/-- the word w of k + 1 letters splits s and t -/
def fr_sp (e : Nat → Nat) : Nat → Nat → Nat → Nat → Bool
  | 0 => fun s t w => fr_od e s t (w % 2)
  | k + 1 => fun s t w => fr_go e s t (w / 2 ^ (k + 1) % 2) && fr_sp e k (fr_nx e s (w / 2 ^ (k + 1) % 2) - 1) (fr_nx e t (w / 2 ^ (k + 1) % 2) - 1) w
def fr_aw (e : Nat → Nat) (f : Nat → Nat → Option Nat) (s t a : Nat) : Option Nat := if fr_go e s t a = true then f (fr_nx e s a - 1) (fr_nx e t a - 1) else none
def fr_or (q : Nat) (x y : Option Nat) : Option Nat := match x with
  | some w => some w
  | none => match y with
    | some w => some (q + w)
    | none => none
/-- the least splitting word of k + 1 letters -/
def fr_lw (e : Nat → Nat) : Nat → Nat → Nat → Option Nat
  | 0 => fun s t => if fr_od e s t 0 = true then some 0 else if fr_od e s t 1 = true then some 1 else none
  | k + 1 => fun s t => fr_or (2 ^ (k + 1)) (fr_aw e (fr_lw e k) s t 0) (fr_aw e (fr_lw e k) s t 1)
theorem fr_sp_0 (e : Nat → Nat) (s t w : Nat) : fr_sp e 0 s t w = fr_od e s t (w % 2) := rfl
theorem fr_sp_s (e : Nat → Nat) (k s t w : Nat) : fr_sp e (k + 1) s t w = (fr_go e s t (w / 2 ^ (k + 1) % 2) && fr_sp e k (fr_nx e s (w / 2 ^ (k + 1) % 2) - 1) (fr_nx e t (w / 2 ^ (k + 1) % 2) - 1) w) := rfl
theorem fr_lw_0 (e : Nat → Nat) (s t : Nat) : fr_lw e 0 s t = if fr_od e s t 0 = true then some 0 else if fr_od e s t 1 = true then some 1 else none := rfl
theorem fr_lw_s (e : Nat → Nat) (k s t : Nat) : fr_lw e (k + 1) s t = fr_or (2 ^ (k + 1)) (fr_aw e (fr_lw e k) s t 0) (fr_aw e (fr_lw e k) s t 1) := rfl
theorem fr_bit_hi (k d v : Nat) : (2 ^ (k + 2 + d) + v) / 2 ^ (k + 1) % 2 = v / 2 ^ (k + 1) % 2 := by
  have e1 : 2 ^ (k + 2 + d) = 2 ^ (k + 1) * (2 * 2 ^ d) := by
    rw [show k + 2 + d = (k + 1) + (1 + d) by omega, Nat.pow_add 2 (k + 1), Nat.pow_add 2 1 d]
  rw [e1, Nat.mul_add_div (Nat.two_pow_pos (k + 1))]
  generalize v / 2 ^ (k + 1) = y
  generalize 2 ^ d = z
  omega
theorem fr_sp_hi (e : Nat → Nat) : ∀ k d s t v, fr_sp e k s t (2 ^ (k + 1 + d) + v) = fr_sp e k s t v := by
  intro k
  induction k with
  | zero =>
    intro d s t v
    rw [fr_sp_0, fr_sp_0]
    have : (2 ^ (0 + 1 + d) + v) % 2 = v % 2 := by
      rw [show 0 + 1 + d = 1 + d by omega, Nat.pow_add 2 1 d]
      generalize 2 ^ d = z
      omega
    rw [this]
  | succ k ih =>
    intro d s t v
    rw [fr_sp_s, fr_sp_s, show k + 1 + 1 + d = k + 2 + d by omega, fr_bit_hi k d v]
    have := ih (d + 1)
    rw [show k + 2 + d = k + 1 + (d + 1) by omega, this]
theorem fr_lw_spec (e : Nat → Nat) : ∀ k s t, (∀ w, fr_lw e k s t = some w → w < 2 ^ (k + 1) ∧ fr_sp e k s t w = true ∧ ∀ v, v < w → fr_sp e k s t v = false) ∧ (fr_lw e k s t = none → ∀ v, v < 2 ^ (k + 1) → fr_sp e k s t v = false) := by
  intro k
  induction k with
  | zero =>
    intro s t
    rw [fr_lw_0]
    by_cases h0 : fr_od e s t 0 = true
    · rw [if_pos h0]
      refine ⟨fun w hw => ?_, fun h => nomatch h⟩
      cases hw
      exact ⟨by decide, h0, fun v hv => absurd hv (Nat.not_lt_zero v)⟩
    · rw [if_neg h0]
      have h0' : fr_od e s t 0 = false := by simpa using h0
      by_cases h1 : fr_od e s t 1 = true
      · rw [if_pos h1]
        refine ⟨fun w hw => ?_, fun h => nomatch h⟩
        cases hw
        refine ⟨by decide, h1, fun v hv => ?_⟩
        obtain rfl : v = 0 := by omega
        exact h0'
      · rw [if_neg h1]
        have h1' : fr_od e s t 1 = false := by simpa using h1
        refine ⟨(fun w hw => nomatch hw), fun _ v hv => ?_⟩
        have hv2 : v < 2 := hv
        rcases (show v = 0 ∨ v = 1 by omega) with rfl | rfl
        · exact h0'
        · exact h1'
  | succ k ih =>
    intro s t
    rw [fr_lw_s]
    have L : ∀ v, v < 2 ^ (k + 1) → fr_sp e (k + 1) s t v = (fr_go e s t 0 && fr_sp e k (fr_nx e s 0 - 1) (fr_nx e t 0 - 1) v) := by
      intro v hv
      rw [fr_sp_s, Nat.div_eq_of_lt hv]
    have H : ∀ v, v < 2 ^ (k + 1) → fr_sp e (k + 1) s t (2 ^ (k + 1) + v) = (fr_go e s t 1 && fr_sp e k (fr_nx e s 1 - 1) (fr_nx e t 1 - 1) v) := by
      intro v hv
      have hd : (2 ^ (k + 1) + v) / 2 ^ (k + 1) % 2 = 1 := by
        have := Nat.mul_add_div (Nat.two_pow_pos (k + 1)) 1 v
        rw [Nat.mul_one] at this
        rw [this, Nat.div_eq_of_lt hv]
      rw [fr_sp_s, hd]
      have := fr_sp_hi e k 0 (fr_nx e s 1 - 1) (fr_nx e t 1 - 1) v
      rw [Nat.add_zero] at this
      rw [this]
    have P : 2 ^ (k + 1 + 1) = 2 ^ (k + 1) + 2 ^ (k + 1) := by rw [Nat.pow_succ]; omega
    have A : ∀ a, (∀ w, fr_aw e (fr_lw e k) s t a = some w → w < 2 ^ (k + 1) ∧ (fr_go e s t a && fr_sp e k (fr_nx e s a - 1) (fr_nx e t a - 1) w) = true ∧ ∀ v, v < w → (fr_go e s t a && fr_sp e k (fr_nx e s a - 1) (fr_nx e t a - 1) v) = false) ∧ (fr_aw e (fr_lw e k) s t a = none → ∀ v, v < 2 ^ (k + 1) → (fr_go e s t a && fr_sp e k (fr_nx e s a - 1) (fr_nx e t a - 1) v) = false) := by
      intro a
      unfold fr_aw
      by_cases hg : fr_go e s t a = true
      · rw [if_pos hg, hg]
        simp only [Bool.true_and]
        exact ih _ _
      · have hg' : fr_go e s t a = false := by simpa using hg
        rw [if_neg hg, hg']
        exact ⟨(fun w hw => nomatch hw), fun _ v _ => rfl⟩
    obtain ⟨A0, B0⟩ := A 0
    obtain ⟨A1, B1⟩ := A 1
    unfold fr_or
    cases h0 : fr_aw e (fr_lw e k) s t 0 with
    | some w0 =>
      refine ⟨fun w hw => ?_, fun h => nomatch h⟩
      cases hw
      obtain ⟨p1, p2, p3⟩ := A0 _ h0
      refine ⟨by omega, ?_, fun v hv => ?_⟩
      · rw [L _ p1]; exact p2
      · rw [L _ (by omega)]; exact p3 v hv
    | none =>
      have Z := B0 h0
      cases h1 : fr_aw e (fr_lw e k) s t 1 with
      | some w1 =>
        refine ⟨fun w hw => ?_, fun h => nomatch h⟩
        cases hw
        obtain ⟨p1, p2, p3⟩ := A1 _ h1
        refine ⟨by omega, ?_, fun v hv => ?_⟩
        · rw [H _ p1]; exact p2
        · by_cases hv2 : v < 2 ^ (k + 1)
          · rw [L _ hv2]; exact Z v hv2
          · obtain ⟨u, rfl⟩ : ∃ u, v = 2 ^ (k + 1) + u := ⟨v - 2 ^ (k + 1), by omega⟩
            rw [H u (by omega)]; exact p3 u (by omega)
      | none =>
        refine ⟨(fun w hw => nomatch hw), fun _ v hv => ?_⟩
        by_cases hv2 : v < 2 ^ (k + 1)
        · rw [L _ hv2]; exact Z v hv2
        · obtain ⟨u, rfl⟩ : ∃ u, v = 2 ^ (k + 1) + u := ⟨v - 2 ^ (k + 1), by omega⟩
          rw [H u (by omega)]; exact B1 h1 u (by omega)
/-! shortest lengths, by stages -/
def fr_sl (e : Nat → Nat) : Nat → Nat → Nat → Nat
  | 0 => fun _ _ => 0
  | m + 1 => fun s t => if fr_sl e m s t = 0 then (if (fr_lw e m s t).isSome = true then m + 1 else 0) else fr_sl e m s t
def fr_sw (e : Nat → Nat) (m s t : Nat) : Nat := if fr_sl e m s t = 0 then 0 else (fr_lw e (fr_sl e m s t - 1) s t).getD 0
theorem fr_sl_s (e : Nat → Nat) (m s t : Nat) : fr_sl e (m + 1) s t = if fr_sl e m s t = 0 then (if (fr_lw e m s t).isSome = true then m + 1 else 0) else fr_sl e m s t := rfl
theorem fr_sl_le (e : Nat → Nat) (m s t : Nat) : fr_sl e m s t ≤ m := by
  induction m with
  | zero => exact Nat.le_refl 0
  | succ m ih =>
    rw [fr_sl_s]
    split
    · split <;> omega
    · omega
/-- what a stage's length says -/
theorem fr_sl_spec (e : Nat → Nat) (s t : Nat) : ∀ m, (fr_sl e m s t = 0 → ∀ k, k < m → fr_lw e k s t = none) ∧ (∀ k, fr_sl e m s t = k + 1 → k < m ∧ (fr_lw e k s t).isSome = true ∧ ∀ j, j < k → fr_lw e j s t = none) := by
  intro m
  induction m with
  | zero => exact ⟨fun _ k hk => absurd hk (Nat.not_lt_zero k), fun k h => absurd h (by show ¬ (0 = k + 1); omega)⟩
  | succ m ih =>
    rw [fr_sl_s]
    by_cases h0 : fr_sl e m s t = 0
    · rw [if_pos h0]
      by_cases h1 : (fr_lw e m s t).isSome = true
      · rw [if_pos h1]
        refine ⟨fun h => by omega, fun k hk => ?_⟩
        obtain rfl : m = k := by omega
        exact ⟨by omega, h1, ih.1 h0⟩
      · rw [if_neg h1]
        refine ⟨fun _ k hk => ?_, fun k hk => by omega⟩
        by_cases hkm : k < m
        · exact ih.1 h0 k hkm
        · obtain rfl : k = m := by omega
          simpa using h1
    · rw [if_neg h0]
      refine ⟨fun h => absurd h h0, fun k hk => ?_⟩
      obtain ⟨a, b, c⟩ := ih.2 k hk
      exact ⟨by omega, b, c⟩
theorem fr_sl_of {e : Nat → Nat} {s t m k : Nat} (hk : k < m) (h : (fr_lw e k s t).isSome = true) (hj : ∀ j, j < k → fr_lw e j s t = none) : fr_sl e m s t = k + 1 := by
  obtain ⟨a, b⟩ := fr_sl_spec e s t m
  cases hl : fr_sl e m s t with
  | zero => rw [a hl k hk] at h; cases h
  | succ q =>
    obtain ⟨q1, q2, q3⟩ := b q hl
    by_cases h1 : q < k
    · rw [hj q h1] at q2; cases q2
    · by_cases h2 : k < q
      · rw [q3 k h2] at h; cases h
      · omega
theorem fr_sl_keep {e : Nat → Nat} {s t m k : Nat} (hk : k ≠ 0) (h : fr_sl e m s t = k) : fr_sl e (m + 1) s t = k := by
  rw [fr_sl_s, if_neg (by omega), h]
theorem fr_sl_back {e : Nat → Nat} {s t m k : Nat} (hk : k ≤ m) (h0 : k ≠ 0) (h : fr_sl e (m + 1) s t = k) : fr_sl e m s t = k := by
  rw [fr_sl_s] at h
  split at h
  · split at h <;> omega
  · exact h
theorem fr_sw_keep {e : Nat → Nat} {s t m : Nat} (h : fr_sl e m s t ≠ 0) : fr_sw e (m + 1) s t = fr_sw e m s t := by
  unfold fr_sw
  rw [fr_sl_keep h rfl]
/-- after a letter: only the pairs whose shortest length is the stage's serve -/
theorem fr_aw_eq {e : Nat → Nat} {m s t a : Nat} (ha : a < 2) (h0 : fr_sl e (m + 1) s t = 0) : fr_aw e (fr_lw e m) s t a = if fr_go e s t a = true ∧ fr_sl e (m + 1) (fr_nx e s a - 1) (fr_nx e t a - 1) = m + 1 then some (fr_sw e (m + 1) (fr_nx e s a - 1) (fr_nx e t a - 1)) else none := by
  unfold fr_aw
  by_cases hg : fr_go e s t a = true
  · rw [if_pos hg]
    have N : ∀ j, j < m → fr_lw e j (fr_nx e s a - 1) (fr_nx e t a - 1) = none := by
      intro j hj
      have h1 := (fr_sl_spec e s t (m + 1)).1 h0 (j + 1) (by omega)
      rw [fr_lw_s] at h1
      cases hx : fr_lw e j (fr_nx e s a - 1) (fr_nx e t a - 1) with
      | none => rfl
      | some w =>
        exfalso
        have hy : fr_aw e (fr_lw e j) s t a = some w := by
          unfold fr_aw; rw [if_pos hg, hx]
        rcases (show a = 0 ∨ a = 1 by omega) with rfl | rfl
        · rw [hy] at h1; exact nomatch h1
        · rw [hy] at h1
          cases hz : fr_aw e (fr_lw e j) s t 0 with
          | none => rw [hz] at h1; exact nomatch h1
          | some w' => rw [hz] at h1; exact nomatch h1
    cases hx : fr_lw e m (fr_nx e s a - 1) (fr_nx e t a - 1) with
    | none =>
      rw [if_neg]
      intro h
      obtain ⟨_, b, _⟩ := (fr_sl_spec e _ _ (m + 1)).2 m h.2
      rw [hx] at b
      cases b
    | some w =>
      have hl : fr_sl e (m + 1) (fr_nx e s a - 1) (fr_nx e t a - 1) = m + 1 := fr_sl_of (by omega) (by rw [hx]; rfl) N
      rw [if_pos ⟨hg, hl⟩]
      unfold fr_sw
      rw [hl, if_neg (by omega), Nat.add_sub_cancel, hx]
      rfl
  · rw [if_neg hg, if_neg (fun h => hg h.1)]
/-! symmetric, and nothing splits a state from itself -/
theorem fr_od_sy (e : Nat → Nat) (s t a : Nat) : fr_od e s t a = fr_od e t s a := by
  unfold fr_od
  exact decide_eq_decide.mpr ⟨fun h => ⟨h.2.1, h.1, Ne.symm h.2.2⟩, fun h => ⟨h.2.1, h.1, Ne.symm h.2.2⟩⟩
theorem fr_go_sy (e : Nat → Nat) (s t a : Nat) : fr_go e s t a = fr_go e t s a := by
  unfold fr_go
  exact decide_eq_decide.mpr ⟨fun h => ⟨h.2, h.1⟩, fun h => ⟨h.2, h.1⟩⟩
theorem fr_lw_sy (e : Nat → Nat) : ∀ k s t, fr_lw e k s t = fr_lw e k t s := by
  intro k
  induction k with
  | zero => intro s t; rw [fr_lw_0, fr_lw_0, fr_od_sy e s t, fr_od_sy e s t]
  | succ k ih =>
    intro s t
    have A : ∀ a, fr_aw e (fr_lw e k) s t a = fr_aw e (fr_lw e k) t s a := by
      intro a
      unfold fr_aw
      rw [fr_go_sy e s t, ih]
    rw [fr_lw_s, fr_lw_s, A, A]
theorem fr_lw_re (e : Nat → Nat) : ∀ k s, fr_lw e k s s = none := by
  intro k
  induction k with
  | zero =>
    intro s
    have : ∀ a, ¬ fr_od e s s a = true := by
      intro a h
      exact (of_decide_eq_true h).2.2 rfl
    rw [fr_lw_0, if_neg (this 0), if_neg (this 1)]
  | succ k ih =>
    intro s
    have A : ∀ a, fr_aw e (fr_lw e k) s s a = none := by
      intro a
      unfold fr_aw
      rw [ih]
      split <;> rfl
    rw [fr_lw_s, A, A]
    rfl
theorem fr_sl_sy (e : Nat → Nat) (m s t : Nat) : fr_sl e m s t = fr_sl e m t s := by
  induction m with
  | zero => rfl
  | succ m ih => rw [fr_sl_s, fr_sl_s, ih, fr_lw_sy]
theorem fr_sl_re (e : Nat → Nat) (m s : Nat) : fr_sl e m s s = 0 := by
  induction m with
  | zero => rfl
  | succ m ih => rw [fr_sl_s, if_pos ih, fr_lw_re]; rfl
end FRW
