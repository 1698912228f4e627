section FRC
/-! how many lists are left -/
def fr_ch : Nat → Nat → Nat
  | 0 => fun k => if k = 0 then 1 else 0
  | m + 1 => fun k => match k with
    | 0 => 1
    | k + 1 => fr_ch m k + fr_ch m (k + 1)
theorem fr_ch_s (m k : Nat) : fr_ch (m + 1) (k + 1) = fr_ch m k + fr_ch m (k + 1) := rfl
theorem fr_ch_0 (m : Nat) : fr_ch m 0 = 1 := by
  cases m <;> rfl
theorem fr_ch_mono (m k : Nat) : fr_ch m k ≤ fr_ch (m + 1) k := by
  cases k with
  | zero => rw [fr_ch_0, fr_ch_0]; exact Nat.le_refl 1
  | succ k => rw [fr_ch_s]; omega
theorem fr_ch_le (k : Nat) {m M : Nat} (h : m ≤ M) : fr_ch m k ≤ fr_ch M k := by
  obtain ⟨d, rfl⟩ : ∃ d, M = m + d := ⟨M - m, by omega⟩
  clear h
  induction d with
  | zero => exact Nat.le_refl _
  | succ d ih => exact Nat.le_trans ih (fr_ch_mono (m + d) k)
theorem fr_p1 {M : Nat} (h : 1 ≤ M) : fr_ch M 1 = fr_ch (M - 1) 1 + 1 := by
  obtain ⟨x, rfl⟩ : ∃ x, M = x + 1 := ⟨M - 1, by omega⟩
  show fr_ch x 0 + fr_ch x 1 = _
  rw [fr_ch_0, Nat.add_sub_cancel]
  omega
theorem fr_p2 {M : Nat} (h : 2 ≤ M) : fr_ch M 2 = fr_ch (M - 1) 2 + fr_ch (M - 2) 1 + 1 := by
  obtain ⟨x, rfl⟩ : ∃ x, M = x + 1 := ⟨M - 1, by omega⟩
  have := fr_p1 (M := x) (by omega)
  show fr_ch x 1 + fr_ch x 2 = _
  rw [Nat.add_sub_cancel, show x + 1 - 2 = x - 1 by omega]
  omega
theorem fr_p3 {M : Nat} (h : 3 ≤ M) : fr_ch M 3 = fr_ch (M - 1) 3 + fr_ch (M - 2) 2 + fr_ch (M - 3) 1 + 1 := by
  obtain ⟨x, rfl⟩ : ∃ x, M = x + 1 := ⟨M - 1, by omega⟩
  have := fr_p2 (M := x) (by omega)
  show fr_ch x 2 + fr_ch x 3 = _
  rw [Nat.add_sub_cancel, show x + 1 - 2 = x - 1 by omega, show x + 1 - 3 = x - 2 by omega]
  omega
theorem fr_p4 {M : Nat} (h : 4 ≤ M) : fr_ch M 4 = fr_ch (M - 1) 4 + fr_ch (M - 2) 3 + fr_ch (M - 3) 2 + fr_ch (M - 4) 1 + 1 := by
  obtain ⟨x, rfl⟩ : ∃ x, M = x + 1 := ⟨M - 1, by omega⟩
  have := fr_p3 (M := x) (by omega)
  show fr_ch x 3 + fr_ch x 4 = _
  rw [Nat.add_sub_cancel, show x + 1 - 2 = x - 1 by omega, show x + 1 - 3 = x - 2 by omega, show x + 1 - 4 = x - 3 by omega]
  omega
theorem fr_p5 {M : Nat} (h : 5 ≤ M) : fr_ch M 5 = fr_ch (M - 1) 5 + fr_ch (M - 2) 4 + fr_ch (M - 3) 3 + fr_ch (M - 4) 2 + fr_ch (M - 5) 1 + 1 := by
  obtain ⟨x, rfl⟩ : ∃ x, M = x + 1 := ⟨M - 1, by omega⟩
  have := fr_p4 (M := x) (by omega)
  show fr_ch x 4 + fr_ch x 5 = _
  rw [Nat.add_sub_cancel, show x + 1 - 2 = x - 1 by omega, show x + 1 - 3 = x - 2 by omega, show x + 1 - 4 = x - 3 by omega, show x + 1 - 5 = x - 4 by omega]
  omega
theorem fr_ch31 : fr_ch 31 1 = 31 ∧ fr_ch 31 2 = 465 ∧ fr_ch 31 3 = 4495 ∧ fr_ch 31 4 = 31465 ∧ fr_ch 31 5 = 169911 := by
  decide +kernel
/-! lists: five places, zeros first, then strictly rising places among the m candidates -/
def fr_rem (m : Nat) (c : Nat → Nat) : Nat := fr_ch (m - c 0) 5 + fr_ch (m - c 1) 4 + fr_ch (m - c 2) 3 + fr_ch (m - c 3) 2 + fr_ch (m - c 4) 1
def fr_nt (c : Nat → Nat) (p q : Nat) : Nat := if q < p then c q else c p + 1 + (q - p)
def fr_val (m : Nat) (c : Nat → Nat) : Prop := (c 0 = 0 ∨ c 0 < c 1) ∧ (c 1 = 0 ∨ c 1 < c 2) ∧ (c 2 = 0 ∨ c 2 < c 3) ∧ (c 3 = 0 ∨ c 3 < c 4) ∧ c 4 ≤ m
def fr_lt (c t : Nat → Nat) : Prop := c 0 < t 0 ∨ (c 0 = t 0 ∧ (c 1 < t 1 ∨ (c 1 = t 1 ∧ (c 2 < t 2 ∨ (c 2 = t 2 ∧ (c 3 < t 3 ∨ (c 3 = t 3 ∧ c 4 < t 4)))))))
def fr_le (c t : Nat → Nat) : Prop := c 0 < t 0 ∨ (c 0 = t 0 ∧ (c 1 < t 1 ∨ (c 1 = t 1 ∧ (c 2 < t 2 ∨ (c 2 = t 2 ∧ (c 3 < t 3 ∨ (c 3 = t 3 ∧ c 4 ≤ t 4)))))))
theorem fr_le_lt {c t : Nat → Nat} (h : fr_le c t) (hn : ¬ (c 0 = t 0 ∧ c 1 = t 1 ∧ c 2 = t 2 ∧ c 3 = t 3 ∧ c 4 = t 4)) : fr_lt c t := by
  unfold fr_le at h
  unfold fr_lt
  omega
theorem fr_le_eq {c t : Nat → Nat} (h : fr_le c t) (h' : fr_le t c) : c 0 = t 0 ∧ c 1 = t 1 ∧ c 2 = t 2 ∧ c 3 = t 3 ∧ c 4 = t 4 := by
  unfold fr_le at h h'
  omega
theorem fr_rem_lt {m p : Nat} {c : Nat → Nat} (hp : p < 5) (h : c p + (4 - p) < m) : fr_rem m (fr_nt c p) + 1 ≤ fr_rem m c := by
  unfold fr_rem
  rcases (show p = 0 ∨ p = 1 ∨ p = 2 ∨ p = 3 ∨ p = 4 by omega) with rfl | rfl | rfl | rfl | rfl
  · have := fr_p5 (M := m - c 0) (by omega)
    simp only [fr_nt, Nat.not_lt_zero, if_false, Nat.lt_irrefl]
    rw [show m - (c 0 + 1 + (0 - 0)) = m - c 0 - 1 by omega, show m - (c 0 + 1 + (1 - 0)) = m - c 0 - 2 by omega, show m - (c 0 + 1 + (2 - 0)) = m - c 0 - 3 by omega, show m - (c 0 + 1 + (3 - 0)) = m - c 0 - 4 by omega, show m - (c 0 + 1 + (4 - 0)) = m - c 0 - 5 by omega]
    omega
  · have := fr_p4 (M := m - c 1) (by omega)
    have e0 : fr_nt c 1 0 = c 0 := rfl
    have e1 : m - fr_nt c 1 1 = m - c 1 - 1 := by show m - (c 1 + 1 + 0) = _; omega
    have e2 : m - fr_nt c 1 2 = m - c 1 - 2 := by show m - (c 1 + 1 + 1) = _; omega
    have e3 : m - fr_nt c 1 3 = m - c 1 - 3 := by show m - (c 1 + 1 + 2) = _; omega
    have e4 : m - fr_nt c 1 4 = m - c 1 - 4 := by show m - (c 1 + 1 + 3) = _; omega
    rw [e0, e1, e2, e3, e4]
    omega
  · have := fr_p3 (M := m - c 2) (by omega)
    have e0 : fr_nt c 2 0 = c 0 := rfl
    have e1 : fr_nt c 2 1 = c 1 := rfl
    have e2 : m - fr_nt c 2 2 = m - c 2 - 1 := by show m - (c 2 + 1 + 0) = _; omega
    have e3 : m - fr_nt c 2 3 = m - c 2 - 2 := by show m - (c 2 + 1 + 1) = _; omega
    have e4 : m - fr_nt c 2 4 = m - c 2 - 3 := by show m - (c 2 + 1 + 2) = _; omega
    rw [e0, e1, e2, e3, e4]
    omega
  · have := fr_p2 (M := m - c 3) (by omega)
    have e0 : fr_nt c 3 0 = c 0 := rfl
    have e1 : fr_nt c 3 1 = c 1 := rfl
    have e2 : fr_nt c 3 2 = c 2 := rfl
    have e3 : m - fr_nt c 3 3 = m - c 3 - 1 := by show m - (c 3 + 1 + 0) = _; omega
    have e4 : m - fr_nt c 3 4 = m - c 3 - 2 := by show m - (c 3 + 1 + 1) = _; omega
    rw [e0, e1, e2, e3, e4]
    omega
  · have := fr_p1 (M := m - c 4) (by omega)
    have e0 : fr_nt c 4 0 = c 0 := rfl
    have e1 : fr_nt c 4 1 = c 1 := rfl
    have e2 : fr_nt c 4 2 = c 2 := rfl
    have e3 : fr_nt c 4 3 = c 3 := rfl
    have e4 : m - fr_nt c 4 4 = m - c 4 - 1 := by show m - (c 4 + 1 + 0) = _; omega
    rw [e0, e1, e2, e3, e4]
    omega
theorem fr_nt_e (c : Nat → Nat) :
    (fr_nt c 0 0 = c 0 + 1 ∧ fr_nt c 0 1 = c 0 + 2 ∧ fr_nt c 0 2 = c 0 + 3 ∧ fr_nt c 0 3 = c 0 + 4 ∧ fr_nt c 0 4 = c 0 + 5) ∧
    (fr_nt c 1 0 = c 0 ∧ fr_nt c 1 1 = c 1 + 1 ∧ fr_nt c 1 2 = c 1 + 2 ∧ fr_nt c 1 3 = c 1 + 3 ∧ fr_nt c 1 4 = c 1 + 4) ∧
    (fr_nt c 2 0 = c 0 ∧ fr_nt c 2 1 = c 1 ∧ fr_nt c 2 2 = c 2 + 1 ∧ fr_nt c 2 3 = c 2 + 2 ∧ fr_nt c 2 4 = c 2 + 3) ∧
    (fr_nt c 3 0 = c 0 ∧ fr_nt c 3 1 = c 1 ∧ fr_nt c 3 2 = c 2 ∧ fr_nt c 3 3 = c 3 + 1 ∧ fr_nt c 3 4 = c 3 + 2) ∧
    (fr_nt c 4 0 = c 0 ∧ fr_nt c 4 1 = c 1 ∧ fr_nt c 4 2 = c 2 ∧ fr_nt c 4 3 = c 3 ∧ fr_nt c 4 4 = c 4 + 1) := by
  refine ⟨⟨rfl, rfl, rfl, rfl, rfl⟩, ⟨rfl, rfl, rfl, rfl, rfl⟩, ⟨rfl, rfl, rfl, rfl, rfl⟩, ⟨rfl, rfl, rfl, rfl, rfl⟩, ⟨rfl, rfl, rfl, rfl, rfl⟩⟩
theorem fr_val_nt {m p : Nat} {c : Nat → Nat} (hv : fr_val m c) (hp : p < 5) (h : c p + (4 - p) < m) : fr_val m (fr_nt c p) := by
  obtain ⟨v0, v1, v2, v3, v4⟩ := hv
  obtain ⟨⟨a0, a1, a2, a3, a4⟩, ⟨b0, b1, b2, b3, b4⟩, ⟨c0, c1, c2, c3, c4⟩, ⟨d0, d1, d2, d3, d4⟩, ⟨g0, g1, g2, g3, g4⟩⟩ := fr_nt_e c
  unfold fr_val
  rcases (show p = 0 ∨ p = 1 ∨ p = 2 ∨ p = 3 ∨ p = 4 by omega) with rfl | rfl | rfl | rfl | rfl
  · rw [a0, a1, a2, a3, a4]
    refine ⟨by omega, by omega, by omega, by omega, by omega⟩
  · rw [b0, b1, b2, b3, b4]
    refine ⟨by omega, by omega, by omega, by omega, by omega⟩
  · rw [c0, c1, c2, c3, c4]
    refine ⟨by omega, by omega, by omega, by omega, by omega⟩
  · rw [d0, d1, d2, d3, d4]
    refine ⟨by omega, by omega, by omega, by omega, by omega⟩
  · rw [g0, g1, g2, g3, g4]
    refine ⟨by omega, by omega, by omega, by omega, by omega⟩
theorem fr_val_b {m : Nat} {t : Nat → Nat} (hv : fr_val m t) : (t 0 = 0 ∨ t 0 + 4 ≤ m) ∧ (t 1 = 0 ∨ t 1 + 3 ≤ m) ∧ (t 2 = 0 ∨ t 2 + 2 ≤ m) ∧ (t 3 = 0 ∨ t 3 + 1 ≤ m) ∧ t 4 ≤ m ∧ (t 0 = 0 ∨ (t 0 < t 1 ∧ t 0 + 1 < t 2 ∧ t 0 + 2 < t 3 ∧ t 0 + 3 < t 4)) ∧ (t 1 = 0 ∨ (t 1 < t 2 ∧ t 1 + 1 < t 3 ∧ t 1 + 2 < t 4)) ∧ (t 2 = 0 ∨ (t 2 < t 3 ∧ t 2 + 1 < t 4)) ∧ (t 3 = 0 ∨ t 3 < t 4) := by
  obtain ⟨v0, v1, v2, v3, v4⟩ := hv
  refine ⟨by omega, by omega, by omega, by omega, by omega, by omega, by omega, by omega, by omega⟩
/-- a list below another one has a place that can be raised -/
theorem fr_lt_ex {m : Nat} {c t : Nat → Nat} (ht : fr_val m t) (h : fr_lt c t) : ∃ q, q < 5 ∧ c q + (4 - q) < m := by
  obtain ⟨b0, b1, b2, b3, b4, _⟩ := fr_val_b ht
  rcases h with h | ⟨_, h | ⟨_, h | ⟨_, h | ⟨_, h⟩⟩⟩⟩
  · exact ⟨0, by omega, by omega⟩
  · exact ⟨1, by omega, by omega⟩
  · exact ⟨2, by omega, by omega⟩
  · exact ⟨3, by omega, by omega⟩
  · exact ⟨4, by omega, by omega⟩
/-- and the next one isn't above that other one -/
theorem fr_nt_le {m p : Nat} {c t : Nat → Nat} (ht : fr_val m t) (h : fr_lt c t) (hp : p < 5) (hr : c p + (4 - p) < m) (hq : ∀ q, p < q → q < 5 → m ≤ c q + (4 - q)) : fr_le (fr_nt c p) t := by
  obtain ⟨b0, b1, b2, b3, b4, r0, r1, r2, r3⟩ := fr_val_b ht
  obtain ⟨⟨a0, a1, a2, a3, a4⟩, ⟨e0, e1, e2, e3, e4⟩, ⟨c0, c1, c2, c3, c4⟩, ⟨d0, d1, d2, d3, d4⟩, ⟨g0, g1, g2, g3, g4⟩⟩ := fr_nt_e c
  unfold fr_le
  rcases (show p = 0 ∨ p = 1 ∨ p = 2 ∨ p = 3 ∨ p = 4 by omega) with rfl | rfl | rfl | rfl | rfl
  · rw [a0, a1, a2, a3, a4]
    have q1 := hq 1 (by omega) (by omega)
    have q2 := hq 2 (by omega) (by omega)
    have q3 := hq 3 (by omega) (by omega)
    have q4 := hq 4 (by omega) (by omega)
    rcases h with h | ⟨_, h | ⟨_, h | ⟨_, h | ⟨_, h⟩⟩⟩⟩ <;> omega
  · rw [e0, e1, e2, e3, e4]
    have q2 := hq 2 (by omega) (by omega)
    have q3 := hq 3 (by omega) (by omega)
    have q4 := hq 4 (by omega) (by omega)
    rcases h with h | ⟨_, h | ⟨_, h | ⟨_, h | ⟨_, h⟩⟩⟩⟩ <;> omega
  · rw [c0, c1, c2, c3, c4]
    have q3 := hq 3 (by omega) (by omega)
    have q4 := hq 4 (by omega) (by omega)
    rcases h with h | ⟨_, h | ⟨_, h | ⟨_, h | ⟨_, h⟩⟩⟩⟩ <;> omega
  · rw [d0, d1, d2, d3, d4]
    have q4 := hq 4 (by omega) (by omega)
    rcases h with h | ⟨_, h | ⟨_, h | ⟨_, h | ⟨_, h⟩⟩⟩⟩ <;> omega
  · rw [g0, g1, g2, g3, g4]
    rcases h with h | ⟨_, h | ⟨_, h | ⟨_, h | ⟨_, h⟩⟩⟩⟩ <;> omega
/-! the best cover -/
def fr_mem (e : Nat → Nat) (n : Nat) (c : Nat → Nat) (d : Nat) : Prop := d ≠ 0 ∧ ∃ p, p < 5 ∧ fr_cd e n (c p) = d
def fr_ok (e : Nat → Nat) (n : Nat) (c : Nat → Nat) : Prop := fr_val (fr_m e n) c ∧ fr_cov e n (fr_mem e n c)
def fr_best (e : Nat → Nat) (n : Nat) (c : Nat → Nat) : Prop := fr_ok e n c ∧ ∀ t, fr_ok e n t → fr_le c t
theorem fr_best_u {e : Nat → Nat} {n : Nat} {c c' : Nat → Nat} (h : fr_best e n c) (h' : fr_best e n c') : c 0 = c' 0 ∧ c 1 = c' 1 ∧ c 2 = c' 2 ∧ c 3 = c' 3 ∧ c 4 = c' 4 := fr_le_eq (h.2 c' h'.1) (h'.2 c h.1)
theorem fr_val_m {m : Nat} {c : Nat → Nat} (h : fr_val m c) {p : Nat} (hp : p < 5) : c p ≤ m := by
  obtain ⟨b0, b1, b2, b3, b4, _⟩ := fr_val_b h
  rcases (show p = 0 ∨ p = 1 ∨ p = 2 ∨ p = 3 ∨ p = 4 by omega) with rfl | rfl | rfl | rfl | rfl <;> omega
theorem fr_ok_4 {e : Nat → Nat} {n : Nat} {c : Nat → Nat} (hn : 0 < n) (h : fr_ok e n c) : c 4 ≠ 0 := by
  obtain ⟨hv, _, hc, _⟩ := h
  obtain ⟨d, ⟨hd, p, hp, he⟩, _⟩ := hc 0 hn
  have hcp : c p ≠ 0 := by
    intro h0
    rw [h0, fr_cd_0] at he
    exact hd he.symm
  obtain ⟨_, _, _, _, _, r0, r1, r2, r3⟩ := fr_val_b hv
  rcases (show p = 0 ∨ p = 1 ∨ p = 2 ∨ p = 3 ∨ p = 4 by omega) with rfl | rfl | rfl | rfl | rfl <;> omega
/-- the list of all sets with one member -/
def fr_si (e : Nat → Nat) (n p : Nat) : Nat := if p + n < 5 then 0 else fr_ct e n (2 ^ (p + n - 5))
theorem fr_si_cd {e : Nat → Nat} {n j : Nat} (hj : j < n) : fr_ct e n (2 ^ j) ≠ 0 ∧ fr_ct e n (2 ^ j) ≤ fr_m e n ∧ fr_cd e n (fr_ct e n (2 ^ j)) = 2 ^ j := fr_cd_ct (Nat.two_pow_pos j) (Nat.pow_lt_pow_right (by decide) hj) (fr_cs_1 e n j)
theorem fr_si_up {e : Nat → Nat} {n p : Nat} (hp : p < 4) : fr_si e n p = 0 ∨ fr_si e n p < fr_si e n (p + 1) := by
  unfold fr_si
  by_cases h : p + n < 5
  · exact Or.inl (if_pos h)
  · right
    rw [if_neg h, if_neg (by omega)]
    refine fr_ct_lt (Nat.pow_lt_pow_right (by decide) (by omega)) (fr_cs_1 e n _)
theorem fr_si_ok {e : Nat → Nat} {n : Nat} (he : ∀ i, e i < 3 * (n + 1)) (hn : 2 ≤ n) (hn5 : n ≤ 5) : fr_ok e n (fr_si e n) := by
  have M : ∀ d, fr_mem e n (fr_si e n) d ↔ ∃ j, j < n ∧ d = 2 ^ j := by
    intro d
    constructor
    · rintro ⟨hd, p, hp, hx⟩
      unfold fr_si at hx
      by_cases h : p + n < 5
      · rw [if_pos h, fr_cd_0] at hx
        exact absurd hx.symm hd
      · rw [if_neg h, (fr_si_cd (by omega)).2.2] at hx
        exact ⟨p + n - 5, by omega, hx.symm⟩
    · rintro ⟨j, hj, rfl⟩
      refine ⟨Nat.ne_of_gt (Nat.two_pow_pos j), j + 5 - n, by omega, ?_⟩
      unfold fr_si
      rw [if_neg (by omega), show j + 5 - n + n - 5 = j by omega, (fr_si_cd hj).2.2]
  refine ⟨⟨fr_si_up (by omega), fr_si_up (by omega), fr_si_up (by omega), fr_si_up (by omega), ?_⟩, ?_⟩
  · unfold fr_si
    rw [if_neg (by omega)]
    exact (fr_si_cd (by omega)).2.1
  · rw [fr_cov_eq M]
    refine ⟨?_, ?_, ?_⟩
    · rintro d ⟨j, _, rfl⟩
      exact fr_cs_1 e n j
    · intro s hs
      exact ⟨2 ^ s, ⟨s, hs, rfl⟩, by rw [Nat.testBit_two_pow]; exact decide_eq_true rfl⟩
    · rintro d ⟨j, hj, rfl⟩ a _
      rw [fr_im_1]
      by_cases h : j < n ∧ fr_nx e j a ≠ 0
      · right
        rw [if_pos h]
        have := fr_nx_le he j a
        exact ⟨_, ⟨fr_nx e j a - 1, by omega, rfl⟩, Nat.and_self _⟩
      · exact Or.inl (if_neg h)
end FRC
