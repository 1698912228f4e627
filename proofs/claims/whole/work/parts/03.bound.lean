section FRB
/-! no shortest word is longer than there are twos of states -/
theorem fr_nx_le {e : Nat → Nat} {n : Nat} (he : ∀ i, e i < 3 * (n + 1)) (s a : Nat) : fr_nx e s a ≤ n := by
  have := he (2 * s + a)
  unfold fr_nx
  omega
theorem fr_go_iff {e : Nat → Nat} {s t a : Nat} : fr_go e s t a = true ↔ fr_nx e s a ≠ 0 ∧ fr_nx e t a ≠ 0 := by
  unfold fr_go
  exact decide_eq_true_iff
theorem fr_od_iff {e : Nat → Nat} {s t a : Nat} : fr_od e s t a = true ↔ fr_ou e s a ≠ 0 ∧ fr_ou e t a ≠ 0 ∧ fr_ou e s a ≠ fr_ou e t a := by
  unfold fr_od
  exact decide_eq_true_iff
theorem fr_sl_down {e : Nat → Nat} {n m s t j : Nat} (he : ∀ i, e i < 3 * (n + 1)) (h : fr_sl e m s t = j + 2) : ∃ p q, p < n ∧ q < n ∧ fr_sl e m p q = j + 1 := by
  obtain ⟨h1, h2, h3⟩ := (fr_sl_spec e s t m).2 (j + 1) h
  have h0 : fr_sl e (j + 1) s t = 0 := by
    cases hx : fr_sl e (j + 1) s t with
    | zero => rfl
    | succ k =>
      obtain ⟨k1, k2, _⟩ := (fr_sl_spec e s t (j + 1)).2 k hx
      rw [h3 k k1] at k2
      cases k2
  have K : ∀ a, a < 2 → (fr_aw e (fr_lw e j) s t a).isSome = true → ∃ p q, p < n ∧ q < n ∧ fr_sl e m p q = j + 1 := by
    intro a ha hs
    rw [fr_aw_eq ha h0] at hs
    by_cases hc : fr_go e s t a = true ∧ fr_sl e (j + 1) (fr_nx e s a - 1) (fr_nx e t a - 1) = j + 1
    · obtain ⟨hg, hl⟩ := hc
      have hg' := fr_go_iff.mp hg
      have b1 := fr_nx_le he s a
      have b2 := fr_nx_le he t a
      obtain ⟨_, q2, q3⟩ := (fr_sl_spec e _ _ (j + 1)).2 j hl
      exact ⟨_, _, by omega, by omega, fr_sl_of (by omega) q2 q3⟩
    · rw [if_neg hc] at hs
      cases hs
  rw [fr_lw_s] at h2
  cases h4 : fr_aw e (fr_lw e j) s t 0 with
  | some w => exact K 0 (by omega) (by rw [h4]; rfl)
  | none =>
    cases h5 : fr_aw e (fr_lw e j) s t 1 with
    | some w => exact K 1 (by omega) (by rw [h5]; rfl)
    | none =>
      rw [h4, h5] at h2
      cases h2
theorem fr_sl_all {e : Nat → Nat} {n m : Nat} (he : ∀ i, e i < 3 * (n + 1)) : ∀ d j s t, s < n → t < n → fr_sl e m s t = j + 1 + d → ∃ p q, p < q ∧ q < n ∧ fr_sl e m p q = j + 1 := by
  intro d
  induction d with
  | zero =>
    intro j s t hs ht h
    rw [Nat.add_zero] at h
    rcases Nat.lt_trichotomy s t with hl | hl | hl
    · exact ⟨s, t, hl, ht, h⟩
    · rw [hl, fr_sl_re] at h; omega
    · exact ⟨t, s, hl, hs, by rw [fr_sl_sy]; exact h⟩
  | succ d ih =>
    intro j s t hs ht h
    obtain ⟨p, q, hp, hq, h'⟩ := fr_sl_down (j := j + d) he (show fr_sl e m s t = j + d + 2 by omega)
    exact ih j p q hp hq (by omega)
theorem fr_pig : ∀ (M : Nat) (l : List Nat), (∀ j, j < M → j + 1 ∈ l) → M ≤ l.length := by
  intro M
  induction M with
  | zero => intro l _; exact Nat.zero_le _
  | succ M ih =>
    intro l h
    have hm := h M (by omega)
    have h1 := ih (l.erase (M + 1)) (fun j hj => (List.mem_erase_of_ne (by omega)).mpr (h j (by omega)))
    rw [List.length_erase_of_mem hm] at h1
    have h2 : 0 < l.length := List.length_pos_of_mem hm
    omega
theorem fr_sl_bd {e : Nat → Nat} {n m s t : Nat} (he : ∀ i, e i < 3 * (n + 1)) (hn : 2 ≤ n) (hn5 : n ≤ 5) (hm : m ≤ 10) (hs : s < n) (ht : t < n) : fr_sl e m s t ≤ n * (n - 1) / 2 := by
  have J : ∀ j, j < fr_sl e m s t → ∃ p q, p < q ∧ q < n ∧ fr_sl e m p q = j + 1 := by
    intro j hj
    exact fr_sl_all he (fr_sl e m s t - (j + 1)) j s t hs ht (by omega)
  have hl := fr_sl_le e m s t
  generalize fr_sl e m s t = M at J hl
  rcases (show n = 2 ∨ n = 3 ∨ n = 4 ∨ n = 5 by omega) with rfl | rfl | rfl | rfl
  · refine fr_pig M [fr_sl e m 0 1] (fun j hj => ?_)
    obtain ⟨p, q, hp, hq, h⟩ := J j hj
    rcases (show p = 0 ∧ q = 1 by omega) with ⟨rfl, rfl⟩
    simp [h]
  · refine fr_pig M [fr_sl e m 0 1, fr_sl e m 0 2, fr_sl e m 1 2] (fun j hj => ?_)
    obtain ⟨p, q, hp, hq, h⟩ := J j hj
    rcases (show (p = 0 ∧ q = 1) ∨ (p = 0 ∧ q = 2) ∨ (p = 1 ∧ q = 2) by omega) with ⟨rfl, rfl⟩ | ⟨rfl, rfl⟩ | ⟨rfl, rfl⟩ <;> simp [h]
  · refine fr_pig M [fr_sl e m 0 1, fr_sl e m 0 2, fr_sl e m 1 2, fr_sl e m 0 3, fr_sl e m 1 3, fr_sl e m 2 3] (fun j hj => ?_)
    obtain ⟨p, q, hp, hq, h⟩ := J j hj
    rcases (show (p = 0 ∧ q = 1) ∨ (p = 0 ∧ q = 2) ∨ (p = 1 ∧ q = 2) ∨ (p = 0 ∧ q = 3) ∨ (p = 1 ∧ q = 3) ∨ (p = 2 ∧ q = 3) by omega) with ⟨rfl, rfl⟩ | ⟨rfl, rfl⟩ | ⟨rfl, rfl⟩ | ⟨rfl, rfl⟩ | ⟨rfl, rfl⟩ | ⟨rfl, rfl⟩ <;> simp [h]
  · omega
theorem fr_sl_cap {e : Nat → Nat} {m M s t : Nat} (hM : M ≤ m) (h : fr_sl e m s t ≤ M) : fr_sl e M s t = fr_sl e m s t := by
  obtain ⟨a, b⟩ := fr_sl_spec e s t m
  cases hx : fr_sl e m s t with
  | zero =>
    cases hy : fr_sl e M s t with
    | zero => rfl
    | succ k =>
      obtain ⟨k1, k2, _⟩ := (fr_sl_spec e s t M).2 k hy
      rw [a hx k (by omega)] at k2
      cases k2
  | succ k =>
    obtain ⟨_, k2, k3⟩ := b k hx
    exact fr_sl_of (by omega) k2 k3
theorem fr_sw_lt (e : Nat → Nat) (m s t : Nat) : fr_sw e m s t < 2 ^ (m + 1) := by
  unfold fr_sw
  split
  · exact Nat.two_pow_pos _
  · rename_i h
    cases hx : fr_lw e (fr_sl e m s t - 1) s t with
    | none => exact Nat.two_pow_pos _
    | some w =>
      have h1 := ((fr_lw_spec e _ s t).1 w hx).1
      have h2 := fr_sl_le e m s t
      exact Nat.lt_of_lt_of_le h1 (Nat.pow_le_pow_right (by decide) (by omega))
end FRB
