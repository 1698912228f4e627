section FRS
/-! sets of states: a number below 2 ^ n, by its bits -/
def fr_cs (e : Nat → Nat) (n c : Nat) : Bool := (List.range n).all fun s => (List.range n).all fun t => !(c.testBit s && c.testBit t) || fr_sl e 10 s t == 0
theorem fr_cs_iff {e : Nat → Nat} {n c : Nat} : fr_cs e n c = true ↔ ∀ s t, s < n → t < n → c.testBit s = true → c.testBit t = true → fr_sl e 10 s t = 0 := by
  unfold fr_cs
  simp only [List.all_eq_true, List.mem_range, Bool.or_eq_true, Bool.not_eq_true', Bool.and_eq_false_iff, beq_iff_eq]
  constructor
  · intro h s t hs ht a b
    rcases h s hs t ht with (h1 | h1) | h1
    · rw [a] at h1; cases h1
    · rw [b] at h1; cases h1
    · exact h1
  · intro h s hs t ht
    cases a : c.testBit s with
    | false => exact Or.inl (Or.inl rfl)
    | true =>
      cases b : c.testBit t with
      | false => exact Or.inl (Or.inr rfl)
      | true => exact Or.inr (h s t hs ht a b)
theorem fr_bf {b : Bool} (h : ¬ b = true) : b = false := by
  cases b
  · rfl
  · exact absurd rfl h
theorem fr_cs_f {e : Nat → Nat} {n c s t : Nat} (hs : s < n) (ht : t < n) (a : c.testBit s = true) (b : c.testBit t = true) (h : fr_sl e 10 s t ≠ 0) : fr_cs e n c = false := fr_bf (fun hx => h (fr_cs_iff.mp hx s t hs ht a b))
theorem fr_cs_sub {e : Nat → Nat} {n c d : Nat} (hd : fr_cs e n d = true) (h : ∀ s, s < n → c.testBit s = true → d.testBit s = true) : fr_cs e n c = true := fr_cs_iff.mpr fun s t hs ht a b => fr_cs_iff.mp hd s t hs ht (h s hs a) (h t ht b)
theorem fr_tb (c s : Nat) : c.testBit s = decide (c / 2 ^ s % 2 = 1) := Nat.testBit_eq_decide_div_mod_eq
theorem fr_cs_0 (e : Nat → Nat) (n : Nat) : fr_cs e n 0 = true := fr_cs_iff.mpr fun s t _ _ a _ => by
  rw [Nat.zero_testBit] at a
  cases a
theorem fr_cs_1 (e : Nat → Nat) (n j : Nat) : fr_cs e n (2 ^ j) = true := fr_cs_iff.mpr fun s t _ _ a b => by
  rw [Nat.testBit_two_pow] at a b
  have h1 := of_decide_eq_true a
  have h2 := of_decide_eq_true b
  rw [← h1, ← h2, fr_sl_re]
/-! implied sets -/
def fr_im (e : Nat → Nat) (c a : Nat) : Nat → Nat
  | 0 => 0
  | s + 1 => if c.testBit s = true ∧ fr_nx e s a ≠ 0 then fr_im e c a s ||| 2 ^ (fr_nx e s a - 1) else fr_im e c a s
theorem fr_im_s (e : Nat → Nat) (c a s : Nat) : fr_im e c a (s + 1) = if c.testBit s = true ∧ fr_nx e s a ≠ 0 then fr_im e c a s ||| 2 ^ (fr_nx e s a - 1) else fr_im e c a s := rfl
theorem fr_im_lt {e : Nat → Nat} {n : Nat} (he : ∀ i, e i < 3 * (n + 1)) (c a : Nat) : ∀ k, fr_im e c a k < 2 ^ n := by
  intro k
  induction k with
  | zero => exact Nat.two_pow_pos n
  | succ k ih =>
    rw [fr_im_s]
    split
    · rename_i h
      have := fr_nx_le he k a
      exact Nat.or_lt_two_pow ih (Nat.pow_lt_pow_right (by decide) (by omega))
    · exact ih
theorem fr_im_0 (e : Nat → Nat) (a : Nat) : ∀ k, fr_im e 0 a k = 0 := by
  intro k
  induction k with
  | zero => rfl
  | succ k ih =>
    rw [fr_im_s, if_neg, ih]
    intro h
    rw [Nat.zero_testBit] at h
    cases h.1
theorem fr_im_1 (e : Nat → Nat) (j a : Nat) : ∀ k, fr_im e (2 ^ j) a k = if j < k ∧ fr_nx e j a ≠ 0 then 2 ^ (fr_nx e j a - 1) else 0 := by
  intro k
  induction k with
  | zero => rw [if_neg (by omega)]; rfl
  | succ k ih =>
    rw [fr_im_s, ih, Nat.testBit_two_pow]
    by_cases hj : j = k
    · subst hj
      by_cases hx : fr_nx e j a ≠ 0
      · rw [if_pos ⟨decide_eq_true rfl, hx⟩, if_neg (by omega), if_pos ⟨by omega, hx⟩, Nat.zero_or]
      · rw [if_neg (fun h => hx h.2), if_neg (by omega), if_neg (fun h => hx h.2)]
    · rw [if_neg (fun h => hj (of_decide_eq_true h.1))]
      by_cases hx : j < k ∧ fr_nx e j a ≠ 0
      · rw [if_pos hx, if_pos ⟨by omega, hx.2⟩]
      · rw [if_neg hx, if_neg (fun h => hx ⟨by omega, h.2⟩)]
/-! the compatible sets counted, and the i-th of them -/
def fr_ct (e : Nat → Nat) (n : Nat) : Nat → Nat
  | 0 => 0
  | c + 1 => fr_ct e n c + (if fr_cs e n (c + 1) = true then 1 else 0)
theorem fr_ct_s (e : Nat → Nat) (n c : Nat) : fr_ct e n (c + 1) = fr_ct e n c + (if fr_cs e n (c + 1) = true then 1 else 0) := rfl
theorem fr_ct_le (e : Nat → Nat) (n : Nat) : ∀ c, fr_ct e n c ≤ c := by
  intro c
  induction c with
  | zero => exact Nat.le_refl 0
  | succ c ih => rw [fr_ct_s]; split <;> omega
theorem fr_ct_mono (e : Nat → Nat) (n c : Nat) : ∀ k, fr_ct e n c ≤ fr_ct e n (c + k) := by
  intro k
  induction k with
  | zero => exact Nat.le_refl _
  | succ k ih => rw [← Nat.add_assoc, fr_ct_s]; split <;> omega
theorem fr_ct_lt {e : Nat → Nat} {n c d : Nat} (h : c < d) (hd : fr_cs e n d = true) : fr_ct e n c < fr_ct e n d := by
  obtain ⟨k, rfl⟩ : ∃ k, d = c + k + 1 := ⟨d - c - 1, by omega⟩
  have := fr_ct_mono e n c k
  rw [fr_ct_s, if_pos hd]
  omega
theorem fr_ct_inj {e : Nat → Nat} {n c d : Nat} (hc : fr_cs e n c = true) (hd : fr_cs e n d = true) (h : fr_ct e n c = fr_ct e n d) : c = d := by
  rcases Nat.lt_trichotomy c d with hl | hl | hl
  · have := fr_ct_lt hl hd; omega
  · exact hl
  · have := fr_ct_lt hl hc; omega
theorem fr_ct_sur (e : Nat → Nat) (n : Nat) : ∀ D i, 1 ≤ i → i ≤ fr_ct e n D → ∃ d, 1 ≤ d ∧ d ≤ D ∧ fr_cs e n d = true ∧ fr_ct e n d = i := by
  intro D
  induction D with
  | zero => intro i h1 h2; exact absurd h2 (by show ¬ i ≤ 0; omega)
  | succ D ih =>
    intro i h1 h2
    by_cases hc : fr_cs e n (D + 1) = true
    · by_cases hi : i ≤ fr_ct e n D
      · obtain ⟨d, a, b, c⟩ := ih i h1 hi
        exact ⟨d, a, by omega, c⟩
      · refine ⟨D + 1, by omega, Nat.le_refl _, hc, ?_⟩
        rw [fr_ct_s, if_pos hc] at h2 ⊢
        omega
    · rw [fr_ct_s, if_neg hc] at h2
      obtain ⟨d, a, b, c⟩ := ih i h1 (by omega)
      exact ⟨d, a, by omega, c⟩
def fr_m (e : Nat → Nat) (n : Nat) : Nat := fr_ct e n (2 ^ n - 1)
noncomputable def fr_cd (e : Nat → Nat) (n i : Nat) : Nat := if i = 0 then 0 else Classical.epsilon (fun d => 1 ≤ d ∧ d < 2 ^ n ∧ fr_cs e n d = true ∧ fr_ct e n d = i)
theorem fr_cd_0 (e : Nat → Nat) (n : Nat) : fr_cd e n 0 = 0 := if_pos rfl
theorem fr_cd_p {e : Nat → Nat} {n i : Nat} (h1 : i ≠ 0) (h2 : i ≤ fr_m e n) : 1 ≤ fr_cd e n i ∧ fr_cd e n i < 2 ^ n ∧ fr_cs e n (fr_cd e n i) = true ∧ fr_ct e n (fr_cd e n i) = i := by
  obtain ⟨d, a, b, c, f⟩ := fr_ct_sur e n (2 ^ n - 1) i (by omega) h2
  unfold fr_cd
  rw [if_neg h1]
  have := Nat.two_pow_pos n
  exact Classical.epsilon_spec (p := fun d => 1 ≤ d ∧ d < 2 ^ n ∧ fr_cs e n d = true ∧ fr_ct e n d = i) ⟨d, a, by omega, c, f⟩
theorem fr_cd_ct {e : Nat → Nat} {n d : Nat} (h1 : 1 ≤ d) (h2 : d < 2 ^ n) (hc : fr_cs e n d = true) : fr_ct e n d ≠ 0 ∧ fr_ct e n d ≤ fr_m e n ∧ fr_cd e n (fr_ct e n d) = d := by
  have a : fr_ct e n d ≠ 0 := by
    have := fr_ct_lt (c := 0) (show 0 < d by omega) hc
    omega
  have b : fr_ct e n d ≤ fr_m e n := by
    have := fr_ct_mono e n d (2 ^ n - 1 - d)
    rw [show d + (2 ^ n - 1 - d) = 2 ^ n - 1 by omega] at this
    exact this
  obtain ⟨_, _, p3, p4⟩ := fr_cd_p a b
  exact ⟨a, b, fr_ct_inj p3 hc p4⟩
theorem fr_cd_cs {e : Nat → Nat} {n i : Nat} (h2 : i ≤ fr_m e n) : fr_cs e n (fr_cd e n i) = true := by
  by_cases h : i = 0
  · rw [h, fr_cd_0]; exact fr_cs_0 e n
  · exact (fr_cd_p h h2).2.2.1
theorem fr_cd_lt {e : Nat → Nat} {n i : Nat} (h2 : i ≤ fr_m e n) : fr_cd e n i < 2 ^ n := by
  by_cases h : i = 0
  · rw [h, fr_cd_0]; exact Nat.two_pow_pos n
  · exact (fr_cd_p h h2).2.1
theorem fr_cd_tc {e : Nat → Nat} {n i : Nat} (h2 : i ≤ fr_m e n) : fr_ct e n (fr_cd e n i) = i := by
  by_cases h : i = 0
  · rw [h, fr_cd_0]; rfl
  · exact (fr_cd_p h h2).2.2.2
theorem fr_cd_mono {e : Nat → Nat} {n i j : Nat} (h : i < j) (h2 : j ≤ fr_m e n) : fr_cd e n i < fr_cd e n j := by
  rcases Nat.lt_trichotomy (fr_cd e n i) (fr_cd e n j) with hl | hl | hl
  · exact hl
  · have a := fr_cd_tc (i := i) (show i ≤ fr_m e n by omega)
    rw [hl, fr_cd_tc h2] at a
    omega
  · have := fr_ct_lt hl (fr_cd_cs (i := i) (by omega))
    rw [fr_cd_tc h2, fr_cd_tc (by omega)] at this
    omega
theorem fr_m_lt (e : Nat → Nat) (n : Nat) : fr_m e n < 2 ^ n := by
  have := fr_ct_le e n (2 ^ n - 1)
  have := Nat.two_pow_pos n
  unfold fr_m
  omega
/-! maximal sets -/
def fr_mx (e : Nat → Nat) (n c : Nat) : Bool := fr_cs e n c && (List.range n).all fun s => c.testBit s || !fr_cs e n (c ||| 2 ^ s)
theorem fr_mx_iff {e : Nat → Nat} {n c : Nat} : fr_mx e n c = true ↔ fr_cs e n c = true ∧ ∀ s, s < n → c.testBit s = false → fr_cs e n (c ||| 2 ^ s) = false := by
  unfold fr_mx
  simp only [Bool.and_eq_true, List.all_eq_true, List.mem_range, Bool.or_eq_true, Bool.not_eq_true']
  refine and_congr_right fun _ => ⟨fun h s hs a => ?_, fun h s hs => ?_⟩
  · rcases h s hs with h1 | h1
    · rw [a] at h1; cases h1
    · exact h1
  · cases a : c.testBit s with
    | true => exact Or.inl rfl
    | false => exact Or.inr (h s hs a)
theorem fr_tb_lt {d n s : Nat} (hd : d < 2 ^ n) (h : d.testBit s = true) : s < n := by
  by_cases hs : s < n
  · exact hs
  · have : d < 2 ^ s := Nat.lt_of_lt_of_le hd (Nat.pow_le_pow_right (by decide) (by omega))
    rw [Nat.testBit_lt_two_pow this] at h
    cases h
theorem fr_sub_tb {c d : Nat} : d &&& c = c ↔ ∀ s, c.testBit s = true → d.testBit s = true := by
  constructor
  · intro h s hs
    rw [← h, Nat.testBit_and, Bool.and_eq_true] at hs
    exact hs.1
  · intro h
    apply Nat.eq_of_testBit_eq
    intro s
    rw [Nat.testBit_and]
    cases hc : c.testBit s with
    | false => rw [Bool.and_false]
    | true => rw [h s hc]; rfl
theorem fr_mx_big {e : Nat → Nat} {n c : Nat} (hc : c < 2 ^ n) : fr_mx e n c = true ↔ fr_cs e n c = true ∧ ∀ d, 1 ≤ d → d < 2 ^ n → d ≠ c → d &&& c = c → fr_cs e n d = false := by
  rw [fr_mx_iff]
  refine and_congr_right fun _ => ⟨fun h d _ hd hne hs => ?_, fun h s hs hb => ?_⟩
  · have hs' := fr_sub_tb.mp hs
    have : ∃ s, d.testBit s = true ∧ c.testBit s = false := by
      apply Classical.byContradiction
      intro hno
      apply hne
      apply Nat.eq_of_testBit_eq
      intro s
      cases h1 : c.testBit s with
      | true => exact hs' s h1
      | false =>
        cases h2 : d.testBit s with
        | false => rfl
        | true => exact absurd ⟨s, h2, h1⟩ hno
    obtain ⟨s, h1, h2⟩ := this
    have h3 := h s (fr_tb_lt hd h1) h2
    refine fr_bf fun hx => ?_
    have : fr_cs e n (c ||| 2 ^ s) = true := fr_cs_sub hx fun r _ hr => by
      rw [Nat.testBit_or, Bool.or_eq_true, Nat.testBit_two_pow] at hr
      rcases hr with hr | hr
      · exact hs' r hr
      · rw [← of_decide_eq_true hr]; exact h1
    rw [this] at h3
    cases h3
  · have hb' : (c ||| 2 ^ s).testBit s = true := by
      rw [Nat.testBit_or, Nat.testBit_two_pow, decide_eq_true rfl, Bool.or_true]
    refine h (c ||| 2 ^ s) ?_ (Nat.or_lt_two_pow hc (Nat.pow_lt_pow_right (by decide) hs)) ?_ ?_
    · rcases Nat.eq_zero_or_pos (c ||| 2 ^ s) with h0 | h0
      · rw [h0, Nat.zero_testBit] at hb'; cases hb'
      · exact h0
    · intro he
      rw [he, hb] at hb'
      cases hb'
    · exact fr_sub_tb.mpr fun r hr => by rw [Nat.testBit_or, hr, Bool.true_or]
def fr_mc (e : Nat → Nat) (n : Nat) : Nat → Nat
  | 0 => 0
  | c + 1 => fr_mc e n c + (if fr_mx e n (c + 1) = true then 1 else 0)
theorem fr_mc_s (e : Nat → Nat) (n c : Nat) : fr_mc e n (c + 1) = fr_mc e n c + (if fr_mx e n (c + 1) = true then 1 else 0) := rfl
theorem fr_mc_le (e : Nat → Nat) (n : Nat) : ∀ c, fr_mc e n c ≤ c := by
  intro c
  induction c with
  | zero => exact Nat.le_refl 0
  | succ c ih => rw [fr_mc_s]; split <;> omega
theorem fr_mc_mono (e : Nat → Nat) (n c : Nat) : ∀ k, fr_mc e n c ≤ fr_mc e n (c + k) := by
  intro k
  induction k with
  | zero => exact Nat.le_refl _
  | succ k ih => rw [← Nat.add_assoc, fr_mc_s]; split <;> omega
/-! covers: by the list's members alone -/
def fr_cov (e : Nat → Nat) (n : Nat) (M : Nat → Prop) : Prop := (∀ d, M d → fr_cs e n d = true) ∧ (∀ s, s < n → ∃ d, M d ∧ d.testBit s = true) ∧ (∀ d, M d → ∀ a, a < 2 → fr_im e d a n = 0 ∨ ∃ d', M d' ∧ d' &&& fr_im e d a n = fr_im e d a n)
theorem fr_cov_eq {e : Nat → Nat} {n : Nat} {M M' : Nat → Prop} (h : ∀ d, M d ↔ M' d) : fr_cov e n M ↔ fr_cov e n M' := by
  have : M = M' := funext fun d => propext (h d)
  rw [this]
theorem fr_all {n v : Nat} (hv : v < 2 ^ n) : v = 2 ^ n - 1 ↔ ∀ s, s < n → v.testBit s = true := by
  constructor
  · intro h s hs
    rw [h, Nat.testBit_two_pow_sub_one]
    exact decide_eq_true hs
  · intro h
    apply Nat.eq_of_testBit_eq
    intro s
    rw [Nat.testBit_two_pow_sub_one]
    by_cases hs : s < n
    · rw [h s hs, decide_eq_true hs]
    · rw [decide_eq_false hs]
      exact fr_bf fun hx => hs (fr_tb_lt hv hx)
end FRS
