section FRV
/-! lists of sets: K places; zeros in it stand for no set -/
def fr_lm (K : Nat) (L : Nat → Nat) (d : Nat) : Prop := d ≠ 0 ∧ ∃ p, p < K ∧ L p = d
def fr_un (L : Nat → Nat) : Nat → Nat
  | 0 => 0
  | i + 1 => fr_un L i ||| L i
theorem fr_un_s (L : Nat → Nat) (i : Nat) : fr_un L (i + 1) = fr_un L i ||| L i := rfl
theorem fr_un_tb {L : Nat → Nat} {s : Nat} : ∀ i, (fr_un L i).testBit s = true ↔ ∃ p, p < i ∧ (L p).testBit s = true := by
  intro i
  induction i with
  | zero =>
    constructor
    · intro h
      have : (0 : Nat).testBit s = true := h
      rw [Nat.zero_testBit] at this
      cases this
    · rintro ⟨p, hp, _⟩
      exact absurd hp (Nat.not_lt_zero p)
  | succ i ih =>
    rw [fr_un_s, Nat.testBit_or, Bool.or_eq_true, ih]
    constructor
    · rintro (⟨p, hp, h⟩ | h)
      · exact ⟨p, by omega, h⟩
      · exact ⟨i, by omega, h⟩
    · rintro ⟨p, hp, h⟩
      by_cases hpi : p = i
      · subst hpi; exact Or.inr h
      · exact Or.inl ⟨p, by omega, h⟩
theorem fr_un_lt {L : Nat → Nat} {n K : Nat} (hL : ∀ p, p < K → L p < 2 ^ n) : ∀ i, i ≤ K → fr_un L i < 2 ^ n := by
  intro i
  induction i with
  | zero => intro _; exact Nat.two_pow_pos n
  | succ i ih => intro hi; exact Nat.or_lt_two_pow (ih (by omega)) (hL i (by omega))
theorem fr_cov_lm {e : Nat → Nat} {n K : Nat} {L : Nat → Nat} (hK : 0 < K) (hL : ∀ p, p < K → L p < 2 ^ n) : fr_cov e n (fr_lm K L) ↔ (∀ p, p < K → fr_cs e n (L p) = true) ∧ fr_un L K = 2 ^ n - 1 ∧ ∀ i, i < K → ∀ a, a < 2 → ∃ p, p < K ∧ L p &&& fr_im e (L i) a n = fr_im e (L i) a n := by
  rw [fr_all (fr_un_lt hL K (Nat.le_refl K))]
  constructor
  · rintro ⟨h1, h2, h3⟩
    refine ⟨fun p hp => ?_, fun s hs => ?_, fun i hi a ha => ?_⟩
    · by_cases h0 : L p = 0
      · rw [h0]; exact fr_cs_0 e n
      · exact h1 (L p) ⟨h0, p, hp, rfl⟩
    · obtain ⟨d, ⟨_, p, hp, rfl⟩, hd⟩ := h2 s hs
      exact (fr_un_tb K).mpr ⟨p, hp, hd⟩
    · by_cases h0 : L i = 0
      · rw [h0, fr_im_0]
        exact ⟨0, hK, Nat.and_zero _⟩
      · rcases h3 (L i) ⟨h0, i, hi, rfl⟩ a ha with hz | ⟨d, ⟨_, p, hp, rfl⟩, hd⟩
        · rw [hz]
          exact ⟨0, hK, Nat.and_zero _⟩
        · exact ⟨p, hp, hd⟩
  · rintro ⟨h1, h2, h3⟩
    refine ⟨?_, fun s hs => ?_, ?_⟩
    · rintro d ⟨_, p, hp, rfl⟩
      exact h1 p hp
    · obtain ⟨p, hp, hb⟩ := (fr_un_tb K).mp (h2 s hs)
      refine ⟨L p, ⟨?_, p, hp, rfl⟩, hb⟩
      intro h0
      rw [h0, Nat.zero_testBit] at hb
      cases hb
    · rintro d ⟨_, i, hi, rfl⟩ a ha
      obtain ⟨p, hp, hb⟩ := h3 i hi a ha
      by_cases h0 : L p = 0
      · rw [h0, Nat.zero_and] at hb
        exact Or.inl hb.symm
      · exact Or.inr ⟨L p, ⟨h0, p, hp, rfl⟩, hb⟩
/-! how many places of a list hold a set -/
def fr_nz (c : Nat → Nat) : Nat → Nat
  | 0 => 0
  | i + 1 => fr_nz c i + (if c i = 0 then 0 else 1)
theorem fr_nz_s (c : Nat → Nat) (i : Nat) : fr_nz c (i + 1) = fr_nz c i + (if c i = 0 then 0 else 1) := rfl
theorem fr_nz_le (c : Nat → Nat) : ∀ i, fr_nz c i ≤ i := by
  intro i
  induction i with
  | zero => exact Nat.le_refl 0
  | succ i ih => rw [fr_nz_s]; split <;> omega
theorem fr_nz_v {m : Nat} {c : Nat → Nat} (hv : fr_val m c) : ∀ p, p < 5 → (c p = 0 ↔ p + fr_nz c 5 < 5) := by
  obtain ⟨_, _, _, _, _, r0, r1, r2, r3⟩ := fr_val_b hv
  have e5 : fr_nz c 5 = 0 + (if c 0 = 0 then 0 else 1) + (if c 1 = 0 then 0 else 1) + (if c 2 = 0 then 0 else 1) + (if c 3 = 0 then 0 else 1) + (if c 4 = 0 then 0 else 1) := rfl
  have Z : ∀ q, (c q = 0 ∧ (if c q = 0 then (0 : Nat) else 1) = 0) ∨ (c q ≠ 0 ∧ (if c q = 0 then (0 : Nat) else 1) = 1) := by
    intro q
    by_cases h : c q = 0
    · exact Or.inl ⟨h, if_pos h⟩
    · exact Or.inr ⟨h, if_neg h⟩
  have z0 := Z 0
  have z1 := Z 1
  have z2 := Z 2
  have z3 := Z 3
  have z4 := Z 4
  intro p hp
  rw [e5]
  clear Z e5
  generalize (if c 0 = 0 then (0 : Nat) else 1) = x0 at z0 ⊢
  generalize (if c 1 = 0 then (0 : Nat) else 1) = x1 at z1 ⊢
  generalize (if c 2 = 0 then (0 : Nat) else 1) = x2 at z2 ⊢
  generalize (if c 3 = 0 then (0 : Nat) else 1) = x3 at z3 ⊢
  generalize (if c 4 = 0 then (0 : Nat) else 1) = x4 at z4 ⊢
  rcases (show p = 0 ∨ p = 1 ∨ p = 2 ∨ p = 3 ∨ p = 4 by omega) with rfl | rfl | rfl | rfl | rfl <;> omega
theorem fr_cmp {m k c : Nat} (hm : m < 1000) (hk : k < 1000) (hc : c < 1000) : nI m - nI k ≤ nI c ↔ m ≤ c + k := by
  rw [Int32.le_iff_toInt_le, pk_sub_toInt (by omega) (by omega), nI_toInt (by omega)]
  omega
theorem fr_lt_next {e : Nat → Nat} {n p : Nat} {c : Nat → Nat} (hlt : ∀ t, fr_ok e n t → fr_lt c t) (hp : p < 5) (hr : c p + (4 - p) < fr_m e n) (hq : ∀ q, p < q → q < 5 → fr_m e n ≤ c q + (4 - q)) (hv : fr_val (fr_m e n) c) : fr_val (fr_m e n) (fr_nt c p) ∧ (fr_cov e n (fr_mem e n (fr_nt c p)) → fr_best e n (fr_nt c p)) ∧ (¬ fr_cov e n (fr_mem e n (fr_nt c p)) → ∀ t, fr_ok e n t → fr_lt (fr_nt c p) t) := by
  have hle : ∀ t, fr_ok e n t → fr_le (fr_nt c p) t := fun t ht => fr_nt_le ht.1 (hlt t ht) hp hr hq
  have hv' := fr_val_nt hv hp hr
  refine ⟨hv', fun h => ⟨⟨hv', h⟩, hle⟩, fun h t ht => fr_le_lt (hle t ht) ?_⟩
  rintro ⟨q0, q1, q2, q3, q4⟩
  apply h
  have : ∀ d, fr_mem e n (fr_nt c p) d ↔ fr_mem e n t d := by
    intro d
    have K : ∀ q, q < 5 → fr_nt c p q = t q := by
      intro q hq5
      rcases (show q = 0 ∨ q = 1 ∨ q = 2 ∨ q = 3 ∨ q = 4 by omega) with rfl | rfl | rfl | rfl | rfl <;> assumption
    constructor
    · rintro ⟨hd, q, hq5, hx⟩
      exact ⟨hd, q, hq5, by rw [← K q hq5]; exact hx⟩
    · rintro ⟨hd, q, hq5, hx⟩
      exact ⟨hd, q, hq5, by rw [K q hq5]; exact hx⟩
  rw [fr_cov_eq this]
  exact ht.2
end FRV
