section FRQ
variable {n : Nat} {e : Nat → Nat} {fc fm fo fr : Int32} {sl sw im ic cd mx ch cv ak : Nat → Int32} {ft fz : Int32} {fi cz : Nat → Int32}
theorem fr_xsb {post : Int32 → Prop} {x : Int32} (h : x < 0 ∨ nI n ≤ x) (hp : post 0) : wpX_isState post ((nI n), (nI (2 ^ n - 1)), fc, fm, fo, fr, (fun i => nI (e i)), sl, sw, im, ic, cd, mx, ch, cv, ak) x := by
  unfold wpX_isState
  dsimp only
  by_cases h1 : x < 0
  · exact br_t h1 hp
  · exact br_f h1 (br_t (h.resolve_left h1) hp)
theorem fr_xsg {post : Int32 → Prop} {j : Nat} (hn : n ≤ 5) (h : j < n) (hp : post 1) : wpX_isState post ((nI n), (nI (2 ^ n - 1)), fc, fm, fo, fr, (fun i => nI (e i)), sl, sw, im, ic, cd, mx, ch, cv, ak) (nI j) := by
  unfold wpX_isState
  dsimp only
  exact br_f (nI_pos (by omega)) (br_f (nI_ge h (by omega)) hp)
theorem fr_ysb {post : Int32 → Prop} {x : Int32} (h : x < 0 ∨ nI n ≤ x) (hp : post 1) : wpY_badState post ((nI n), ft, fz, (fun i => nI (e i)), fi, cz) x := by
  unfold wpY_badState
  dsimp only
  by_cases h1 : x < 0
  · exact br_t h1 hp
  · exact br_f h1 (br_t (h.resolve_left h1) hp)
theorem fr_ysg {post : Int32 → Prop} {j : Nat} (hn : n ≤ 5) (h : j < n) (hp : post 0) : wpY_badState post ((nI n), ft, fz, (fun i => nI (e i)), fi, cz) (nI j) := by
  unfold wpY_badState
  dsimp only
  exact br_f (nI_pos (by omega)) (br_f (nI_ge h (by omega)) (br_t (nI_lt (b := 5) (by omega) (by omega)) hp))
theorem fr_xib {post : Int32 → Prop} {x : Int32} (h : x < 0 ∨ nI 2 ≤ x) (hp : post 0) : wpX_isInput post x := by
  have h0 : ¬ x = 0 := by
    rintro rfl
    revert h
    decide
  have h1 : ¬ x = 1 := by
    rintro rfl
    revert h
    decide
  exact br_f h0 (br_f h1 hp)
theorem fr_xig {post : Int32 → Prop} {a : Nat} (h : a < 2) (hp : post 1) : wpX_isInput post (nI a) := by
  rcases (show a = 0 ∨ a = 1 by omega) with rfl | rfl
  · exact br_t rfl hp
  · exact br_f (by decide) (br_t rfl hp)
theorem fr_yib {post : Int32 → Prop} {x : Int32} (h : x < 0 ∨ nI 2 ≤ x) (hp : post 1) : wpY_badInput post ((nI n), ft, fz, (fun i => nI (e i)), fi, cz) x := by
  unfold wpY_badInput
  dsimp only
  by_cases h1 : x < 0
  · exact br_t h1 hp
  · have h2 : ¬ x ≤ 1 := fun z => absurd (Int32.le_trans (h.resolve_left h1) z) (by decide)
    exact br_f h1 (br_f h2 hp)
theorem fr_yig {post : Int32 → Prop} {a : Nat} (h : a < 2) (hp : post 0) : wpY_badInput post ((nI n), ft, fz, (fun i => nI (e i)), fi, cz) (nI a) := by
  unfold wpY_badInput
  dsimp only
  exact br_f (nI_pos (by omega)) (br_t (nI_le (b := 1) (by omega) (by omega)) hp)
theorem fr_lt_le {a b : Nat} {x : Int32} (hb : b < 2 ^ 31) (hab : a < b) (h : nI b ≤ x) : nI a < x := by
  rw [Int32.le_iff_toInt_le, nI_toInt hb] at h
  rw [Int32.lt_iff_toInt_lt, nI_toInt (by omega)]
  omega
theorem fr_sx (x : Int32) {n : Nat} (hn : n ≤ 5) : (x < 1 ∨ nI (2 ^ n) ≤ x) ∨ ∃ c, 1 ≤ c ∧ c < 2 ^ n ∧ x = nI c := by
  have hp := fr_2n hn
  rcases pk_ix x (n := 2 ^ n) (by omega) with h | h | ⟨c, hc, rfl⟩
  · left; left
    rw [Int32.lt_iff_toInt_lt] at h ⊢
    rw [show (0 : Int32).toInt = 0 by decide] at h
    rw [show (1 : Int32).toInt = 1 by decide]
    omega
  · left; right; exact h
  · by_cases h0 : c = 0
    · subst h0
      left; left
      decide
    · right
      exact ⟨c, by omega, hc, rfl⟩
theorem fr_xeb {post : Int32 → Prop} {x : Int32} (hn : n ≤ 5) (h : x < 1 ∨ nI (2 ^ n) ≤ x) (hp : post 0) : wpX_isSet post ((nI n), (nI (2 ^ n - 1)), fc, fm, fo, fr, (fun i => nI (e i)), sl, sw, im, ic, cd, mx, ch, cv, ak) x := by
  have h2 := fr_2n hn
  have := Nat.two_pow_pos n
  unfold wpX_isSet
  dsimp only
  by_cases h1 : x < 1
  · exact br_t h1 hp
  · exact br_f h1 (br_t (fr_lt_le (by omega) (by omega) (h.resolve_left h1)) hp)
theorem fr_xeg {post : Int32 → Prop} {c : Nat} (hn : n ≤ 5) (h0 : 1 ≤ c) (h : c < 2 ^ n) (hp : post 1) : wpX_isSet post ((nI n), (nI (2 ^ n - 1)), fc, fm, fo, fr, (fun i => nI (e i)), sl, sw, im, ic, cd, mx, ch, cv, ak) (nI c) := by
  have h2 := fr_2n hn
  unfold wpX_isSet
  dsimp only
  exact br_f (nI_nlt (b := 1) (by omega) (by omega)) (br_f (nI_nlt (by omega) (by omega)) hp)
theorem fr_yeb {post : Int32 → Prop} {x : Int32} (hn : n ≤ 5) (h : x < 1 ∨ nI (2 ^ n) ≤ x) (hp : post 1) : wpY_badSet post ((nI n), ft, fz, (fun i => nI (e i)), fi, cz) x := by
  unfold wpY_badSet
  dsimp only
  rw [fr_shl (by omega)]
  by_cases h1 : x < 1
  · exact br_t h1 hp
  · exact br_f h1 (br_f (Int32.not_lt.mpr (h.resolve_left h1)) hp)
theorem fr_yeg {post : Int32 → Prop} {c : Nat} (hn : n ≤ 5) (h0 : 1 ≤ c) (h : c < 2 ^ n) (hp : post 0) : wpY_badSet post ((nI n), ft, fz, (fun i => nI (e i)), fi, cz) (nI c) := by
  have h2 := fr_2n hn
  unfold wpY_badSet
  dsimp only
  rw [fr_shl (by omega)]
  exact br_f (nI_nlt (b := 1) (by omega) (by omega)) (br_t (nI_lt h (by omega)) hp)
theorem fr_xzb {post : Int32 → Prop} {x : Int32} (hn : n ≤ 5) (h : x < 0 ∨ nI (2 ^ n) ≤ x) (hp : post 0) : wpX_isSetOrZero post ((nI n), (nI (2 ^ n - 1)), fc, fm, fo, fr, (fun i => nI (e i)), sl, sw, im, ic, cd, mx, ch, cv, ak) x := by
  have h2 := fr_2n hn
  have := Nat.two_pow_pos n
  unfold wpX_isSetOrZero
  dsimp only
  by_cases h1 : x < 0
  · exact br_t h1 hp
  · exact br_f h1 (br_t (fr_lt_le (by omega) (by omega) (h.resolve_left h1)) hp)
theorem fr_xzg {post : Int32 → Prop} {c : Nat} (hn : n ≤ 5) (h : c < 2 ^ n) (hp : post 1) : wpX_isSetOrZero post ((nI n), (nI (2 ^ n - 1)), fc, fm, fo, fr, (fun i => nI (e i)), sl, sw, im, ic, cd, mx, ch, cv, ak) (nI c) := by
  have h2 := fr_2n hn
  unfold wpX_isSetOrZero
  dsimp only
  exact br_f (nI_pos (by omega)) (br_f (nI_nlt (by omega) (by omega)) hp)
theorem fr_yzb {post : Int32 → Prop} {x : Int32} (hn : n ≤ 5) (h : x < 0 ∨ nI (2 ^ n) ≤ x) (hp : post 1) : wpY_outside post ((nI n), ft, fz, (fun i => nI (e i)), fi, cz) x := by
  have h2 := fr_2n hn
  have := Nat.two_pow_pos n
  unfold wpY_outside
  dsimp only
  rw [fr_all1 (by omega)]
  by_cases h1 : x < 0
  · exact br_t h1 hp
  · exact br_f h1 (br_f (Int32.not_le.mpr (fr_lt_le (by omega) (by omega) (h.resolve_left h1))) hp)
theorem fr_yzg {post : Int32 → Prop} {c : Nat} (hn : n ≤ 5) (h : c < 2 ^ n) (hp : post 0) : wpY_outside post ((nI n), ft, fz, (fun i => nI (e i)), fi, cz) (nI c) := by
  have h2 := fr_2n hn
  unfold wpY_outside
  dsimp only
  rw [fr_all1 (by omega)]
  exact br_f (nI_pos (by omega)) (br_t (nI_le (by omega) (by omega)) hp)
/-! the maximal sets in their order -/
theorem fr_mc_sur (e : Nat → Nat) (n : Nat) : ∀ D i, i < fr_mc e n D → ∃ c, c < D ∧ fr_mx e n (c + 1) = true ∧ fr_mc e n c = i := by
  intro D
  induction D with
  | zero => intro i hi; exact absurd hi (Nat.not_lt_zero i)
  | succ D ih =>
    intro i hi
    rw [fr_mc_s] at hi
    by_cases hm : fr_mx e n (D + 1) = true
    · rw [if_pos hm] at hi
      by_cases h : i < fr_mc e n D
      · obtain ⟨c, h1, h2, h3⟩ := ih i h
        exact ⟨c, by omega, h2, h3⟩
      · exact ⟨D, by omega, hm, by omega⟩
    · rw [if_neg hm] at hi
      obtain ⟨c, h1, h2, h3⟩ := ih i hi
      exact ⟨c, by omega, h2, h3⟩
theorem fr_mc_lt {c D : Nat} (h : c < D) (hm : fr_mx e n (c + 1) = true) : fr_mc e n c < fr_mc e n D := by
  have h1 := fr_mc_mono e n (c + 1) (D - (c + 1))
  rw [show c + 1 + (D - (c + 1)) = D by omega, fr_mc_s, if_pos hm] at h1
  omega
theorem fr_mc_inj {c d : Nat} (hc : fr_mx e n (c + 1) = true) (hd : fr_mx e n (d + 1) = true) (h : fr_mc e n c = fr_mc e n d) : c = d := by
  rcases Nat.lt_trichotomy c d with hl | hl | hl
  · have := fr_mc_lt hl hc; omega
  · exact hl
  · have := fr_mc_lt hl hd; omega
theorem fr_best_nz {c c' : Nat → Nat} (h : fr_best e n c) (h' : fr_best e n c') : (∀ p, p < 5 → c p = c' p) ∧ fr_nz c 5 = fr_nz c' 5 := by
  obtain ⟨q0, q1, q2, q3, q4⟩ := fr_best_u h h'
  refine ⟨fun p hp => ?_, ?_⟩
  · rcases (show p = 0 ∨ p = 1 ∨ p = 2 ∨ p = 3 ∨ p = 4 by omega) with rfl | rfl | rfl | rfl | rfl <;> assumption
  · show 0 + (if c 0 = 0 then 0 else 1) + (if c 1 = 0 then 0 else 1) + (if c 2 = 0 then 0 else 1) + (if c 3 = 0 then 0 else 1) + (if c 4 = 0 then 0 else 1) = 0 + (if c' 0 = 0 then 0 else 1) + (if c' 1 = 0 then 0 else 1) + (if c' 2 = 0 then 0 else 1) + (if c' 3 = 0 then 0 else 1) + (if c' 4 = 0 then 0 else 1)
    rw [q0, q1, q2, q3, q4]
/-! the relation -/
def fr_R (n : Nat) (e : Nat → Nat) (fc fm fo fr : Int32) (sl sw im ic cd mx cv ak : Nat → Int32) : Prop := 2 ≤ n ∧ n ≤ 5 ∧ (∀ i, e i < 3 * (n + 1)) ∧ fr_W n e fc fm fo sl sw im ic cd mx cv ∧ ak 3 = 0 ∧ ak 4 = 0 ∧ (fr = -1 ∨ ∃ s, s < n ∧ fr = nI s)
theorem fr_W_0 (hW : fr_W n e fc fm fo sl sw im ic cd mx cv) : im 0 = 0 ∧ im 1 = 0 ∧ cd 0 = 0 := by
  obtain ⟨_, hI, hC, _⟩ := hW
  have hp := Nat.two_pow_pos n
  have h0 := hI 0 0 hp (by omega)
  have h1 := hI 0 1 hp (by omega)
  rw [fr_im_0] at h0 h1
  have h2 := hC.2.1 0 (Nat.zero_le _)
  rw [fr_cd_0] at h2
  exact ⟨h0, h1, h2⟩
end FRQ
