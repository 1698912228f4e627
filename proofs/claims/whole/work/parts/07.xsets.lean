section FRX2
variable {n : Nat} {e : Nat → Nat} {fc fm fo fr : Int32} {sl sw im ic cd mx ch cv ak : Nat → Int32}
theorem fr_im_lt32 {c a k : Nat} (hn : n ≤ 5) (he : ∀ i, e i < 3 * (n + 1)) : fr_im e c a k < 32 := Nat.lt_of_lt_of_le (fr_im_lt he c a k) (fr_2n hn)
theorem fr_xns {post : Int32 → Prop} {c a : Nat} (hn : n ≤ 5) (he : ∀ i, e i < 3 * (n + 1)) (hc : c < 2 ^ n) (ha : a < 2) (h : post (nI (fr_im e c a n))) : wpX_nextStatesOf post ((nI n), (nI (2 ^ n - 1)), fc, fm, fo, fr, (fun i => nI (e i)), sl, sw, im, ic, cd, mx, ch, cv, ak) (nI c) (nI a) := by
  have hc2 : c < 32 := Nat.lt_of_lt_of_le hc (fr_2n hn)
  unfold wpX_nextStatesOf
  dsimp only
  refine pk_loop (fun N s (z : Int32) => wX_nextStatesOf_5 post (nI c) (nI a) (nI n) (nI (2 ^ n - 1)) fc fm fo fr (fun i => nI (e i)) sl sw im ic cd mx ch cv ak N z (nI s)) (fun s z => z = nI (fr_im e c a s)) n 0 0 (by omega) rfl ?_ ?_
  · rintro N z rfl
    exact br_t (nI_le (Nat.le_refl n) (by omega)) h
  · rintro N s z hs rfl hk
    refine br_f (nI_ge hs (by omega)) ?_
    refine fr_xnx hn he (by omega) ha ?_
    have b := fr_nx_le he s a
    rw [fr_bit (by omega) (by omega), fr_dn_m (by omega)]
    by_cases h1 : c.testBit s = true
    · refine br_t h1 ?_
      by_cases h2 : fr_nx e s a = 0
      · refine br_t h2 (nm_r (nI_1 s) (hk _ ?_))
        rw [fr_im_s, if_neg (fun z => z.2 h2)]
      · refine br_f h2 ?_
        rw [fr_dn_p h2, fr_shl (by omega), fr_or32]
        refine nm_e (nm_r (nI_1 s) (hk _ ?_))
        rw [fr_im_s, if_pos ⟨h1, h2⟩]
    · refine br_f h1 (nm_r (nI_1 s) (hk _ ?_))
      rw [fr_im_s, if_neg (fun z => h1 z.1)]
def fr_I (n : Nat) (e : Nat → Nat) (im : Nat → Int32) (k : Nat) : Prop := ∀ c a, c < k → a < 2 → im (2 * c + a) = nI (fr_im e c a n)
theorem fr_xfi {post : SX → Prop} (hn2 : 2 ≤ n) (hn : n ≤ 5) (he : ∀ i, e i < 3 * (n + 1)) (h0 : im 0 = 0) (h1 : im 1 = 0) (h : ∀ im', fr_I n e im' (2 ^ n) → post ((nI n), (nI (2 ^ n - 1)), fc, fm, fo, fr, (fun i => nI (e i)), sl, sw, im', ic, cd, mx, ch, cv, ak)) : wpX_findImpliedSets post ((nI n), (nI (2 ^ n - 1)), fc, fm, fo, fr, (fun i => nI (e i)), sl, sw, im, ic, cd, mx, ch, cv, ak) := by
  have hp := fr_2n hn
  have hp4 := fr_2n4 hn2
  unfold wpX_findImpliedSets
  dsimp only
  have hI0 : fr_I n e im 1 := by
    intro c a hc ha
    obtain rfl : c = 0 := by omega
    rw [fr_im_0]
    rcases (show a = 0 ∨ a = 1 by omega) with rfl | rfl
    · exact h0
    · exact h1
  refine pk_loop (fun N i (z : Nat → Int32) => wX_findImpliedSets_2 post (nI n) (nI (2 ^ n - 1)) fc fm fo fr N (nI i) (fun i => nI (e i)) sl sw z ic cd mx ch cv ak) (fun i z => fr_I n e z i) (2 ^ n) 1 im (by omega) hI0 ?_ ?_
  · rintro N z hz
    exact br_t (nI_lt (by omega) (by omega)) (h _ hz)
  · rintro N i z hi hz hk
    refine br_f (nI_nlt (by omega) (by omega)) ?_
    refine pk_loop (fun N2 a (y : Nat → Int32) => wX_findImpliedSets_12 post (wX_findImpliedSets_2 post (nI n) (nI (2 ^ n - 1)) fc fm fo fr N) (nI i) (nI n) (nI (2 ^ n - 1)) fc fm fo fr N2 (nI a) (fun i => nI (e i)) sl sw y ic cd mx ch cv ak) (fun a y => fr_I n e y i ∧ ∀ b, b < a → y (2 * i + b) = nI (fr_im e i b n)) 2 0 z (by omega) ⟨hz, fun b hb => absurd hb (Nat.not_lt_zero b)⟩ ?_ ?_
    · rintro N2 y ⟨hy, hy2⟩
      refine br_t (nI_le (Nat.le_refl 2) (by omega)) (nm_r (nI_1 i) (hk y ?_))
      intro c b hc hb
      by_cases hci : c = i
      · subst hci; exact hy2 b hb
      · exact hy c b (by omega) hb
    · rintro N2 a y ha ⟨hy, hy2⟩ hk2
      refine br_f (nI_ge (b := 2) ha (by omega)) ?_
      refine fr_xns hn he hi ha ?_
      rw [fr_ix2 i a]
      refine ⟨vp_in_nI (by omega) (by omega), ?_⟩
      rw [nI_clamp (by omega)]
      refine nm_e (nm_r (nI_1 a) (hk2 _ ⟨?_, ?_⟩))
      · intro c b hc hb
        rw [pk_un (by omega)]
        exact hy c b hc hb
      · intro b hb
        by_cases hba : b = a
        · subst hba; exact pk_us
        · rw [pk_un (by omega)]; exact hy2 b (by omega)
/-! compatible sets -/
theorem fr_xnt {post : Int32 → Prop} {c : Nat} (hn : n ≤ 5) (hc : c < 2 ^ n) (hT : fr_T n e sl sw 10 0) (h : post (if fr_cs e n c = true then 1 else 0)) : wpX_noTwoSplit post ((nI n), (nI (2 ^ n - 1)), fc, fm, fo, fr, (fun i => nI (e i)), sl, sw, im, ic, cd, mx, ch, cv, ak) (nI c) := by
  have hc2 : c < 32 := Nat.lt_of_lt_of_le hc (fr_2n hn)
  unfold wpX_noTwoSplit
  dsimp only
  refine pk_loop (fun N s (_ : Unit) => wX_noTwoSplit_2 post (nI c) (nI n) (nI (2 ^ n - 1)) fc fm fo fr (fun i => nI (e i)) sl sw im ic cd mx ch cv ak N (nI s)) (fun s _ => ∀ p q, p < s → q < p → c.testBit p = true → c.testBit q = true → fr_sl e 10 p q = 0) n 0 () (by omega) (fun p q hp => absurd hp (Nat.not_lt_zero p)) ?_ ?_
  · rintro N _ hI
    have : fr_cs e n c = true := fr_cs_iff.mpr fun s t hs ht a b => by
      rcases Nat.lt_trichotomy s t with hl | hl | hl
      · rw [fr_sl_sy]; exact hI t s ht hl b a
      · rw [hl]; exact fr_sl_re e 10 t
      · exact hI s t hs hl a b
    rw [if_pos this] at h
    exact br_t (nI_le (Nat.le_refl n) (by omega)) h
  · rintro N s _ hs hI hk
    refine br_f (nI_ge hs (by omega)) ?_
    refine pk_loop (fun N2 t (_ : Unit) => wX_noTwoSplit_12 post (wX_noTwoSplit_2 post (nI c) (nI n) (nI (2 ^ n - 1)) fc fm fo fr (fun i => nI (e i)) sl sw im ic cd mx ch cv ak N) (nI c) (nI s) (nI n) (nI (2 ^ n - 1)) fc fm fo fr (fun i => nI (e i)) sl sw im ic cd mx ch cv ak N2 (nI t)) (fun t _ => ∀ q, q < t → c.testBit s = true → c.testBit q = true → fr_sl e 10 s q = 0) s 0 () (by omega) (fun q hq => absurd hq (Nat.not_lt_zero q)) ?_ ?_
    · rintro N2 _ hJ
      refine br_t (nI_le (Nat.le_refl s) (by omega)) (nm_r (nI_1 s) (hk () ?_))
      intro p q hp hq a b
      by_cases hps : p = s
      · subst hps; exact hJ q hq a b
      · exact hI p q (by omega) hq a b
    · rintro N2 t _ ht hJ hk2
      refine br_f (nI_ge ht (by omega)) ?_
      rw [fr_bit (by omega) (by omega), fr_bit (by omega) (by omega)]
      by_cases b1 : c.testBit s = true
      · refine br_t b1 ?_
        by_cases b2 : c.testBit t = true
        · refine br_t b2 ?_
          refine br_f (by decide) ?_
          rw [fr_ix5]
          refine ⟨vp_in_nI (by omega) (by omega), ?_⟩
          have hb := fr_sl_le e 10 s t
          rw [nI_clamp (by omega), (hT s t hs (by omega)).1, if_neg (by omega)]
          refine pk_eq (fr_sl e 10 s t) 0 (fun z => ?_) (fun z => ?_)
          · refine nm_r (nI_1 t) (hk2 () ?_)
            intro q hq a b
            by_cases hqt : q = t
            · subst hqt; exact z
            · exact hJ q (by omega) a b
          · rw [if_neg (by rw [fr_cs_f hs (by omega) b1 b2 z]; decide)] at h
            exact h
        · refine br_f b2 ?_
          refine br_t rfl (nm_r (nI_1 t) (hk2 () ?_))
          intro q hq a b
          by_cases hqt : q = t
          · subst hqt; exact absurd b b2
          · exact hJ q (by omega) a b
      · refine br_f b1 ?_
        refine br_t rfl (nm_r (nI_1 t) (hk2 () ?_))
        intro q hq a b
        exact absurd a b1
def fr_b (b : Bool) : Int32 := if b = true then 1 else 0
theorem fr_b_0 {b : Bool} : fr_b b = 0 ↔ ¬ b = true := by
  cases b <;> decide
theorem fr_nb (b : Bool) : vp_nar .boolean (if b = true then 1 else 0) = fr_b b := by
  cases b
  · exact fr_nb0
  · exact fr_nb1
def fr_C (n : Nat) (e : Nat → Nat) (ic cd : Nat → Int32) (fc : Int32) (k : Nat) : Prop := (∀ c, c < k + 1 → ic c = fr_b (fr_cs e n c)) ∧ (∀ j, j ≤ fr_ct e n k → cd j = nI (fr_cd e n j)) ∧ fc = nI (fr_ct e n k)
theorem fr_xfc {post : SX → Prop} (hn2 : 2 ≤ n) (hn : n ≤ 5) (hT : fr_T n e sl sw 10 0) (h0 : cd 0 = 0) (h : ∀ ic' cd' fc', fr_C n e ic' cd' fc' (2 ^ n - 1) → post ((nI n), (nI (2 ^ n - 1)), fc', fm, fo, fr, (fun i => nI (e i)), sl, sw, im, ic', cd', mx, ch, cv, ak)) : wpX_findCompatibleSets post ((nI n), (nI (2 ^ n - 1)), fc, fm, fo, fr, (fun i => nI (e i)), sl, sw, im, ic, cd, mx, ch, cv, ak) := by
  have hp := fr_2n hn
  have hp4 := fr_2n4 hn2
  unfold wpX_findCompatibleSets
  dsimp only
  rw [fr_nb1]
  refine nm_e ?_
  refine pk_loop (fun N k (z : Int32 × (Nat → Int32) × (Nat → Int32)) => wX_findCompatibleSets_14 post (nI n) (nI (2 ^ n - 1)) fm fo fr N (nI (k + 1)) z.1 (fun i => nI (e i)) sl sw im z.2.1 z.2.2 mx ch cv ak) (fun k z => fr_C n e z.2.1 z.2.2 z.1 k) (2 ^ n - 1) 0 (0, upd ic 0 1, cd) (by omega) ?_ ?_ ?_
  · refine ⟨fun c hc => ?_, fun j hj => ?_, rfl⟩
    · obtain rfl : c = 0 := by omega
      show upd ic 0 1 0 = _
      rw [pk_us, fr_cs_0]
      rfl
    · have hj' : j ≤ 0 := hj
      obtain rfl : j = 0 := by omega
      rw [fr_cd_0]
      exact h0
  · rintro N ⟨fc, ic, cd⟩ hI
    exact br_t (nI_lt (by omega) (by omega)) (h _ _ _ hI)
  · rintro N k ⟨fc, ic, cd⟩ hk1 ⟨hI1, hI2, hI3⟩ hk
    dsimp only at hI1 hI2 hI3
    refine br_f (nI_nlt (by omega) (by omega)) ?_
    refine fr_xnt hn (by omega) hT ?_
    have hin : vp_in (nI (k + 1)) 32 := vp_in_nI (by omega) (by omega)
    rw [fr_nb]
    refine ⟨hin, nm_e ⟨hin, ?_⟩⟩
    rw [nI_clamp (by omega), pk_us, fr_b_0]
    have hcl := fr_ct_le e n k
    have A : ∀ c, c < k + 1 + 1 → upd ic (k + 1) (fr_b (fr_cs e n (k + 1))) c = fr_b (fr_cs e n c) := by
      intro c hc
      by_cases hck : c = k + 1
      · subst hck; exact pk_us
      · rw [pk_un hck]; exact hI1 c (by omega)
    by_cases hcs : fr_cs e n (k + 1) = true
    · refine br_f (fun z => z hcs) ?_
      have hct : fr_ct e n (k + 1) = fr_ct e n k + 1 := by rw [fr_ct_s, if_pos hcs]
      rw [hI3, nI_1]
      refine nm_e ⟨vp_in_nI (by omega) (by omega), ?_⟩
      rw [nI_clamp (by omega)]
      refine nm_e (nm_r (nI_1 (k + 1)) (hk (nI (fr_ct e n k + 1), upd ic (k + 1) (fr_b (fr_cs e n (k + 1))), upd cd (fr_ct e n k + 1) (nI (k + 1))) ⟨A, fun j hj => ?_, ?_⟩))
      · dsimp only
        by_cases hjk : j = fr_ct e n k + 1
        · subst hjk
          rw [pk_us, ← hct, (fr_cd_ct (by omega) (by omega) hcs).2.2]
        · rw [pk_un hjk]
          exact hI2 j (by omega)
      · dsimp only
        rw [hct]
    · refine br_t hcs (nm_r (nI_1 (k + 1)) (hk (_, _, _) ⟨A, fun j hj => ?_, ?_⟩))
      · have hct : fr_ct e n (k + 1) = fr_ct e n k := by rw [fr_ct_s, if_neg hcs]; rfl
        exact hI2 j (by omega)
      · have hct : fr_ct e n (k + 1) = fr_ct e n k := by rw [fr_ct_s, if_neg hcs]; rfl
        dsimp only
        rw [hct]
        exact hI3
/-! maximal sets -/
theorem fr_or_eq {c s : Nat} : c ||| 2 ^ s = c ↔ c.testBit s = true := by
  constructor
  · intro h
    rw [← h, Nat.testBit_or, Nat.testBit_two_pow, decide_eq_true rfl, Bool.or_true]
  · intro h
    apply Nat.eq_of_testBit_eq
    intro r
    rw [Nat.testBit_or, Nat.testBit_two_pow]
    by_cases hr : s = r
    · subst hr; rw [h]; rfl
    · rw [decide_eq_false hr, Bool.or_false]
theorem fr_xcg {post : Int32 → Prop} {c : Nat} (hn : n ≤ 5) (hc : c < 2 ^ n) (hC : ∀ c, c < 2 ^ n → ic c = fr_b (fr_cs e n c)) (hcs : fr_cs e n c = true) (h : post (if fr_mx e n c = true then 0 else 1)) : wpX_canGrow post ((nI n), (nI (2 ^ n - 1)), fc, fm, fo, fr, (fun i => nI (e i)), sl, sw, im, ic, cd, mx, ch, cv, ak) (nI c) := by
  have hp := fr_2n hn
  unfold wpX_canGrow
  dsimp only
  refine pk_loop (fun N s (_ : Unit) => wX_canGrow_2 post (nI c) (nI n) (nI (2 ^ n - 1)) fc fm fo fr (fun i => nI (e i)) sl sw im ic cd mx ch cv ak N (nI s)) (fun s _ => ∀ r, r < s → c.testBit r = false → fr_cs e n (c ||| 2 ^ r) = false) n 0 () (by omega) (fun r hr => absurd hr (Nat.not_lt_zero r)) ?_ ?_
  · rintro N _ hI
    rw [if_pos (fr_mx_iff.mpr ⟨hcs, hI⟩)] at h
    exact br_t (nI_le (Nat.le_refl n) (by omega)) h
  · rintro N s _ hs hI hk
    refine br_f (nI_ge hs (by omega)) ?_
    have hlt : c ||| 2 ^ s < 2 ^ n := Nat.or_lt_two_pow hc (Nat.pow_lt_pow_right (by decide) hs)
    rw [fr_shl (by omega), fr_or32]
    refine nm_e ?_
    rw [nI_eq (by omega) (by omega), fr_or_eq]
    by_cases hb : c.testBit s = true
    · refine br_t hb (nm_r (nI_1 s) (hk () ?_))
      intro r hr hrb
      by_cases hrs : r = s
      · subst hrs; rw [hb] at hrb; cases hrb
      · exact hI r (by omega) hrb
    · refine br_f hb ⟨vp_in_nI (by omega) (by omega), ?_⟩
      rw [nI_clamp (by omega), hC _ hlt, fr_b_0]
      by_cases hg : fr_cs e n (c ||| 2 ^ s) = true
      · refine br_f (fun z => z hg) ?_
        rw [if_neg] at h
        · exact h
        · intro z
          have := (fr_mx_iff.mp z).2 s hs (fr_bf hb)
          rw [hg] at this
          cases this
      · refine br_t hg (nm_r (nI_1 s) (hk () ?_))
        intro r hr hrb
        by_cases hrs : r = s
        · subst hrs; exact fr_bf hg
        · exact hI r (by omega) hrb
def fr_M (n : Nat) (e : Nat → Nat) (mx : Nat → Int32) (fm : Int32) (k : Nat) : Prop := (∀ c, c < k → fr_mx e n (c + 1) = true → mx (fr_mc e n c) = nI (c + 1)) ∧ fm = nI (fr_mc e n k)
theorem fr_xfm {post : SX → Prop} (hn2 : 2 ≤ n) (hn : n ≤ 5) (hC : ∀ c, c < 2 ^ n → ic c = fr_b (fr_cs e n c)) (h : ∀ mx' fm', fr_M n e mx' fm' (2 ^ n - 1) → post ((nI n), (nI (2 ^ n - 1)), fc, fm', fo, fr, (fun i => nI (e i)), sl, sw, im, ic, cd, mx', ch, cv, ak)) : wpX_findMaximalSets post ((nI n), (nI (2 ^ n - 1)), fc, fm, fo, fr, (fun i => nI (e i)), sl, sw, im, ic, cd, mx, ch, cv, ak) := by
  have hp := fr_2n hn
  have hp4 := fr_2n4 hn2
  unfold wpX_findMaximalSets
  dsimp only
  refine pk_loop (fun N k (z : Int32 × (Nat → Int32)) => wX_findMaximalSets_7 post (nI n) (nI (2 ^ n - 1)) fc fo fr N (nI (k + 1)) z.1 (fun i => nI (e i)) sl sw im ic cd z.2 ch cv ak) (fun k z => fr_M n e z.2 z.1 k) (2 ^ n - 1) 0 (0, mx) (by omega) ⟨fun c hc => absurd hc (Nat.not_lt_zero c), rfl⟩ ?_ ?_
  · rintro N ⟨fm, mx⟩ hI
    exact br_t (nI_lt (by omega) (by omega)) (h _ _ hI)
  · rintro N k ⟨fm, mx⟩ hk1 ⟨hI1, hI2⟩ hk
    dsimp only at hI1 hI2
    have hin : vp_in (nI (k + 1)) 32 := vp_in_nI (by omega) (by omega)
    have hml := fr_mc_le e n k
    refine br_f (nI_nlt (by omega) (by omega)) ⟨hin, ?_⟩
    rw [nI_clamp (by omega), hC _ (by omega), fr_b_0]
    have K : ∀ (hm : ¬ fr_mx e n (k + 1) = true), fr_M n e mx fm (k + 1) := by
      intro hm
      have e1 : fr_mc e n (k + 1) = fr_mc e n k := by rw [fr_mc_s, if_neg hm]; rfl
      refine ⟨fun c hc hcm => ?_, by rw [e1]; exact hI2⟩
      by_cases hck : c = k
      · subst hck; exact absurd hcm hm
      · exact hI1 c (by omega) hcm
    by_cases hcs : fr_cs e n (k + 1) = true
    · refine br_f (fun z => z hcs) ?_
      refine fr_xcg hn (by omega) hC hcs ?_
      by_cases hm : fr_mx e n (k + 1) = true
      · rw [if_pos hm]
        have e1 : fr_mc e n (k + 1) = fr_mc e n k + 1 := by rw [fr_mc_s, if_pos hm]
        rw [hI2]
        refine br_t rfl ⟨vp_in_nI (by omega) (by omega), ?_⟩
        rw [nI_clamp (by omega)]
        refine nm_e (nm_r (nI_1 _) (nm_r (nI_1 (k + 1)) (hk (nI (fr_mc e n k + 1), upd mx (fr_mc e n k) (nI (k + 1))) ⟨fun c hc hcm => ?_, ?_⟩)))
        · dsimp only
          by_cases hck : c = k
          · subst hck; exact pk_us
          · rw [pk_un]
            · exact hI1 c (by omega) hcm
            · have e2 : fr_mc e n (c + 1) = fr_mc e n c + 1 := by rw [fr_mc_s, if_pos hcm]
              have := fr_mc_mono e n (c + 1) (k - (c + 1))
              rw [show c + 1 + (k - (c + 1)) = k by omega] at this
              omega
        · dsimp only
          rw [e1]
      · rw [if_neg hm]
        refine br_f (by decide) (nm_r (nI_1 (k + 1)) (hk (_, _) (K hm)))
    · exact br_t hcs (nm_r (nI_1 (k + 1)) (hk (_, _) (K (fun z => hcs (fr_mx_iff.mp z).1))))
end FRX2
