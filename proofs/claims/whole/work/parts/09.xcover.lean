section FRX3
variable {n : Nat} {e : Nat → Nat} {fc fm fo fr : Int32} {sl sw im ic cd mx ch cv ak : Nat → Int32}
theorem fr_xpo_cover {post : Int32 → Prop} {r : Nat} {L : Nat → Nat} (hr : r < 1000) (hL : ∀ p, p < 5 → cv p = nI (L p)) (h1 : (∃ p, p < 5 ∧ L p &&& r = r) → post 1) (h0 : (¬ ∃ p, p < 5 ∧ L p &&& r = r) → post 0) : wpX_isPartOfOne__cover post ((nI n), (nI (2 ^ n - 1)), fc, fm, fo, fr, (fun i => nI (e i)), sl, sw, im, ic, cd, mx, ch, cv, ak) (nI r) := by
  unfold wpX_isPartOfOne__cover
  dsimp only
  refine pk_loop (fun N i (_ : Unit) => wX_isPartOfOne__cover_2 post (nI r) (nI n) (nI (2 ^ n - 1)) fc fm fo fr (fun i => nI (e i)) sl sw im ic cd mx ch cv ak N (nI i)) (fun i _ => ∀ p, p < i → ¬ L p &&& r = r) 5 0 () (by omega) (fun p hp => absurd hp (Nat.not_lt_zero p)) ?_ ?_
  · rintro N _ hI
    refine br_t (nI_le (Nat.le_refl 5) (by omega)) (h0 ?_)
    rintro ⟨p, hp, h⟩
    exact hI p hp h
  · rintro N i _ hi hI hk
    refine br_f (nI_ge (b := 5) hi (by omega)) ⟨vp_in_nI hi (by omega), ?_⟩
    rw [nI_clamp (by omega), hL i hi, fr_part (by omega)]
    by_cases h : L i &&& r = r
    · exact br_t h (h1 ⟨i, hi, h⟩)
    · refine br_f h (nm_r (nI_1 i) (hk () ?_))
      intro p hp
      by_cases hpi : p = i
      · subst hpi; exact h
      · exact hI p (by omega)
theorem fr_xmc_cover {post : Int32 → Prop} {L : Nat → Nat} (hn : n ≤ 5) (he : ∀ i, e i < 3 * (n + 1)) (hI : fr_I n e im (2 ^ n)) (hC : ∀ c, c < 2 ^ n → ic c = fr_b (fr_cs e n c)) (hL : ∀ p, p < 5 → cv p = nI (L p)) (hLn : ∀ p, p < 5 → L p < 2 ^ n) (h1 : fr_cov e n (fr_lm 5 L) → post 1) (h0 : ¬ fr_cov e n (fr_lm 5 L) → post 0) : wpX_makesCover__cover post ((nI n), (nI (2 ^ n - 1)), fc, fm, fo, fr, (fun i => nI (e i)), sl, sw, im, ic, cd, mx, ch, cv, ak) := by
  have hp := fr_2n hn
  rw [fr_cov_lm (by omega) hLn] at h1 h0
  unfold wpX_makesCover__cover
  dsimp only
  refine pk_loop (fun N i (z : Int32) => wX_makesCover__cover_4 post (nI n) (nI (2 ^ n - 1)) fc fm fo fr (fun i => nI (e i)) sl sw im ic cd mx ch cv ak N z (nI i)) (fun i z => z = nI (fr_un L i) ∧ ∀ p, p < i → fr_cs e n (L p) = true) 5 0 0 (by omega) ⟨rfl, fun p hp => absurd hp (Nat.not_lt_zero p)⟩ ?_ ?_
  · rintro N z ⟨rfl, hcs⟩
    refine br_t (nI_le (Nat.le_refl 5) (by omega)) ?_
    have hu := fr_un_lt hLn 5 (Nat.le_refl 5)
    refine pk_eq (fr_un L 5) (2 ^ n - 1) (fun hall => ?_) (fun hall => h0 (fun z => hall z.2.1))
    refine pk_loop (fun N i (_ : Unit) => wX_makesCover__cover_46 post (nI n) (nI (2 ^ n - 1)) fc fm fo fr (fun i => nI (e i)) sl sw im ic cd mx ch cv ak N (nI i)) (fun i _ => ∀ q, q < i → ∀ a, a < 2 → ∃ p, p < 5 ∧ L p &&& fr_im e (L q) a n = fr_im e (L q) a n) 5 0 () (by omega) (fun p hp => absurd hp (Nat.not_lt_zero p)) ?_ ?_
    · rintro N2 _ hJ
      exact br_t (nI_le (Nat.le_refl 5) (by omega)) (h1 ⟨hcs, hall, hJ⟩)
    · rintro N2 i _ hi hJ hk
      refine br_f (nI_ge (b := 5) hi (by omega)) ?_
      refine pk_loop (fun N3 a (_ : Unit) => wX_makesCover__cover_54 post (wX_makesCover__cover_46 post (nI n) (nI (2 ^ n - 1)) fc fm fo fr (fun i => nI (e i)) sl sw im ic cd mx ch cv ak N2) (nI i) (nI n) (nI (2 ^ n - 1)) fc fm fo fr (fun i => nI (e i)) sl sw im ic cd mx ch cv ak N3 (nI a)) (fun a _ => ∀ b, b < a → ∃ p, p < 5 ∧ L p &&& fr_im e (L i) b n = fr_im e (L i) b n) 2 0 () (by omega) (fun p hp => absurd hp (Nat.not_lt_zero p)) ?_ ?_
      · rintro N3 _ hK
        refine br_t (nI_le (Nat.le_refl 2) (by omega)) (nm_r (nI_1 i) (hk () ?_))
        intro q hq a ha
        by_cases hqi : q = i
        · subst hqi; exact hK a ha
        · exact hJ q (by omega) a ha
      · rintro N3 a _ ha hK hk3
        refine br_f (nI_ge (b := 2) ha (by omega)) ⟨vp_in_nI hi (by omega), ?_⟩
        have hb := hLn i hi
        have him := fr_im_lt he (L i) a n
        rw [nI_clamp (by omega), hL i hi, fr_ix2]
        refine ⟨vp_in_nI (by omega) (by omega), ?_⟩
        rw [nI_clamp (by omega), hI (L i) a hb ha]
        refine nm_e ?_
        refine fr_xpo_cover (by omega) hL (fun hx => ?_) (fun hx => ?_)
        · refine br_f (by decide) (nm_r (nI_1 a) (hk3 () ?_))
          intro b hb
          by_cases hba : b = a
          · subst hba; exact hx
          · exact hK b (by omega)
        · exact br_t rfl (h0 (fun z => hx (z.2.2 i hi a ha)))
  · rintro N i z hi ⟨rfl, hcs⟩ hk
    have hb := hLn i hi
    refine br_f (nI_ge (b := 5) hi (by omega)) ⟨vp_in_nI hi (by omega), ?_⟩
    rw [nI_clamp (by omega), hL i hi]
    refine ⟨vp_in_nI (by omega) (by omega), ?_⟩
    rw [nI_clamp (by omega), hC _ hb, fr_b_0]
    by_cases hx : fr_cs e n (L i) = true
    · refine br_f (fun z => z hx) ⟨vp_in_nI hi (by omega), ?_⟩
      rw [fr_or32]
      refine nm_e (nm_r (nI_1 i) (hk _ ⟨rfl, ?_⟩))
      intro p hp
      by_cases hpi : p = i
      · subst hpi; exact hx
      · exact hcs p (by omega)
    · exact br_t hx (h0 (fun z => hx (z.1 i hi)))
theorem fr_xpo_asked {post : Int32 → Prop} {r : Nat} {L : Nat → Nat} (hr : r < 1000) (hL : ∀ p, p < 5 → ak p = nI (L p)) (h1 : (∃ p, p < 5 ∧ L p &&& r = r) → post 1) (h0 : (¬ ∃ p, p < 5 ∧ L p &&& r = r) → post 0) : wpX_isPartOfOne__asked post ((nI n), (nI (2 ^ n - 1)), fc, fm, fo, fr, (fun i => nI (e i)), sl, sw, im, ic, cd, mx, ch, cv, ak) (nI r) := by
  unfold wpX_isPartOfOne__asked
  dsimp only
  refine pk_loop (fun N i (_ : Unit) => wX_isPartOfOne__asked_2 post (nI r) (nI n) (nI (2 ^ n - 1)) fc fm fo fr (fun i => nI (e i)) sl sw im ic cd mx ch cv ak N (nI i)) (fun i _ => ∀ p, p < i → ¬ L p &&& r = r) 5 0 () (by omega) (fun p hp => absurd hp (Nat.not_lt_zero p)) ?_ ?_
  · rintro N _ hI
    refine br_t (nI_le (Nat.le_refl 5) (by omega)) (h0 ?_)
    rintro ⟨p, hp, h⟩
    exact hI p hp h
  · rintro N i _ hi hI hk
    refine br_f (nI_ge (b := 5) hi (by omega)) ⟨vp_in_nI hi (by omega), ?_⟩
    rw [nI_clamp (by omega), hL i hi, fr_part (by omega)]
    by_cases h : L i &&& r = r
    · exact br_t h (h1 ⟨i, hi, h⟩)
    · refine br_f h (nm_r (nI_1 i) (hk () ?_))
      intro p hp
      by_cases hpi : p = i
      · subst hpi; exact h
      · exact hI p (by omega)
theorem fr_xmc_asked {post : Int32 → Prop} {L : Nat → Nat} (hn : n ≤ 5) (he : ∀ i, e i < 3 * (n + 1)) (hI : fr_I n e im (2 ^ n)) (hC : ∀ c, c < 2 ^ n → ic c = fr_b (fr_cs e n c)) (hL : ∀ p, p < 5 → ak p = nI (L p)) (hLn : ∀ p, p < 5 → L p < 2 ^ n) (h1 : fr_cov e n (fr_lm 5 L) → post 1) (h0 : ¬ fr_cov e n (fr_lm 5 L) → post 0) : wpX_makesCover__asked post ((nI n), (nI (2 ^ n - 1)), fc, fm, fo, fr, (fun i => nI (e i)), sl, sw, im, ic, cd, mx, ch, cv, ak) := by
  have hp := fr_2n hn
  rw [fr_cov_lm (by omega) hLn] at h1 h0
  unfold wpX_makesCover__asked
  dsimp only
  refine pk_loop (fun N i (z : Int32) => wX_makesCover__asked_4 post (nI n) (nI (2 ^ n - 1)) fc fm fo fr (fun i => nI (e i)) sl sw im ic cd mx ch cv ak N z (nI i)) (fun i z => z = nI (fr_un L i) ∧ ∀ p, p < i → fr_cs e n (L p) = true) 5 0 0 (by omega) ⟨rfl, fun p hp => absurd hp (Nat.not_lt_zero p)⟩ ?_ ?_
  · rintro N z ⟨rfl, hcs⟩
    refine br_t (nI_le (Nat.le_refl 5) (by omega)) ?_
    have hu := fr_un_lt hLn 5 (Nat.le_refl 5)
    refine pk_eq (fr_un L 5) (2 ^ n - 1) (fun hall => ?_) (fun hall => h0 (fun z => hall z.2.1))
    refine pk_loop (fun N i (_ : Unit) => wX_makesCover__asked_46 post (nI n) (nI (2 ^ n - 1)) fc fm fo fr (fun i => nI (e i)) sl sw im ic cd mx ch cv ak N (nI i)) (fun i _ => ∀ q, q < i → ∀ a, a < 2 → ∃ p, p < 5 ∧ L p &&& fr_im e (L q) a n = fr_im e (L q) a n) 5 0 () (by omega) (fun p hp => absurd hp (Nat.not_lt_zero p)) ?_ ?_
    · rintro N2 _ hJ
      exact br_t (nI_le (Nat.le_refl 5) (by omega)) (h1 ⟨hcs, hall, hJ⟩)
    · rintro N2 i _ hi hJ hk
      refine br_f (nI_ge (b := 5) hi (by omega)) ?_
      refine pk_loop (fun N3 a (_ : Unit) => wX_makesCover__asked_54 post (wX_makesCover__asked_46 post (nI n) (nI (2 ^ n - 1)) fc fm fo fr (fun i => nI (e i)) sl sw im ic cd mx ch cv ak N2) (nI i) (nI n) (nI (2 ^ n - 1)) fc fm fo fr (fun i => nI (e i)) sl sw im ic cd mx ch cv ak N3 (nI a)) (fun a _ => ∀ b, b < a → ∃ p, p < 5 ∧ L p &&& fr_im e (L i) b n = fr_im e (L i) b n) 2 0 () (by omega) (fun p hp => absurd hp (Nat.not_lt_zero p)) ?_ ?_
      · rintro N3 _ hK
        refine br_t (nI_le (Nat.le_refl 2) (by omega)) (nm_r (nI_1 i) (hk () ?_))
        intro q hq a ha
        by_cases hqi : q = i
        · subst hqi; exact hK a ha
        · exact hJ q (by omega) a ha
      · rintro N3 a _ ha hK hk3
        refine br_f (nI_ge (b := 2) ha (by omega)) ⟨vp_in_nI hi (by omega), ?_⟩
        have hb := hLn i hi
        have him := fr_im_lt he (L i) a n
        rw [nI_clamp (by omega), hL i hi, fr_ix2]
        refine ⟨vp_in_nI (by omega) (by omega), ?_⟩
        rw [nI_clamp (by omega), hI (L i) a hb ha]
        refine nm_e ?_
        refine fr_xpo_asked (by omega) hL (fun hx => ?_) (fun hx => ?_)
        · refine br_f (by decide) (nm_r (nI_1 a) (hk3 () ?_))
          intro b hb
          by_cases hba : b = a
          · subst hba; exact hx
          · exact hK b (by omega)
        · exact br_t rfl (h0 (fun z => hx (z.2.2 i hi a ha)))
  · rintro N i z hi ⟨rfl, hcs⟩ hk
    have hb := hLn i hi
    refine br_f (nI_ge (b := 5) hi (by omega)) ⟨vp_in_nI hi (by omega), ?_⟩
    rw [nI_clamp (by omega), hL i hi]
    refine ⟨vp_in_nI (by omega) (by omega), ?_⟩
    rw [nI_clamp (by omega), hC _ hb, fr_b_0]
    by_cases hx : fr_cs e n (L i) = true
    · refine br_f (fun z => z hx) ⟨vp_in_nI hi (by omega), ?_⟩
      rw [fr_or32]
      refine nm_e (nm_r (nI_1 i) (hk _ ⟨rfl, ?_⟩))
      intro p hp
      by_cases hpi : p = i
      · subst hpi; exact hx
      · exact hcs p (by omega)
    · exact br_t hx (h0 (fun z => hx (z.1 i hi)))
theorem fr_xtn {post : SX → Prop} {c : Nat → Nat} (hn : n ≤ 5) (hcd : ∀ j, j ≤ fr_m e n → cd j = nI (fr_cd e n j)) (hch : ∀ q, q < 5 → ch q = nI (c q)) (hcv : ∀ q, q < 5 → cv q = nI (fr_cd e n (c q))) (hv : fr_val (fr_m e n) c) (hr : ∃ q, q < 5 ∧ c q + (4 - q) < fr_m e n)
    (h : ∀ p, p < 5 → c p + (4 - p) < fr_m e n → (∀ q, p < q → q < 5 → fr_m e n ≤ c q + (4 - q)) → ∀ ch' cv', (∀ q, q < 5 → ch' q = nI (fr_nt c p q)) → (∀ q, q < 5 → cv' q = nI (fr_cd e n (fr_nt c p q))) → post ((nI n), (nI (2 ^ n - 1)), (nI (fr_m e n)), fm, fo, fr, (fun i => nI (e i)), sl, sw, im, ic, cd, mx, ch', cv', ak)) :
    wpX_takeNextList post ((nI n), (nI (2 ^ n - 1)), (nI (fr_m e n)), fm, fo, fr, (fun i => nI (e i)), sl, sw, im, ic, cd, mx, ch, cv, ak) := by
  have hp := fr_2n hn
  have hm := fr_m_lt e n
  unfold wpX_takeNextList
  dsimp only
  refine ⟨6, ?_⟩
  refine pk_loopD (fun N i (_ : Unit) => wX_takeNextList_2 post (nI n) (nI (2 ^ n - 1)) (nI (fr_m e n)) fm fo fr (fun i => nI (e i)) sl sw im ic cd mx ch cv ak N (fr_dn i)) (fun i _ => i ≤ 5 ∧ ∀ q, i ≤ q → q < 5 → fr_m e n ≤ c q + (4 - q)) ?_ ?_ 5 () ⟨Nat.le_refl 5, fun q h1 h2 => absurd h1 (by omega)⟩
  · rintro N _ ⟨_, hI⟩
    obtain ⟨q, hq, hx⟩ := hr
    have := hI q (by omega) hq
    omega
  · rintro N i _ ⟨hi5, hI⟩ hk
    have hi : i < 5 := by omega
    have hdn : fr_dn (i + 1) = nI i := nI_pred i
    have hcm := fr_val_m hv hi
    rw [hdn]
    refine br_f (nI_pos (by omega)) ⟨vp_in_nI hi (by omega), ?_⟩
    have e4 : (4 : Int32) - nI i = nI (4 - i) := pk_sub (a := 4) (by omega)
    rw [nI_clamp (by omega), hch i hi, e4, fr_cmp (by omega) (by omega) (by omega)]
    by_cases hx : fr_m e n ≤ c i + (4 - i)
    · refine br_t hx (nm_r (Int32.sub_eq_add_neg _ _).symm (hk () ⟨by omega, ?_⟩))
      intro q h1 h2
      by_cases hqi : q = i
      · subst hqi; exact hx
      · exact hI q (by omega) h2
    · refine br_f hx ⟨vp_in_nI hi (by omega), ?_⟩
      rw [nI_1]
      refine nm_e ?_
      have hntm : ∀ q, q < 5 → fr_nt c i q ≤ fr_m e n := fun q hq => fr_val_m (fr_val_nt hv hi (by omega)) hq
      refine pk_loop (fun N l (z : (Nat → Int32) × (Nat → Int32)) => wX_takeNextList_34 post (nI i) (nI (c i + 1)) (nI n) (nI (2 ^ n - 1)) (nI (fr_m e n)) fm fo fr N (nI l) (fun i => nI (e i)) sl sw im ic cd mx z.1 z.2 ak) (fun l z => i ≤ l ∧ (∀ q, q < 5 → z.1 q = nI (if q < l then fr_nt c i q else c q)) ∧ (∀ q, q < 5 → z.2 q = nI (fr_cd e n (if q < l then fr_nt c i q else c q)))) 5 i (ch, cv) (by omega) ?_ ?_ ?_
      · have : ∀ q, (if q < i then fr_nt c i q else c q) = c q := by
          intro q
          by_cases hq : q < i
          · rw [if_pos hq]
            unfold fr_nt
            rw [if_pos hq]
          · rw [if_neg hq]
        refine ⟨Nat.le_refl i, fun q hq => ?_, fun q hq => ?_⟩
        · rw [this]; exact hch q hq
        · rw [this]; exact hcv q hq
      · rintro N2 ⟨ch, cv⟩ ⟨_, hz1, hz2⟩
        refine br_t (nI_lt (a := 4) (b := 5) (by omega) (by omega)) (h i hi (by omega) (fun q h1 h2 => hI q (by omega) h2) _ _ (fun q hq => ?_) (fun q hq => ?_))
        · have := hz1 q hq
          rw [if_pos hq] at this
          exact this
        · have := hz2 q hq
          rw [if_pos hq] at this
          exact this
      · rintro N2 l ⟨ch, cv⟩ hl ⟨hil, hz1, hz2⟩ hk2
        dsimp only at hz1 hz2
        have hnl := hntm l hl
        have hval : nI (c i + 1) + nI l - nI i = nI (fr_nt c i l) := by
          rw [nI_add, pk_sub (by omega)]
          unfold fr_nt
          rw [if_neg (by omega)]
          exact congrArg nI (by omega)
        have hin : vp_in (nI l) 5 := vp_in_nI hl (by omega)
        refine br_f (nI_nlt (a := 4) (by omega) (by omega)) ⟨hin, ?_⟩
        rw [nI_clamp (by omega), hval]
        refine nm_e ⟨hin, ?_⟩
        rw [pk_us]
        refine ⟨vp_in_nI (by omega) (by omega), hin, ?_⟩
        rw [nI_clamp (by omega), hcd _ hnl]
        refine nm_e (nm_r (nI_1 l) (hk2 (upd ch l (nI (fr_nt c i l)), upd cv l (nI (fr_cd e n (fr_nt c i l)))) ⟨by omega, fun q hq => ?_, fun q hq => ?_⟩))
        · dsimp only
          by_cases hql : q = l
          · subst hql
            rw [pk_us, if_pos (by omega)]
          · rw [pk_un hql, hz1 q hq]
            by_cases hq2 : q < l
            · rw [if_pos hq2, if_pos (by omega)]
            · rw [if_neg hq2, if_neg (by omega)]
        · dsimp only
          by_cases hql : q = l
          · subst hql
            rw [pk_us, if_pos (by omega)]
          · rw [pk_un hql, hz2 q hq]
            by_cases hq2 : q < l
            · rw [if_pos hq2, if_pos (by omega)]
            · rw [if_neg hq2, if_neg (by omega)]
/-! the best cover -/
theorem fr_xcount {post : SX → Prop} {c : Nat → Nat} (hn : n ≤ 5) (hv : fr_val (fr_m e n) c) (hcv : ∀ q, q < 5 → cv q = nI (fr_cd e n (c q))) (h : post ((nI n), (nI (2 ^ n - 1)), fc, fm, (nI (fr_nz c 5)), fr, (fun i => nI (e i)), sl, sw, im, ic, cd, mx, ch, cv, ak)) : ∃ N, wX_findBestCover_67 post (nI n) (nI (2 ^ n - 1)) fc fm fr (fun i => nI (e i)) sl sw im ic cd mx ch cv ak N 0 0 := by
  have hp := fr_2n hn
  refine pk_loop (fun N i (z : Int32) => wX_findBestCover_67 post (nI n) (nI (2 ^ n - 1)) fc fm fr (fun i => nI (e i)) sl sw im ic cd mx ch cv ak N (nI i) z) (fun i z => z = nI (fr_nz c i)) 5 0 0 (by omega) rfl ?_ ?_
  · rintro N z rfl
    exact br_t (nI_lt (a := 4) (b := 5) (by omega) (by omega)) h
  · rintro N i z hi rfl hk
    refine br_f (nI_nlt (a := 4) (by omega) (by omega)) ⟨vp_in_nI hi (by omega), ?_⟩
    have hcm := fr_val_m hv hi
    have hlt := fr_cd_lt hcm
    rw [nI_clamp (by omega), hcv i hi]
    refine pk_eq (fr_cd e n (c i)) 0 (fun z => ?_) (fun z => ?_)
    · have hc0 : c i = 0 := by
        apply Classical.byContradiction
        intro hne
        have := (fr_cd_p hne hcm).1
        omega
      refine nm_r (nI_1 i) (hk _ ?_)
      rw [fr_nz_s, if_pos hc0]
      rfl
    · have hc0 : ¬ c i = 0 := by
        intro hz
        rw [hz, fr_cd_0] at z
        exact z rfl
      rw [nI_1]
      refine nm_e (nm_r (nI_1 i) (hk _ ?_))
      rw [fr_nz_s, if_neg hc0]
theorem fr_rem_0 {m : Nat} (hm : m ≤ 31) : fr_rem m (fun _ => 0) ≤ 206367 := by
  obtain ⟨a1, a2, a3, a4, a5⟩ := fr_ch31
  have b1 := fr_ch_le 1 hm
  have b2 := fr_ch_le 2 hm
  have b3 := fr_ch_le 3 hm
  have b4 := fr_ch_le 4 hm
  have b5 := fr_ch_le 5 hm
  show fr_ch m 5 + fr_ch m 4 + fr_ch m 3 + fr_ch m 2 + fr_ch m 1 ≤ 206367
  omega
theorem fr_zero_lt {n : Nat} {e : Nat → Nat} (hn : 0 < n) {t : Nat → Nat} (h : fr_ok e n t) : fr_lt (fun _ => 0) t := by
  have := fr_ok_4 hn h
  unfold fr_lt
  dsimp only
  omega
theorem fr_xfb {post : SX → Prop} (hn2 : 2 ≤ n) (hn : n ≤ 5) (he : ∀ i, e i < 3 * (n + 1)) (hI : fr_I n e im (2 ^ n)) (hC : fr_C n e ic cd fc (2 ^ n - 1)) (h : ∀ ch' cv' c, fr_best e n c → (∀ q, q < 5 → cv' q = nI (fr_cd e n (c q))) → post ((nI n), (nI (2 ^ n - 1)), fc, fm, (nI (fr_nz c 5)), fr, (fun i => nI (e i)), sl, sw, im, ic, cd, mx, ch', cv', ak)) : wpX_findBestCover post ((nI n), (nI (2 ^ n - 1)), fc, fm, fo, fr, (fun i => nI (e i)), sl, sw, im, ic, cd, mx, ch, cv, ak) := by
  have hp := fr_2n hn
  have hp4 := fr_2n4 hn2
  have hm := fr_m_lt e n
  obtain ⟨hC1, hC2, rfl⟩ := hC
  have hC1' : ∀ c, c < 2 ^ n → ic c = fr_b (fr_cs e n c) := fun c hc => hC1 c (by omega)
  have hC2' : ∀ j, j ≤ fr_m e n → cd j = nI (fr_cd e n j) := hC2
  unfold wpX_findBestCover
  dsimp only
  refine pk_loop (fun N i (z : (Nat → Int32) × (Nat → Int32)) => wX_findBestCover_2 post (nI n) (nI (2 ^ n - 1)) (nI (fr_m e n)) fm fo fr N (nI i) (fun i => nI (e i)) sl sw im ic cd mx z.1 z.2 ak) (fun i z => ∀ q, q < i → z.1 q = 0 ∧ z.2 q = 0) 5 0 (ch, cv) (by omega) (fun q hq => absurd hq (Nat.not_lt_zero q)) ?_ ?_
  · rintro N ⟨ch, cv⟩ hz
    dsimp only at hz
    refine br_t (nI_lt (a := 4) (b := 5) (by omega) (by omega)) ?_
    refine loop_m (fun N (z : Int32 × Nat × (Nat → Int32) × (Nat → Int32)) => wX_findBestCover_31 post N z.1 (nI z.2.1) (nI n) (nI (2 ^ n - 1)) (nI (fr_m e n)) fm fo fr (fun i => nI (e i)) sl sw im ic cd mx z.2.2.1 z.2.2.2 ak) (fun z => ∃ c, fr_val (fr_m e n) c ∧ (∀ q, q < 5 → z.2.2.1 q = nI (c q)) ∧ (∀ q, q < 5 → z.2.2.2 q = nI (fr_cd e n (c q))) ∧ z.2.1 ≤ 206367 ∧ ((z.1 = 0 ∧ (∀ t, fr_ok e n t → fr_lt c t) ∧ z.2.1 + fr_rem (fr_m e n) c ≤ 206367) ∨ (z.1 = 1 ∧ fr_best e n c))) (fun z => 206367 - z.2.1) ?_ (0, 0, ch, cv) ?_
    · rintro N ⟨fo1, tn, ch, cv⟩ ⟨c, hv, hz1, hz2, htn, hz3⟩ hk
      dsimp only at hz1 hz2 htn hz3
      rcases hz3 with ⟨rfl, hlt, hrem⟩ | ⟨rfl, hb⟩
      · have hex := fr_lt_ex (fr_si_ok he hn2 hn).1 (hlt _ (fr_si_ok he hn2 hn))
        have hpos : 1 ≤ fr_rem (fr_m e n) c := by
          obtain ⟨q, hq, hx⟩ := hex
          have := fr_rem_lt hq hx
          omega
        have htn2 : tn < 206367 := by omega
        refine br_f (nI_ge (b := 206367) htn2 (by omega)) (br_t rfl ?_)
        refine fr_xtn hn hC2' hz1 hz2 hv hex ?_
        intro p hp5 hr hq ch' cv' hz1' hz2'
        obtain ⟨hv', hb1, hb0⟩ := fr_lt_next hlt hp5 hr hq hv
        have hr2 := fr_rem_lt hp5 hr
        refine fr_xmc_cover (L := fun q => fr_cd e n (fr_nt c p q)) hn he hI hC1' hz2' (fun q hq5 => fr_cd_lt (fr_val_m hv' hq5)) (fun hcov => ?_) (fun hcov => ?_)
        · refine nm_r (nI_1 tn) (hk (1, tn + 1, ch', cv') ⟨fr_nt c p, hv', hz1', hz2', (show tn + 1 ≤ 206367 by omega), Or.inr ⟨rfl, hb1 hcov⟩⟩ ?_)
          show 206367 - (tn + 1) < 206367 - tn
          omega
        · refine nm_r (nI_1 tn) (hk (0, tn + 1, ch', cv') ⟨fr_nt c p, hv', hz1', hz2', (show tn + 1 ≤ 206367 by omega), Or.inl ⟨rfl, hb0 hcov, ?_⟩⟩ ?_)
          · show tn + 1 + fr_rem (fr_m e n) (fr_nt c p) ≤ 206367
            omega
          · show 206367 - (tn + 1) < 206367 - tn
            omega
      · have hE := fr_xcount (fc := nI (fr_m e n)) (fm := fm) (fr := fr) (sl := sl) (sw := sw) (im := im) (ic := ic) (cd := cd) (mx := mx) (ch := ch) (cv := cv) (ak := ak) (post := post) hn hv hz2 (h ch cv c hb hz2)
        exact pk_le 206367 tn (fun _ => hE) (fun _ => br_f (show ¬ (1 : Int32) = 0 by decide) hE)
    · refine ⟨fun _ => 0, ⟨Or.inl rfl, Or.inl rfl, Or.inl rfl, Or.inl rfl, Nat.zero_le _⟩, fun q hq => (hz q hq).1, fun q hq => ?_, Nat.zero_le _, Or.inl ⟨rfl, fun t ht => fr_zero_lt (by omega) ht, ?_⟩⟩
      · show cv q = nI (fr_cd e n 0)
        rw [fr_cd_0]
        exact (hz q hq).2
      · show 0 + fr_rem (fr_m e n) (fun _ => 0) ≤ 206367
        have := fr_rem_0 (m := fr_m e n) (by omega)
        omega
  · rintro N i ⟨ch, cv⟩ hi hz hk
    dsimp only at hz
    have hin : vp_in (nI i) 5 := vp_in_nI hi (by omega)
    refine br_f (nI_nlt (a := 4) (by omega) (by omega)) ⟨hin, nm_e ⟨hin, nm_e (nm_r (nI_1 i) ?_)⟩⟩
    rw [nI_clamp (by omega)]
    refine hk (upd ch i 0, upd cv i 0) (fun q hq => ?_)
    dsimp only
    by_cases hqi : q = i
    · subst hqi
      rw [pk_us, pk_us]
      exact ⟨rfl, rfl⟩
    · rw [pk_un hqi, pk_un hqi]
      exact hz q (by omega)
/-! all of it -/
def fr_W (n : Nat) (e : Nat → Nat) (fc fm fo : Int32) (sl sw im ic cd mx cv : Nat → Int32) : Prop := fr_T n e sl sw 10 0 ∧ fr_I n e im (2 ^ n) ∧ fr_C n e ic cd fc (2 ^ n - 1) ∧ fr_M n e mx fm (2 ^ n - 1) ∧ ∃ c, fr_best e n c ∧ (∀ q, q < 5 → cv q = nI (fr_cd e n (c q))) ∧ fo = nI (fr_nz c 5)
theorem fr_xwo {post : SX → Prop} (hn2 : 2 ≤ n) (hn : n ≤ 5) (he : ∀ i, e i < 3 * (n + 1)) (i0 : im 0 = 0) (i1 : im 1 = 0) (c0 : cd 0 = 0) (h : ∀ fc' fm' fo' sl' sw' im' ic' cd' mx' ch' cv', fr_W n e fc' fm' fo' sl' sw' im' ic' cd' mx' cv' → post ((nI n), (nI (2 ^ n - 1)), fc', fm', fo', fr, (fun i => nI (e i)), sl', sw', im', ic', cd', mx', ch', cv', ak)) : wpX_workOut post ((nI n), (nI (2 ^ n - 1)), fc, fm, fo, fr, (fun i => nI (e i)), sl, sw, im, ic, cd, mx, ch, cv, ak) := by
  have hp := fr_2n hn
  have hp4 := fr_2n4 hn2
  unfold wpX_workOut
  dsimp only
  refine fr_xfs hn he (fun sl' sw' hT => ?_)
  refine fr_xfi hn2 hn he i0 i1 (fun im' hI => ?_)
  refine fr_xfc hn2 hn hT c0 (fun ic' cd' fc' hC => ?_)
  refine fr_xfm hn2 hn (fun c hc => hC.1 c (by omega)) (fun mx' fm' hM => ?_)
  refine fr_xfb hn2 hn he hI hC (fun ch' cv' c hb hcv => ?_)
  exact h _ _ _ _ _ _ _ _ _ _ _ ⟨hT, hI, hC, hM, c, hb, hcv, rfl⟩
end FRX3
