section FRY3
variable {n : Nat} {e : Nat → Nat} {ft fz : Int32} {fi cz : Nat → Int32}
theorem fr_ywi {post : Int32 → Prop} {K r : Nat} {L : Nat → Nat} (hK : K ≤ 5) (hr : r < 2 ^ 31) (hL : ∀ p, p < K → cz p = nI (L p)) (h1 : (∃ p, p < K ∧ L p &&& r = r) → post 1) (h0 : (¬ ∃ p, p < K ∧ L p &&& r = r) → post 0) : wpY_within post ((nI n), ft, (nI K), (fun i => nI (e i)), fi, cz) (nI r) := by
  unfold wpY_within
  dsimp only
  refine pk_loop (fun N i (_ : Unit) => wY_within_2 post (nI r) (nI n) ft (nI K) (fun i => nI (e i)) fi cz N (nI i)) (fun i _ => ∀ p, p < i → ¬ L p &&& r = r) K 0 () (by omega) (fun p hp => absurd hp (Nat.not_lt_zero p)) ?_ ?_
  · rintro N _ hI
    refine br_t (nI_le (Nat.le_refl K) (by omega)) (h0 ?_)
    rintro ⟨p, hp, h⟩
    exact hI p hp h
  · rintro N i _ hi hI hk
    refine br_f (nI_ge hi (by omega)) (br_f (nI_ge (b := 5) (by omega) (by omega)) ⟨vp_in_nI (by omega) (by omega), ?_⟩)
    have hle : L i &&& r ≤ r := Nat.and_le_right
    rw [nI_clamp (by omega), hL i hi, nx_and, nI_eq (by omega) (by omega)]
    by_cases h : L i &&& r = r
    · exact br_t h (h1 ⟨i, hi, h⟩)
    · refine br_f h (nm_r (nI_1 i) (hk () ?_))
      intro p hp
      by_cases hpi : p = i
      · subst hpi; exact h
      · exact hI p (by omega)
theorem fr_yco {post : Int32 → Prop} {K : Nat} {L : Nat → Nat} (hn : n ≤ 5) (he : ∀ i, e i < 3 * (n + 1)) (hF : fr_F n e fi 64) (hK0 : 0 < K) (hK : K ≤ 5) (hL : ∀ p, p < K → cz p = nI (L p)) (hLn : ∀ p, p < K → L p < 2 ^ n) (h1 : fr_cov e n (fr_lm K L) → post 1) (h0 : ¬ fr_cov e n (fr_lm K L) → post 0) : wpY_covers post ((nI n), ft, (nI K), (fun i => nI (e i)), fi, cz) := by
  have hp := fr_2n hn
  rw [fr_cov_lm hK0 hLn] at h1 h0
  unfold wpY_covers
  dsimp only
  refine pk_loop (fun N i (z : Int32) => wY_covers_4 post (nI n) ft (nI K) (fun i => nI (e i)) fi cz N z (nI i)) (fun i z => z = nI (fr_un L i) ∧ (∀ p, p < i → fr_cs e n (L p) = true) ∧ ∀ q, q < i → ∀ a, a < 2 → ∃ p, p < K ∧ L p &&& fr_im e (L q) a n = fr_im e (L q) a n) K 0 0 (by omega) ⟨rfl, fun p hp => absurd hp (Nat.not_lt_zero p), fun p hp => absurd hp (Nat.not_lt_zero p)⟩ ?_ ?_
  · rintro N z ⟨rfl, hcs, him⟩
    refine br_t (nI_le (Nat.le_refl K) (by omega)) ?_
    have hu := fr_un_lt hLn K (Nat.le_refl K)
    exact pk_eq (fr_un L K) (2 ^ n - 1) (fun hall => h1 ⟨hcs, hall, him⟩) (fun hall => h0 (fun z => hall z.2.1)) rfl (fr_all1 (by omega))
  · rintro N i z hi ⟨rfl, hcs, him⟩ hk
    have hb := hLn i hi
    have hin : vp_in (nI i) 5 := vp_in_nI (by omega) (by omega)
    refine br_f (nI_ge hi (by omega)) (br_f (nI_ge (b := 5) (by omega) (by omega)) ⟨hin, ?_⟩)
    rw [nI_clamp (by omega), hL i hi]
    refine fr_yag hn (by omega) hF ?_
    rw [fr_b_0]
    by_cases hx : fr_cs e n (L i) = true
    · refine br_f (fun z => z hx) ⟨hin, ?_⟩
      rw [fr_or32]
      refine nm_e ?_
      refine pk_loop (fun N2 a (_ : Unit) => wY_covers_43 post (wY_covers_4 post (nI n) ft (nI K) (fun i => nI (e i)) fi cz N) (nI (fr_un L (i + 1))) (nI i) (nI n) ft (nI K) (fun i => nI (e i)) fi cz N2 (nI a)) (fun a _ => ∀ b, b < a → ∃ p, p < K ∧ L p &&& fr_im e (L i) b n = fr_im e (L i) b n) 2 0 () (by omega) (fun p hp => absurd hp (Nat.not_lt_zero p)) ?_ ?_
      · rintro N2 _ hJ
        refine br_t (nI_le (Nat.le_refl 2) (by omega)) (nm_r (nI_1 i) (hk _ ⟨rfl, ?_, ?_⟩))
        · intro p hp
          by_cases hpi : p = i
          · subst hpi; exact hx
          · exact hcs p (by omega)
        · intro q hq a ha
          by_cases hqi : q = i
          · subst hqi; exact hJ a ha
          · exact him q (by omega) a ha
      · rintro N2 a _ ha hJ hk2
        refine br_f (nI_ge (b := 2) ha (by omega)) ⟨hin, ?_⟩
        rw [nI_clamp (by omega), hL i hi]
        refine fr_yim hn he (by omega) ha ?_
        have himl := fr_im_lt he (L i) a n
        refine fr_ywi hK (by omega) hL (fun hy => ?_) (fun hy => ?_)
        · refine br_f (by decide) (nm_r (nI_1 a) (hk2 () ?_))
          intro b hb
          by_cases hba : b = a
          · subst hba; exact hy
          · exact hJ b (by omega)
        · exact br_t rfl (h0 (fun z => hy (z.2.2 i hi a ha)))
    · exact br_t hx (h0 (fun z => hx (z.1 i hi)))
theorem fr_yro {post : Int32 → Prop} {c w : Nat} (hn : n ≤ 5) (hF : fr_F n e fi 64) (hc : c < 2 ^ n) (hw : w < 1000) (h1 : w + fr_ct e n c ≤ fr_m e n → post 1) (h0 : ¬ w + fr_ct e n c ≤ fr_m e n → post 0) : wpY_room post ((nI n), ft, fz, (fun i => nI (e i)), fi, cz) (nI c) (nI w) := by
  have hp := fr_2n hn
  unfold wpY_room
  dsimp only
  refine nm_r (nI_1 c) ?_
  refine pk_loop (fun N k (z : Int32) => wY_room_7 post (nI w) (nI n) ft fz (fun i => nI (e i)) fi cz N z (nI (k + 1))) (fun k z => c ≤ k ∧ z = nI (fr_ct e n k - fr_ct e n c)) (2 ^ n - 1) c 0 (by omega) ⟨Nat.le_refl c, by rw [Nat.sub_self]; rfl⟩ ?_ ?_
  · rintro N z ⟨_, rfl⟩
    refine br_t (fr_c_t hn) ?_
    have hml := fr_m_lt e n
    have hmono := fr_ct_mono e n c (2 ^ n - 1 - c)
    rw [show c + (2 ^ n - 1 - c) = 2 ^ n - 1 by omega] at hmono
    have hme : fr_ct e n (2 ^ n - 1) = fr_m e n := rfl
    rw [hme] at hmono ⊢
    exact pk_lt (fr_m e n - fr_ct e n c) w (fun z => h0 (by omega)) (fun z => h1 (by omega))
  · rintro N k z hk1 ⟨hck, rfl⟩ hk
    refine br_f (fr_c_f hn (by omega)) ?_
    refine fr_yag hn (by omega) hF ?_
    rw [fr_b_0]
    have hmono := fr_ct_mono e n c (k - c)
    rw [show c + (k - c) = k by omega] at hmono
    by_cases hx : fr_cs e n (k + 1) = true
    · refine br_f (fun z => z hx) ?_
      rw [nI_1]
      refine nm_e (nm_r (nI_1 (k + 1)) (hk _ ⟨by omega, ?_⟩))
      rw [fr_ct_s, if_pos hx]
      exact congrArg nI (by omega)
    · refine br_t hx (nm_r (nI_1 (k + 1)) (hk _ ⟨by omega, ?_⟩))
      rw [fr_ct_s, if_neg hx]
      rfl
theorem fr_ypl {post : SY → Prop} {K i g : Nat} {b : Nat → Nat} (hn : n ≤ 5) (hF : fr_F n e fi 64) (hi : i < K) (hK : K ≤ 5) (hg : g ≠ 0) (hgm : g + (K - 1 - i) ≤ fr_m e n) (hb : ∀ q, q < i → cz q = nI (fr_cd e n (b q))) (h : ∀ cz', (∀ q, q < K → cz' q = nI (fr_cd e n (if q < i then b q else g + (q - i)))) → post ((nI n), ft, (nI K), (fun i => nI (e i)), fi, cz')) : wpY_place post ((nI n), ft, (nI K), (fun i => nI (e i)), fi, cz) (nI i) (nI (fr_cd e n g)) := by
  have hp := fr_2n hn
  obtain ⟨g1, g2, g3, g4⟩ := fr_cd_p (e := e) (n := n) hg (by omega)
  generalize hG : fr_cd e n g = c at g1 g2 g3 g4 ⊢
  obtain ⟨k0, rfl⟩ : ∃ k0, c = k0 + 1 := ⟨c - 1, by omega⟩
  rw [fr_ct_s, if_pos g3] at g4
  unfold wpY_place
  dsimp only
  refine pk_loop (fun N k (z : Int32 × (Nat → Int32)) => wY_place_5 post (nI n) ft (nI K) N z.1 (nI (k + 1)) (fun i => nI (e i)) fi z.2) (fun k z => ∃ a, z.1 = nI a ∧ i ≤ a ∧ a ≤ K ∧ (a < K → a + g = i + fr_ct e n k + 1) ∧ ∀ q, q < a → z.2 q = nI (fr_cd e n (if q < i then b q else g + (q - i)))) (2 ^ n - 1) k0 (nI i, cz) (by omega) ⟨i, rfl, Nat.le_refl i, by omega, fun _ => by omega, fun q hq => by rw [if_pos hq]; exact hb q hq⟩ ?_ ?_
  · rintro N ⟨z, cz⟩ ⟨a, hz, hia, haK, ha, hcz⟩
    refine br_t (fr_c_t hn) (h cz ?_)
    intro q hq
    refine hcz q ?_
    by_cases haK2 : a < K
    · have := ha haK2
      have hme : fr_ct e n (2 ^ n - 1) = fr_m e n := rfl
      omega
    · omega
  · rintro N k ⟨z, cz⟩ hk1 ⟨a, hz, hia, haK, ha, hcz⟩ hk
    dsimp only at hz hcz
    subst hz
    refine br_f (fr_c_f hn (by omega)) ?_
    refine pk_le K a (fun hKa => ?_) (fun hKa => ?_)
    · refine nm_r (nI_1 (k + 1)) (hk (nI a, cz) ⟨a, rfl, hia, haK, fun z => absurd z (by omega), hcz⟩)
    · have hae := ha hKa
      refine br_f (nI_ge (b := 5) (by omega) (by omega)) ?_
      refine fr_yag hn (by omega) hF ?_
      rw [fr_b_0]
      by_cases hx : fr_cs e n (k + 1) = true
      · have hct : fr_ct e n (k + 1) = fr_ct e n k + 1 := by rw [fr_ct_s, if_pos hx]
        refine br_f (fun z => z hx) ⟨vp_in_nI (by omega) (by omega), ?_⟩
        rw [nI_clamp (by omega)]
        refine nm_e (nm_r (nI_1 a) (nm_r (nI_1 (k + 1)) (hk (nI (a + 1), upd cz a (nI (k + 1))) ⟨a + 1, rfl, by omega, by omega, fun _ => by omega, fun q hq => ?_⟩)))
        dsimp only
        by_cases hqa : q = a
        · subst hqa
          rw [pk_us, if_neg (by omega), show g + (q - i) = fr_ct e n (k + 1) by omega, (fr_cd_ct (by omega) (by omega) hx).2.2]
        · rw [pk_un hqa]
          exact hcz q (by omega)
      · have hct : fr_ct e n (k + 1) = fr_ct e n k := by rw [fr_ct_s, if_neg hx]; rfl
        exact br_t hx (nm_r (nI_1 (k + 1)) (hk (nI a, cz) ⟨a, rfl, hia, haK, fun _ => by omega, hcz⟩))
/-- from one place on: the sets between two neighbours of the list -/
theorem fr_yad1 {post : Int32 → SY → Prop} {J7 : Int32 → Prop} {K i u g : Nat} {b : Nat → Nat} (hn : n ≤ 5) (hF : fr_F n e fi 64) (hi : i < K) (hK : K ≤ 5) (hg : g ≤ fr_m e n) (hb : ∀ q, q < i → cz q = nI (fr_cd e n (b q))) (hci : cz i = nI (fr_cd e n g)) (hu : u ≤ 2 ^ n) (hgu : fr_cd e n g < u)
    (h1 : g + (K - 1 - i) < fr_m e n → fr_cd e n (g + 1) < u ∧ ∀ cz', (∀ q, q < K → cz' q = nI (fr_cd e n (if q < i then b q else g + 1 + (q - i)))) → post 1 ((nI n), ft, (nI K), (fun i => nI (e i)), fi, cz'))
    (h0 : fr_m e n ≤ g + (K - 1 - i) → J7 (fr_dn i)) : wY_advance_40 post J7 (nI i) (nI u) (nI n) ft (nI K) (fun i => nI (e i)) fi cz := by
  have hp := fr_2n hn
  have hgl := fr_cd_lt hg
  refine ⟨vp_in_nI (by omega) (by omega), ?_⟩
  rw [nI_clamp (by omega), hci]
  refine nm_r (nI_1 _) ?_
  have hK1 : nI K - 1 - nI i = nI (K - 1 - i) := by
    have e1 : nI K - 1 = nI (K - 1) := pk_sub (b := 1) (by omega)
    rw [e1, pk_sub (by omega)]
  refine pk_loop (fun N k (_ : Unit) => wY_advance_50 post J7 (nI i) (nI u) (nI n) ft (nI K) (fun i => nI (e i)) fi cz N (nI k)) (fun k _ => fr_cd e n g < k ∧ (g + (K - 1 - i) < fr_m e n → k ≤ fr_cd e n (g + 1))) u (fr_cd e n g + 1) () (by omega) ⟨by omega, fun hx => fr_cd_mono (i := g) (j := g + 1) (by omega) (by omega)⟩ ?_ ?_
  · rintro N _ ⟨_, hI⟩
    refine br_t (nI_le (Nat.le_refl u) (by omega)) (nm_r (Int32.sub_eq_add_neg _ _).symm (h0 ?_))
    apply Classical.byContradiction
    intro hx
    have a1 := hI (by omega)
    have a2 := (h1 (by omega)).1
    omega
  · rintro N k _ hk1 ⟨hk0, hI⟩ hk
    refine br_f (nI_ge hk1 (by omega)) ?_
    refine fr_yag hn (by omega) hF ?_
    rw [fr_b_0]
    by_cases hx : fr_cs e n k = true
    · refine br_f (fun z => z hx) ?_
      have hct : g < fr_ct e n k := by
        have := fr_ct_lt hk0 hx
        rw [fr_cd_tc hg] at this
        exact this
      rw [hK1]
      refine fr_yro hn hF (by omega) (by omega) (fun hy => ?_) (fun hy => ?_)
      · refine br_f (by decide) ?_
        have hr : g + (K - 1 - i) < fr_m e n := by omega
        have hkg : k = fr_cd e n (g + 1) := by
          have a1 := hI hr
          rcases Nat.lt_or_ge k (fr_cd e n (g + 1)) with hl | hl
          · have := fr_ct_lt hl (fr_cd_cs (i := g + 1) (by omega))
            rw [fr_cd_tc (by omega)] at this
            omega
          · omega
        rw [hkg]
        refine fr_ypl (b := b) hn hF hi hK (by omega) (by omega) hb (fun cz' hcz' => ?_)
        exact (h1 hr).2 cz' hcz'
      · refine br_t rfl (nm_r (nI_1 k) (hk () ⟨by omega, fun hr => ?_⟩))
        have a1 := hI hr
        rcases Nat.lt_or_ge k (fr_cd e n (g + 1)) with hl | hl
        · omega
        · have hkg : k = fr_cd e n (g + 1) := by omega
          rw [hkg, fr_cd_tc (by omega)] at hy
          omega
    · refine br_t hx (nm_r (nI_1 k) (hk () ⟨by omega, fun hr => ?_⟩))
      have a1 := hI hr
      rcases Nat.lt_or_ge k (fr_cd e n (g + 1)) with hl | hl
      · omega
      · have hkg : k = fr_cd e n (g + 1) := by omega
        rw [hkg, fr_cd_cs (by omega)] at hx
        exact absurd rfl hx
theorem fr_val_up {m p : Nat} {c : Nat → Nat} (hv : fr_val m c) (hp : p < 4) (h0 : c p ≠ 0) : c p < c (p + 1) := by
  obtain ⟨v0, v1, v2, v3, _⟩ := hv
  rcases (show p = 0 ∨ p = 1 ∨ p = 2 ∨ p = 3 by omega) with rfl | rfl | rfl | rfl
  · exact v0.resolve_left h0
  · exact v1.resolve_left h0
  · exact v2.resolve_left h0
  · exact v3.resolve_left h0
theorem fr_yad {post : Int32 → SY → Prop} {K : Nat} {c : Nat → Nat} (hn : n ≤ 5) (hF : fr_F n e fi 64) (hK0 : 0 < K) (hK : K ≤ 5) (hv : fr_val (fr_m e n) c) (hnz : ∀ p, 5 - K ≤ p → p < 5 → c p ≠ 0) (hcz : ∀ q, q < K → cz q = nI (fr_cd e n (c (5 - K + q))))
    (h1 : ∀ p, 5 - K ≤ p → p < 5 → c p + (4 - p) < fr_m e n → (∀ q, p < q → q < 5 → fr_m e n ≤ c q + (4 - q)) → ∀ cz', (∀ q, q < K → cz' q = nI (fr_cd e n (fr_nt c p (5 - K + q)))) → post 1 ((nI n), ft, (nI K), (fun i => nI (e i)), fi, cz'))
    (h0 : (∀ p, 5 - K ≤ p → p < 5 → fr_m e n ≤ c p + (4 - p)) → post 0 ((nI n), ft, (nI K), (fun i => nI (e i)), fi, cz)) : wpY_advance post ((nI n), ft, (nI K), (fun i => nI (e i)), fi, cz) := by
  have hp := fr_2n hn
  unfold wpY_advance
  dsimp only
  refine nm_r (show nI K - 1 = fr_dn K from rfl) ⟨K + 1, ?_⟩
  refine pk_loopD (fun N i (_ : Unit) => wY_advance_7 post (nI n) ft (nI K) (fun i => nI (e i)) fi cz N (fr_dn i)) (fun i _ => i ≤ K ∧ ∀ q, i ≤ q → q < K → fr_m e n ≤ c (5 - K + q) + (K - 1 - q)) ?_ ?_ K () ⟨Nat.le_refl K, fun q z1 z2 => absurd z1 (by omega)⟩
  · rintro N _ ⟨_, hI⟩
    refine br_t fr_m1neg (h0 ?_)
    intro p hp1 hp2
    have := hI (p - (5 - K)) (by omega) (by omega)
    rw [show 5 - K + (p - (5 - K)) = p by omega] at this
    omega
  · rintro N i _ ⟨hiK, hI⟩ hk
    have hi : i < K := by omega
    have hdn : fr_dn (i + 1) = nI i := nI_pred i
    have hgm := fr_val_m hv (p := 5 - K + i) (by omega)
    have hg0 := hnz (5 - K + i) (by omega) (by omega)
    rw [hdn]
    refine br_f (nI_pos (by omega)) ?_
    have e1 : nI K - 1 = nI (K - 1) := pk_sub (b := 1) (by omega)
    have hnt : ∀ q, (if 5 - K + q < 5 - K + i then c (5 - K + q) else c (5 - K + i) + 1 + (5 - K + q - (5 - K + i))) = if q < i then c (5 - K + q) else c (5 - K + i) + 1 + (q - i) := by
      intro q
      by_cases hq : q < i
      · rw [if_pos hq, if_pos (by omega)]
      · rw [if_neg hq, if_neg (by omega), show 5 - K + q - (5 - K + i) = q - i by omega]
    have S1 : c (5 - K + i) + (K - 1 - i) < fr_m e n → ∀ cz', (∀ q, q < K → cz' q = nI (fr_cd e n (if q < i then c (5 - K + q) else c (5 - K + i) + 1 + (q - i)))) → post 1 ((nI n), ft, (nI K), (fun i => nI (e i)), fi, cz') := by
      intro hr cz' hcz'
      refine h1 (5 - K + i) (by omega) (by omega) (by omega) ?_ cz' ?_
      · intro q hq1 hq2
        have := hI (q - (5 - K)) (by omega) (by omega)
        rw [show 5 - K + (q - (5 - K)) = q by omega] at this
        omega
      · intro q hq
        unfold fr_nt
        rw [hnt q]
        exact hcz' q hq
    have S0 : fr_m e n ≤ c (5 - K + i) + (K - 1 - i) → wY_advance_7 post (nI n) ft (nI K) (fun i => nI (e i)) fi cz N (fr_dn i) := by
      intro hr
      refine hk () ⟨by omega, fun q hq1 hq2 => ?_⟩
      by_cases hqi : q = i
      · subst hqi; exact hr
      · exact hI q (by omega) hq2
    refine pk_le (K - 1) i (fun hle => ?_) (fun hle => ?_) e1
    · rw [fr_shl (by omega)]
      refine fr_yad1 (b := fun q => c (5 - K + q)) (g := c (5 - K + i)) hn hF hi hK hgm (fun q hq => hcz q (by omega)) (hcz i hi) (Nat.le_refl _) (fr_cd_lt hgm) (fun hr => ⟨fr_cd_lt (by omega), S1 hr⟩) S0
    · have hrem : nI i + 1 - (nI i + 1) / 5 * 5 = nI (i + 1) := by
        rw [nI_1]
        show nI (i + 1) - nI (i + 1) / nI 5 * nI 5 = _
        rw [pk_rem (by omega) (by omega) (by omega), Nat.mod_eq_of_lt (by omega)]
      rw [hrem]
      refine ⟨by decide, vp_in_nI (by omega) (by omega), ?_⟩
      rw [nI_clamp (by omega), hcz (i + 1) (by omega)]
      have hgm2 := fr_val_m hv (p := 5 - K + (i + 1)) (by omega)
      have hlt : c (5 - K + i) < c (5 - K + (i + 1)) := by
        rw [show 5 - K + (i + 1) = 5 - K + i + 1 by omega]
        exact fr_val_up hv (by omega) hg0
      refine fr_yad1 (b := fun q => c (5 - K + q)) (g := c (5 - K + i)) hn hF hi hK hgm (fun q hq => hcz q (by omega)) (hcz i hi) (Nat.le_of_lt (fr_cd_lt hgm2)) (fr_cd_mono hlt hgm2) (fun hr => ⟨fr_cd_mono ?_ hgm2, S1 hr⟩) S0
      have := hI (i + 1) (by omega) (by omega)
      omega
end FRY3
