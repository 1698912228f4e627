section FRY4
variable {n : Nat} {e : Nat → Nat} {ft fz : Int32} {fi cz : Nat → Int32}
/-! the first list of K sets -/
def fr_c0 (K p : Nat) : Nat := if p + K < 5 then 0 else p + K - 4
theorem fr_c0_val {m K : Nat} (h1 : 1 ≤ K) (h5 : K ≤ 5) (hm : K ≤ m) : fr_val m (fr_c0 K) := by
  unfold fr_val
  rcases (show K = 1 ∨ K = 2 ∨ K = 3 ∨ K = 4 ∨ K = 5 by omega) with rfl | rfl | rfl | rfl | rfl
  · show (0 = 0 ∨ 0 < 0) ∧ (0 = 0 ∨ 0 < 0) ∧ (0 = 0 ∨ 0 < 0) ∧ (0 = 0 ∨ 0 < 1) ∧ 1 ≤ m
    omega
  · show (0 = 0 ∨ 0 < 0) ∧ (0 = 0 ∨ 0 < 0) ∧ (0 = 0 ∨ 0 < 1) ∧ (1 = 0 ∨ 1 < 2) ∧ 2 ≤ m
    omega
  · show (0 = 0 ∨ 0 < 0) ∧ (0 = 0 ∨ 0 < 1) ∧ (1 = 0 ∨ 1 < 2) ∧ (2 = 0 ∨ 2 < 3) ∧ 3 ≤ m
    omega
  · show (0 = 0 ∨ 0 < 1) ∧ (1 = 0 ∨ 1 < 2) ∧ (2 = 0 ∨ 2 < 3) ∧ (3 = 0 ∨ 3 < 4) ∧ 4 ≤ m
    omega
  · show (1 = 0 ∨ 1 < 2) ∧ (2 = 0 ∨ 2 < 3) ∧ (3 = 0 ∨ 3 < 4) ∧ (4 = 0 ∨ 4 < 5) ∧ 5 ≤ m
    omega
theorem fr_c0_le {m K : Nat} {t : Nat → Nat} (h1 : 1 ≤ K) (h5 : K ≤ 5) (hv : fr_val m t) (ht : t (5 - K) ≠ 0) : fr_le (fr_c0 K) t := by
  obtain ⟨_, _, _, _, _, r0, r1, r2, r3⟩ := fr_val_b hv
  unfold fr_le
  rcases (show K = 1 ∨ K = 2 ∨ K = 3 ∨ K = 4 ∨ K = 5 by omega) with rfl | rfl | rfl | rfl | rfl
  · have ht' : t 4 ≠ 0 := ht
    show 0 < t 0 ∨ (0 = t 0 ∧ (0 < t 1 ∨ (0 = t 1 ∧ (0 < t 2 ∨ (0 = t 2 ∧ (0 < t 3 ∨ (0 = t 3 ∧ 1 ≤ t 4)))))))
    omega
  · have ht' : t 3 ≠ 0 := ht
    show 0 < t 0 ∨ (0 = t 0 ∧ (0 < t 1 ∨ (0 = t 1 ∧ (0 < t 2 ∨ (0 = t 2 ∧ (1 < t 3 ∨ (1 = t 3 ∧ 2 ≤ t 4)))))))
    omega
  · have ht' : t 2 ≠ 0 := ht
    show 0 < t 0 ∨ (0 = t 0 ∧ (0 < t 1 ∨ (0 = t 1 ∧ (1 < t 2 ∨ (1 = t 2 ∧ (2 < t 3 ∨ (2 = t 3 ∧ 3 ≤ t 4)))))))
    omega
  · have ht' : t 1 ≠ 0 := ht
    show 0 < t 0 ∨ (0 = t 0 ∧ (1 < t 1 ∨ (1 = t 1 ∧ (2 < t 2 ∨ (2 = t 2 ∧ (3 < t 3 ∨ (3 = t 3 ∧ 4 ≤ t 4)))))))
    omega
  · have ht' : t 0 ≠ 0 := ht
    show 1 < t 0 ∨ (1 = t 0 ∧ (2 < t 1 ∨ (2 = t 1 ∧ (3 < t 2 ∨ (3 = t 2 ∧ (4 < t 3 ∨ (4 = t 3 ∧ 5 ≤ t 4)))))))
    omega
def fr_zs (m K : Nat) : Nat := (if K < 5 then fr_ch m 5 else 0) + (if K < 4 then fr_ch m 4 else 0) + (if K < 3 then fr_ch m 3 else 0) + (if K < 2 then fr_ch m 2 else 0)
theorem fr_zs_le {m K : Nat} {c : Nat → Nat} (h1 : 1 ≤ K) (h5 : K ≤ 5) (hc : ∀ p, p < 5 - K → c p = 0) : fr_zs m K ≤ fr_rem m c := by
  unfold fr_rem
  rcases (show K = 1 ∨ K = 2 ∨ K = 3 ∨ K = 4 ∨ K = 5 by omega) with rfl | rfl | rfl | rfl | rfl
  · rw [hc 0 (by omega), hc 1 (by omega), hc 2 (by omega), hc 3 (by omega), Nat.sub_zero]
    show fr_ch m 5 + fr_ch m 4 + fr_ch m 3 + fr_ch m 2 ≤ _
    omega
  · rw [hc 0 (by omega), hc 1 (by omega), hc 2 (by omega), Nat.sub_zero]
    show fr_ch m 5 + fr_ch m 4 + fr_ch m 3 + 0 ≤ _
    omega
  · rw [hc 0 (by omega), hc 1 (by omega), Nat.sub_zero]
    show fr_ch m 5 + fr_ch m 4 + 0 + 0 ≤ _
    omega
  · rw [hc 0 (by omega), Nat.sub_zero]
    show fr_ch m 5 + 0 + 0 + 0 ≤ _
    omega
  · exact Nat.zero_le _
theorem fr_zs_0 {m K : Nat} (h1 : 1 ≤ K) (h5 : K ≤ 5) (hKm : K ≤ m) (hm : m ≤ 31) : fr_rem m (fr_c0 K) + 1 ≤ fr_zs m K + 169911 := by
  obtain ⟨a1, a2, a3, a4, a5⟩ := fr_ch31
  rcases (show K = 1 ∨ K = 2 ∨ K = 3 ∨ K = 4 ∨ K = 5 by omega) with rfl | rfl | rfl | rfl | rfl
  · have b := fr_ch_le 1 hm
    have p := fr_p1 hKm
    show fr_ch m 5 + fr_ch m 4 + fr_ch m 3 + fr_ch m 2 + fr_ch (m - 1) 1 + 1 ≤ fr_ch m 5 + fr_ch m 4 + fr_ch m 3 + fr_ch m 2 + 169911
    omega
  · have b := fr_ch_le 2 hm
    have p := fr_p2 hKm
    show fr_ch m 5 + fr_ch m 4 + fr_ch m 3 + fr_ch (m - 1) 2 + fr_ch (m - 2) 1 + 1 ≤ fr_ch m 5 + fr_ch m 4 + fr_ch m 3 + 0 + 169911
    omega
  · have b := fr_ch_le 3 hm
    have p := fr_p3 hKm
    show fr_ch m 5 + fr_ch m 4 + fr_ch (m - 1) 3 + fr_ch (m - 2) 2 + fr_ch (m - 3) 1 + 1 ≤ fr_ch m 5 + fr_ch m 4 + 0 + 0 + 169911
    omega
  · have b := fr_ch_le 4 hm
    have p := fr_p4 hKm
    show fr_ch m 5 + fr_ch (m - 1) 4 + fr_ch (m - 2) 3 + fr_ch (m - 3) 2 + fr_ch (m - 4) 1 + 1 ≤ fr_ch m 5 + 0 + 0 + 0 + 169911
    omega
  · have b := fr_ch_le 5 hm
    have p := fr_p5 hKm
    show fr_ch (m - 1) 5 + fr_ch (m - 2) 4 + fr_ch (m - 3) 3 + fr_ch (m - 4) 2 + fr_ch (m - 5) 1 + 1 ≤ 0 + 0 + 0 + 0 + 169911
    omega
theorem fr_lt_cov {c t : Nat → Nat} (hle : fr_le c t) (ht : fr_ok e n t) (h : ¬ fr_cov e n (fr_mem e n c)) : fr_lt c t := by
  refine fr_le_lt hle ?_
  rintro ⟨q0, q1, q2, q3, q4⟩
  apply h
  have : ∀ d, fr_mem e n c d ↔ fr_mem e n t d := by
    intro d
    have K : ∀ q, q < 5 → c q = t q := by
      intro q hq5
      rcases (show q = 0 ∨ q = 1 ∨ q = 2 ∨ q = 3 ∨ q = 4 by omega) with rfl | rfl | rfl | rfl | rfl <;> assumption
    constructor
    · rintro ⟨hd, q, hq5, hx⟩
      exact ⟨hd, q, hq5, by rw [← K q hq5]; exact hx⟩
    · rintro ⟨hd, q, hq5, hx⟩
      exact ⟨hd, q, hq5, by rw [K q hq5]; exact hx⟩
  rw [fr_cov_eq this]
  exact ht.2
/-- behind the last list of K sets come those with more -/
theorem fr_end {m K : Nat} {c t : Nat → Nat} (h1 : 1 ≤ K) (h5 : K ≤ 5) (hv : fr_val m t) (hlt : fr_lt c t) (hc : ∀ p, p < 5 - K → c p = 0) (hx : ∀ p, 5 - K ≤ p → p < 5 → m ≤ c p + (4 - p)) : K < 5 ∧ t (4 - K) ≠ 0 := by
  obtain ⟨b0, b1, b2, b3, b4, r0, r1, r2, r3⟩ := fr_val_b hv
  unfold fr_lt at hlt
  rcases (show K = 1 ∨ K = 2 ∨ K = 3 ∨ K = 4 ∨ K = 5 by omega) with rfl | rfl | rfl | rfl | rfl
  · have x4 := hx 4 (by omega) (by omega)
    refine ⟨by omega, ?_⟩
    show t 3 ≠ 0
    have c0 := hc 0 (by omega)
    have c1 := hc 1 (by omega)
    have c2 := hc 2 (by omega)
    have c3 := hc 3 (by omega)
    omega
  · have x4 := hx 4 (by omega) (by omega)
    have x3 := hx 3 (by omega) (by omega)
    refine ⟨by omega, ?_⟩
    show t 2 ≠ 0
    have c0 := hc 0 (by omega)
    have c1 := hc 1 (by omega)
    have c2 := hc 2 (by omega)
    omega
  · have x4 := hx 4 (by omega) (by omega)
    have x3 := hx 3 (by omega) (by omega)
    have x2 := hx 2 (by omega) (by omega)
    refine ⟨by omega, ?_⟩
    show t 1 ≠ 0
    have c0 := hc 0 (by omega)
    have c1 := hc 1 (by omega)
    omega
  · have x4 := hx 4 (by omega) (by omega)
    have x3 := hx 3 (by omega) (by omega)
    have x2 := hx 2 (by omega) (by omega)
    have x1 := hx 1 (by omega) (by omega)
    refine ⟨by omega, ?_⟩
    show t 0 ≠ 0
    have c0 := hc 0 (by omega)
    omega
  · have x4 := hx 4 (by omega) (by omega)
    have x3 := hx 3 (by omega) (by omega)
    have x2 := hx 2 (by omega) (by omega)
    have x1 := hx 1 (by omega) (by omega)
    have x0 := hx 0 (by omega) (by omega)
    exfalso
    omega
theorem fr_nz_K {m K : Nat} {c : Nat → Nat} (h1 : 1 ≤ K) (h5 : K ≤ 5) (hv : fr_val m c) (hc : ∀ p, p < 5 - K → c p = 0) (hnz : ∀ p, 5 - K ≤ p → p < 5 → c p ≠ 0) : fr_nz c 5 = K := by
  have hz := fr_nz_le c 5
  have a := fr_nz_v hv
  have a1 : ¬ (5 - K + fr_nz c 5 < 5) := fun z => hnz (5 - K) (Nat.le_refl _) (by omega) ((a (5 - K) (by omega)).mpr z)
  by_cases hK : K = 5
  · omega
  · have a2 := (a (4 - K) (by omega)).mp (hc (4 - K) (by omega))
    omega
theorem fr_mem_K {K : Nat} {c : Nat → Nat} (h5 : K ≤ 5) (hc : ∀ p, p < 5 - K → c p = 0) (d : Nat) : fr_lm K (fun q => fr_cd e n (c (5 - K + q))) d ↔ fr_mem e n c d := by
  constructor
  · rintro ⟨hd, q, hq, hx⟩
    exact ⟨hd, 5 - K + q, by omega, hx⟩
  · rintro ⟨hd, p, hp, hx⟩
    by_cases hpK : p < 5 - K
    · rw [hc p hpK, fr_cd_0] at hx
      exact absurd hx.symm hd
    · refine ⟨hd, p - (5 - K), by omega, ?_⟩
      show fr_cd e n (c (5 - K + (p - (5 - K)))) = d
      rw [show 5 - K + (p - (5 - K)) = p by omega]
      exact hx
theorem fr_cd_one (e : Nat → Nat) {n : Nat} (hn2 : 2 ≤ n) : fr_cd e n 1 = 1 := by
  have h1 : fr_cs e n 1 = true := fr_cs_1 e n 0
  have hp4 := fr_2n4 hn2
  have h2 := (fr_cd_ct (e := e) (n := n) (d := 1) (by omega) (by omega) h1).2.2
  have h3 : fr_ct e n 1 = 1 := by
    rw [fr_ct_s, if_pos h1]
    rfl
  rw [h3] at h2
  exact h2
theorem fr_ypl0 {post : SY → Prop} {K : Nat} (hn2 : 2 ≤ n) (hn : n ≤ 5) (hF : fr_F n e fi 64) (hK1 : 1 ≤ K) (hK : K ≤ 5) (hKm : K ≤ fr_m e n) (h : ∀ cz', (∀ q, q < K → cz' q = nI (fr_cd e n (fr_c0 K (5 - K + q)))) → post ((nI n), ft, (nI K), (fun i => nI (e i)), fi, cz')) : wpY_place post ((nI n), ft, (nI K), (fun i => nI (e i)), fi, cz) 0 1 := by
  have H := fr_ypl (post := post) (ft := ft) (cz := cz) (K := K) (i := 0) (g := 1) (b := fun _ => 0) hn hF (by omega) hK (by omega) (by omega) (fun q hq => absurd hq (Nat.not_lt_zero q)) (fun cz' hcz' => h cz' (fun q hq => by
    rw [hcz' q hq, if_neg (Nat.not_lt_zero q)]
    unfold fr_c0
    rw [if_neg (by omega)]
    exact congrArg (fun x => nI (fr_cd e n x)) (by omega)))
  rw [fr_cd_one e hn2] at H
  exact H
theorem fr_ybe43 {post : SY → Prop} {J6 : Int32 → Int32 → Int32 → Int32 → (Nat → Int32) → (Nat → Int32) → (Nat → Int32) → Prop} {K : Nat} (hn2 : 2 ≤ n) (hn : n ≤ 5) (he : ∀ i, e i < 3 * (n + 1)) (hF : fr_F n e fi 64) (hK1 : 1 ≤ K) (hKn : K ≤ n) (hKm : K ≤ fr_m e n) (hok : ∀ t, fr_ok e n t → t (5 - K) ≠ 0)
    (hcz : ∀ q, q < K → cz q = nI (fr_cd e n (fr_c0 K (5 - K + q))))
    (h : ∀ cz' c, fr_best e n c → (∀ q, q < fr_nz c 5 → cz' q = nI (fr_cd e n (c (5 - fr_nz c 5 + q)))) → post ((nI n), ft, (nI (fr_nz c 5)), (fun i => nI (e i)), fi, cz'))
    (hJ : ∀ cz', K < n → (∀ t, fr_ok e n t → t (4 - K) ≠ 0) → J6 (nI (K + 1)) (nI n) ft (nI K) (fun i => nI (e i)) fi cz') : ∃ N, wY_best_43 post J6 (nI K) N 1 0 (nI n) ft (nI K) (fun i => nI (e i)) fi cz := by
  have hp := fr_2n hn
  have hm := fr_m_lt e n
  refine loop_m (fun N (z : Int32 × Nat × (Nat → Int32)) => wY_best_43 post J6 (nI K) N z.1 (nI z.2.1) (nI n) ft (nI K) (fun i => nI (e i)) fi z.2.2) (fun z => z.2.1 ≤ 200000 ∧ ((z.1 = 1 ∧ ∃ c, fr_val (fr_m e n) c ∧ (∀ p, p < 5 - K → c p = 0) ∧ (∀ p, 5 - K ≤ p → p < 5 → c p ≠ 0) ∧ (∀ q, q < K → z.2.2 q = nI (fr_cd e n (c (5 - K + q)))) ∧ (∀ t, fr_ok e n t → fr_le c t) ∧ z.2.1 + fr_rem (fr_m e n) c + 1 ≤ fr_zs (fr_m e n) K + 169911) ∨ (z.1 = 0 ∧ K < n ∧ ∀ t, fr_ok e n t → t (4 - K) ≠ 0))) (fun z => 200000 - z.2.1) ?_ (1, 0, cz) ?_
  · rintro N ⟨mo, rd, cz⟩ ⟨hrd, hz⟩ hk
    dsimp only at hrd hz
    rcases hz with ⟨rfl, c, hv, hc0, hnz, hcz, hle, hrem⟩ | ⟨rfl, hKn2, hok2⟩
    · have hzl := fr_zs_le (m := fr_m e n) hK1 (by omega) hc0
      have hrd2 : rd < 200000 := by omega
      refine br_f (nI_ge (b := 200000) hrd2 (by omega)) (br_f (show ¬ (1 : Int32) = 0 by decide) ?_)
      refine fr_yco (L := fun q => fr_cd e n (c (5 - K + q))) hn he hF (by omega) (by omega) hcz (fun q hq => fr_cd_lt (fr_val_m hv (by omega))) (fun hcov => ?_) (fun hcov => ?_)
      · rw [fr_cov_eq (fr_mem_K (by omega) hc0)] at hcov
        refine br_f (by decide) ?_
        have hz := fr_nz_K hK1 (by omega) hv hc0 hnz
        have := h cz c ⟨⟨hv, hcov⟩, hle⟩ (by rw [hz]; exact hcz)
        rw [hz] at this
        exact this
      · rw [fr_cov_eq (fr_mem_K (by omega) hc0)] at hcov
        have hlt : ∀ t, fr_ok e n t → fr_lt c t := fun t ht => fr_lt_cov (hle t ht) ht hcov
        refine br_t rfl ?_
        refine fr_yad hn hF (by omega) (by omega) hv hnz hcz ?_ ?_
        · intro p hp1 hp2 hr hq cz' hcz'
          have hr2 := fr_rem_lt hp2 hr
          refine nm_r (nI_1 rd) (hk (1, rd + 1, cz') ⟨show rd + 1 ≤ 200000 by omega, Or.inl ⟨rfl, fr_nt c p, fr_val_nt hv hp2 hr, ?_, ?_, hcz', fun t ht => fr_nt_le ht.1 (hlt t ht) hp2 hr hq, ?_⟩⟩ ?_)
          · intro q hq5
            unfold fr_nt
            rw [if_pos (by omega)]
            exact hc0 q hq5
          · intro q hq1 hq2
            unfold fr_nt
            by_cases hqp : q < p
            · rw [if_pos hqp]
              exact hnz q hq1 hq2
            · rw [if_neg hqp]
              omega
          · show rd + 1 + fr_rem (fr_m e n) (fr_nt c p) + 1 ≤ _
            omega
          · show 200000 - (rd + 1) < 200000 - rd
            omega
        · intro hx
          have hE : ∀ t, fr_ok e n t → K < 5 ∧ t (4 - K) ≠ 0 := fun t ht => fr_end hK1 (by omega) ht.1 (hlt t ht) hc0 hx
          have hKn2 : K < n := by
            obtain ⟨z1, z2⟩ := hE _ (fr_si_ok he hn2 hn)
            unfold fr_si at z2
            by_cases hy : 4 - K + n < 5
            · rw [if_pos hy] at z2
              exact absurd rfl z2
            · omega
          refine nm_r (nI_1 rd) (hk (0, rd + 1, cz) ⟨show rd + 1 ≤ 200000 by omega, Or.inr ⟨rfl, hKn2, fun t ht => (hE t ht).2⟩⟩ ?_)
          show 200000 - (rd + 1) < 200000 - rd
          omega
    · have hJ' := hJ cz hKn2 hok2
      exact pk_le 200000 rd (fun _ => nm_r (nI_1 K) hJ') (fun _ => br_t (show (0 : Int32) = 0 from rfl) (nm_r (nI_1 K) hJ'))
  · refine ⟨Nat.zero_le _, Or.inl ⟨rfl, fr_c0 K, fr_c0_val hK1 (by omega) hKm, ?_, ?_, hcz, fun t ht => fr_c0_le hK1 (by omega) ht.1 (hok t ht), ?_⟩⟩
    · intro p hp5
      unfold fr_c0
      rw [if_pos (by omega)]
    · intro p hp1 hp2
      unfold fr_c0
      rw [if_neg (by omega)]
      omega
    · show 0 + fr_rem (fr_m e n) (fr_c0 K) + 1 ≤ _
      have := fr_zs_0 (m := fr_m e n) hK1 (by omega) hKm (by omega)
      omega
theorem fr_ybe {post : SY → Prop} (hn2 : 2 ≤ n) (hn : n ≤ 5) (he : ∀ i, e i < 3 * (n + 1)) (h : ∀ fi' cz' c, fr_best e n c → (∀ q, q < fr_nz c 5 → cz' q = nI (fr_cd e n (c (5 - fr_nz c 5 + q)))) → post ((nI n), ft, (nI (fr_nz c 5)), (fun i => nI (e i)), fi', cz')) : wpY_best post ((nI n), ft, fz, (fun i => nI (e i)), fi, cz) := by
  have hp := fr_2n hn
  have hm := fr_m_lt e n
  have hsi := fr_si_ok he hn2 hn
  unfold wpY_best
  dsimp only
  refine fr_yta hn2 hn he (fun fi' hF => ?_)
  refine pk_loop (fun N K (z : Int32 × (Nat → Int32)) => wY_best_6 post N (nI K) (nI n) ft z.1 (fun i => nI (e i)) fi' z.2) (fun K _ => 1 ≤ K ∧ K ≤ n ∧ ∀ t, fr_ok e n t → t (5 - K) ≠ 0) (n + 1) 1 (fz, cz) (by omega) ⟨Nat.le_refl 1, by omega, fun t ht => fr_ok_4 (by omega) ht⟩ ?_ ?_
  · rintro N z ⟨_, hx, _⟩
    omega
  · rintro N K ⟨fz, cz⟩ _ ⟨hK1, hKn, hok⟩ hk
    have hKm : K ≤ fr_m e n := by
      have h1 := hok _ hsi
      obtain ⟨b0, b1, b2, b3, b4, _⟩ := fr_val_b hsi.1
      rcases (show K = 1 ∨ K = 2 ∨ K = 3 ∨ K = 4 ∨ K = 5 by omega) with rfl | rfl | rfl | rfl | rfl
      · have h1' : fr_si e n 4 ≠ 0 := h1
        omega
      · have h1' : fr_si e n 3 ≠ 0 := h1
        omega
      · have h1' : fr_si e n 2 ≠ 0 := h1
        omega
      · have h1' : fr_si e n 1 ≠ 0 := h1
        omega
      · have h1' : fr_si e n 0 ≠ 0 := h1
        omega
    refine br_f (nI_nlt hKn (by omega)) (br_f (nI_nlt (a := 5) (by omega) (by omega)) ?_)
    refine fr_yro (c := 0) (w := K) hn hF (Nat.two_pow_pos n) (by omega) (fun _ => ?_) (fun hx => ?_)
    · refine br_f (by decide) ?_
      refine fr_ypl0 hn2 hn hF hK1 (by omega) hKm (fun cz' hcz' => ?_)
      refine fr_ybe43 hn2 hn he hF hK1 hKn hKm hok hcz' (fun cz2 c hb hc => h fi' cz2 c hb hc) (fun cz2 hKn2 hok2 => ?_)
      exact hk (nI K, cz2) ⟨by omega, by omega, fun t ht => by
        have := hok2 t ht
        rw [show 4 - K = 5 - (K + 1) by omega] at this
        exact this⟩
    · exact absurd (show K + 0 ≤ fr_m e n by omega) hx
/-! isCover -/
def fr_dl (k x : Nat) : Nat := if k < x then 1 else 0
theorem fr_dl_le (k x : Nat) : fr_dl k x ≤ 1 ∧ fr_dl (k + 1) x ≤ fr_dl k x := by
  unfold fr_dl
  by_cases h : k + 1 < x
  · rw [if_pos h, if_pos (by omega)]; omega
  · rw [if_neg h]
    by_cases h2 : k < x
    · rw [if_pos h2]; omega
    · rw [if_neg h2]; omega
theorem fr_dl_eq {k x : Nat} (h : k + 1 = x) : fr_dl k x = 1 ∧ fr_dl (k + 1) x = 0 := ⟨if_pos (by omega), if_neg (by omega)⟩
theorem fr_yic {post : Int32 → SY → Prop} {a b c : Nat} (hn2 : 2 ≤ n) (hn : n ≤ 5) (he : ∀ i, e i < 3 * (n + 1)) (ha : a < 2 ^ n) (hb : b < 2 ^ n) (hc : c < 2 ^ n) (hnz : ¬ (a = 0 ∧ b = 0 ∧ c = 0)) (h1 : ∀ fz' fi' cz', fr_cov e n (fun d => d ≠ 0 ∧ (d = a ∨ d = b ∨ d = c)) → post 1 ((nI n), ft, fz', (fun i => nI (e i)), fi', cz')) (h0 : ∀ fz' fi' cz', ¬ fr_cov e n (fun d => d ≠ 0 ∧ (d = a ∨ d = b ∨ d = c)) → post 0 ((nI n), ft, fz', (fun i => nI (e i)), fi', cz')) : wY_isCover_40 post (nI a) (nI b) (nI c) (nI n) ft fz (fun i => nI (e i)) fi cz := by
  have hp := fr_2n hn
  have hp4 := fr_2n4 hn2
  unfold wY_isCover_40
  refine fr_yta hn2 hn he (fun fi' hF => ?_)
  refine pk_loop (fun N k (z : Int32 × (Nat → Int32)) => wY_isCover_52 post (nI a) (nI b) (nI c) (nI n) ft N (nI (k + 1)) z.1 (fun i => nI (e i)) fi' z.2) (fun k z => ∃ (K : Nat) (L : Nat → Nat), z.1 = nI K ∧ (∀ p, p < K → z.2 p = nI (L p)) ∧ (∀ d, (∃ p, p < K ∧ L p = d) ↔ 1 ≤ d ∧ d ≤ k ∧ (d = a ∨ d = b ∨ d = c)) ∧ K + fr_dl k a + fr_dl k b + fr_dl k c ≤ 3) (2 ^ n - 1) 0 (0, cz) (by omega) ?_ ?_ ?_
  · have d1 := (fr_dl_le 0 a).1
    have d2 := (fr_dl_le 0 b).1
    have d3 := (fr_dl_le 0 c).1
    refine ⟨0, fun _ => 0, rfl, fun p hp => absurd hp (Nat.not_lt_zero p), fun d => ⟨?_, ?_⟩, by omega⟩
    · rintro ⟨p, hp, _⟩
      exact absurd hp (Nat.not_lt_zero p)
    · rintro ⟨z1, z2, _⟩
      omega
  · rintro N ⟨z, cz⟩ ⟨K, L, hz, hL, hM, hK⟩
    dsimp only at hz hL
    subst hz
    refine br_t (fr_c_t hn) ?_
    have hK0 : 0 < K := by
      have : ∃ d, 1 ≤ d ∧ d ≤ 2 ^ n - 1 ∧ (d = a ∨ d = b ∨ d = c) := by
        by_cases ha0 : a = 0
        · by_cases hb0 : b = 0
          · by_cases hc0 : c = 0
            · exact absurd ⟨ha0, hb0, hc0⟩ hnz
            · exact ⟨c, by omega, by omega, Or.inr (Or.inr rfl)⟩
          · exact ⟨b, by omega, by omega, Or.inr (Or.inl rfl)⟩
        · exact ⟨a, by omega, by omega, Or.inl rfl⟩
      obtain ⟨d, hd⟩ := this
      obtain ⟨p, hp, _⟩ := (hM d).mpr hd
      omega
    have hE : ∀ d, fr_lm K L d ↔ (d ≠ 0 ∧ (d = a ∨ d = b ∨ d = c)) := by
      intro d
      constructor
      · rintro ⟨hd, hx⟩
        exact ⟨hd, ((hM d).mp hx).2.2⟩
      · rintro ⟨hd, hx⟩
        refine ⟨hd, (hM d).mpr ⟨by omega, ?_, hx⟩⟩
        rcases hx with rfl | rfl | rfl <;> omega
    have hcov := fr_cov_eq (e := e) (n := n) hE
    refine fr_yco (L := L) hn he hF hK0 (by omega) hL (fun p hp => ?_) (fun hx => ?_) (fun hx => ?_)
    · have := ((hM (L p)).mp ⟨p, hp, rfl⟩).2.1
      omega
    · exact br_f (by decide) (h1 _ _ _ (hcov.mp hx))
    · exact br_t rfl (h0 _ _ _ (fun z => hx (hcov.mpr z)))
  · rintro N k ⟨z, cz⟩ hk1 ⟨K, L, hz, hL, hM, hK⟩ hk
    dsimp only at hz hL
    subst hz
    refine br_f (fr_c_f hn (by omega)) ?_
    have d1 := fr_dl_le k a
    have d2 := fr_dl_le k b
    have d3 := fr_dl_le k c
    have hin : (k + 1 = a ∨ k + 1 = b ∨ k + 1 = c) → wY_isCover_81 post (wY_isCover_52 post (nI a) (nI b) (nI c) (nI n) ft N) (nI a) (nI b) (nI c) (nI (k + 1)) (nI n) ft (nI K) (fun i => nI (e i)) fi' cz := by
      intro hx
      have hK4 : K + 1 + fr_dl (k + 1) a + fr_dl (k + 1) b + fr_dl (k + 1) c ≤ 3 := by
        rcases hx with hx | hx | hx <;> have q := fr_dl_eq hx <;> omega
      refine br_f (nI_ge (b := 5) (by omega) (by omega)) ⟨vp_in_nI (by omega) (by omega), ?_⟩
      rw [nI_clamp (by omega)]
      refine nm_e (nm_r (nI_1 K) (nm_r (nI_1 (k + 1)) (hk (nI (K + 1), upd cz K (nI (k + 1))) ⟨K + 1, fun p => if p = K then k + 1 else L p, rfl, fun p hp => ?_, fun d => ?_, hK4⟩)))
      · dsimp only
        by_cases hpK : p = K
        · subst hpK
          rw [pk_us, if_pos rfl]
        · rw [pk_un hpK, if_neg hpK]
          exact hL p (by omega)
      · dsimp only
        constructor
        · rintro ⟨p, hp, hd⟩
          by_cases hpK : p = K
          · rw [if_pos hpK] at hd
            subst hd
            exact ⟨by omega, by omega, hx⟩
          · rw [if_neg hpK] at hd
            obtain ⟨z1, z2, z3⟩ := (hM d).mp ⟨p, by omega, hd⟩
            exact ⟨z1, by omega, z3⟩
        · rintro ⟨z1, z2, z3⟩
          by_cases hdk : d = k + 1
          · exact ⟨K, by omega, by rw [if_pos rfl]; exact hdk.symm⟩
          · obtain ⟨p, hp, hd⟩ := (hM d).mpr ⟨z1, by omega, z3⟩
            exact ⟨p, by omega, by rw [if_neg (by omega)]; exact hd⟩
    refine pk_eq (k + 1) a (fun hx => hin (Or.inl hx)) (fun hx1 => ?_)
    refine pk_eq (k + 1) b (fun hx => hin (Or.inr (Or.inl hx))) (fun hx2 => ?_)
    refine pk_eq (k + 1) c (fun hx => hin (Or.inr (Or.inr hx))) (fun hx3 => ?_)
    refine nm_r (nI_1 (k + 1)) (hk (nI K, cz) ⟨K, L, rfl, hL, fun d => ?_, ?_⟩)
    · rw [hM d]
      constructor
      · rintro ⟨z1, z2, z3⟩
        exact ⟨z1, by omega, z3⟩
      · rintro ⟨z1, z2, z3⟩
        refine ⟨z1, ?_, z3⟩
        rcases z3 with z3 | z3 | z3 <;> omega
    · omega
end FRY4
