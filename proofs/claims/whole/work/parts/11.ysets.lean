section FRY2
variable {n : Nat} {e : Nat → Nat} {ft fz : Int32} {fi cz : Nat → Int32}
def fr_F (n : Nat) (e : Nat → Nat) (fi : Nat → Int32) (k : Nat) : Prop := ∀ p q, p < n → q < n → 8 * p + q < k → fi (8 * p + q) = fr_b (decide (fr_sl e 10 p q = 0))
theorem fr_F_put {s t : Nat} (ht : t < n) (hn : n ≤ 5) (hF : fr_F n e fi (8 * s + t)) : fr_F n e (upd fi (8 * s + t) (fr_b (decide (fr_sl e 10 s t = 0)))) (8 * s + t + 1) := by
  intro p q hp hq hk
  by_cases h : 8 * p + q = 8 * s + t
  · have : p = s := by omega
    have : q = t := by omega
    subst p q
    exact pk_us
  · rw [pk_un h]
    exact hF p q hp hq (by omega)
theorem fr_yta {post : SY → Prop} (hn2 : 2 ≤ n) (hn : n ≤ 5) (he : ∀ i, e i < 3 * (n + 1)) (h : ∀ fi', fr_F n e fi' 64 → post ((nI n), ft, fz, (fun i => nI (e i)), fi', cz)) : wpY_tabulate post ((nI n), ft, fz, (fun i => nI (e i)), fi, cz) := by
  unfold wpY_tabulate
  dsimp only
  refine pk_loop (fun N s (z : Nat → Int32) => wY_tabulate_2 post (nI n) ft fz N (nI s) (fun i => nI (e i)) z cz) (fun s z => fr_F n e z (8 * s)) n 0 fi (by omega) (fun p q _ _ hk => absurd hk (Nat.not_lt_zero _)) ?_ ?_
  · rintro N z hz
    refine br_t (nI_le (Nat.le_refl n) (by omega)) (h z ?_)
    intro p q hp hq _
    exact hz p q hp hq (by omega)
  · rintro N s z hs hz hk
    refine br_f (nI_ge hs (by omega)) (br_f (nI_ge (b := 5) (by omega) (by omega)) ?_)
    refine pk_loop (fun N2 t (y : Nat → Int32) => wY_tabulate_17 post (wY_tabulate_2 post (nI n) ft fz N) (nI s) (nI n) ft fz N2 (nI t) (fun i => nI (e i)) y cz) (fun t y => fr_F n e y (8 * s + t)) n 0 z (by omega) hz ?_ ?_
    · rintro N2 y hy
      refine br_t (nI_le (Nat.le_refl n) (by omega)) (nm_r (nI_1 s) (hk y ?_))
      intro p q hp hq hx
      exact hy p q hp hq (by omega)
    · rintro N2 t y ht hy hk2
      have hput := fr_F_put ht hn hy
      have hin : vp_in (nI (8 * s + t)) 64 := vp_in_nI (by omega) (by omega)
      refine br_f (nI_ge ht (by omega)) (br_f (nI_ge (b := 5) (by omega) (by omega)) ?_)
      rw [fr_ix8, nI_eq (by omega) (by omega), fr_nb1, fr_nb0]
      by_cases hst : s = t
      · refine br_t hst ⟨hin, nm_e (nm_r (nI_1 t) (hk2 _ ?_))⟩
        rw [nI_clamp (by omega)]
        have hd : fr_sl e 10 s t = 0 := by rw [hst]; exact fr_sl_re e 10 t
        rw [decide_eq_true hd] at hput
        exact hput
      · refine br_f hst ?_
        refine fr_ysh hn2 hn he hs ht ?_
        have hl := fr_sl_le e 10 s t
        refine pk_eq (fr_sl e 10 s t) 0 (fun hd => ⟨hin, nm_e (nm_r (nI_1 t) (hk2 _ ?_))⟩) (fun hd => ⟨hin, nm_e (nm_r (nI_1 t) (hk2 _ ?_))⟩)
        · rw [nI_clamp (by omega)]
          rw [decide_eq_true hd] at hput
          exact hput
        · rw [nI_clamp (by omega)]
          rw [decide_eq_false hd] at hput
          exact hput
theorem fr_yin {post : Int32 → Prop} {c s : Nat} (hc : c < 2 ^ 31) (hs : s < 32) (h : post (fr_b (c.testBit s))) : wpY_in post ((nI n), ft, fz, (fun i => nI (e i)), fi, cz) (nI c) (nI s) := by
  unfold wpY_in
  dsimp only
  rw [fr_bit hc hs]
  by_cases hb : c.testBit s = true
  · rw [hb] at h
    exact br_t hb h
  · rw [fr_bf hb] at h
    exact br_f hb h
theorem fr_yag {post : Int32 → Prop} {c : Nat} (hn : n ≤ 5) (hc : c < 2 ^ 31) (hF : fr_F n e fi 64) (h : post (fr_b (fr_cs e n c))) : wpY_agreeing post ((nI n), ft, fz, (fun i => nI (e i)), fi, cz) (nI c) := by
  unfold wpY_agreeing
  dsimp only
  refine pk_loop (fun N s (_ : Unit) => wY_agreeing_2 post (nI c) (nI n) ft fz (fun i => nI (e i)) fi cz N (nI s)) (fun s _ => ∀ p q, p < s → q < n → c.testBit p = true → c.testBit q = true → fr_sl e 10 p q = 0) n 0 () (by omega) (fun p q hp => absurd hp (Nat.not_lt_zero p)) ?_ ?_
  · rintro N _ hI
    rw [fr_cs_iff.mpr (fun s t hs ht a b => hI s t hs ht a b)] at h
    exact br_t (nI_le (Nat.le_refl n) (by omega)) h
  · rintro N s _ hs hI hk
    refine br_f (nI_ge hs (by omega)) (br_f (nI_ge (b := 5) (by omega) (by omega)) ?_)
    refine pk_loop (fun N2 t (_ : Unit) => wY_agreeing_17 post (wY_agreeing_2 post (nI c) (nI n) ft fz (fun i => nI (e i)) fi cz N) (nI c) (nI s) (nI n) ft fz (fun i => nI (e i)) fi cz N2 (nI t)) (fun t _ => ∀ q, q < t → c.testBit s = true → c.testBit q = true → fr_sl e 10 s q = 0) n 0 () (by omega) (fun q hq => absurd hq (Nat.not_lt_zero q)) ?_ ?_
    · rintro N2 _ hJ
      refine br_t (nI_le (Nat.le_refl n) (by omega)) (nm_r (nI_1 s) (hk () ?_))
      intro p q hp hq a b
      by_cases hps : p = s
      · subst hps; exact hJ q hq a b
      · exact hI p q (by omega) hq a b
    · rintro N2 t _ ht hJ hk2
      refine br_f (nI_ge ht (by omega)) (br_f (nI_ge (b := 5) (by omega) (by omega)) ?_)
      refine fr_yin hc (by omega) ?_
      rw [fr_b_0]
      by_cases b1 : c.testBit s = true
      · refine br_f (fun z => z b1) ?_
        refine fr_yin hc (by omega) ?_
        rw [fr_b_0]
        by_cases b2 : c.testBit t = true
        · refine br_f (fun z => z b2) ?_
          rw [fr_ix8]
          refine ⟨vp_in_nI (by omega) (by omega), ?_⟩
          rw [nI_clamp (by omega), hF s t hs ht (by omega), fr_b_0, decide_eq_true_iff]
          by_cases hz : fr_sl e 10 s t = 0
          · refine br_f (fun z => z hz) (nm_r (nI_1 t) (hk2 () ?_))
            intro q hq a b
            by_cases hqt : q = t
            · subst hqt; exact hz
            · exact hJ q (by omega) a b
          · rw [fr_cs_f hs ht b1 b2 hz] at h
            exact br_t hz h
        · refine br_t b2 (nm_r (nI_1 t) (hk2 () ?_))
          intro q hq a b
          by_cases hqt : q = t
          · subst hqt; exact absurd b b2
          · exact hJ q (by omega) a b
      · refine br_t b1 (nm_r (nI_1 t) (hk2 () ?_))
        intro q hq a b
        exact absurd a b1
theorem fr_yla {post : Int32 → Prop} {c : Nat} (hn2 : 2 ≤ n) (hn : n ≤ 5) (hc : c < 2 ^ n) (hF : fr_F n e fi 64) (h : post (fr_b (fr_mx e n c))) : wpY_largest post ((nI n), ft, fz, (fun i => nI (e i)), fi, cz) (nI c) := by
  have hp := fr_2n hn
  have hp4 := fr_2n4 hn2
  unfold wpY_largest
  dsimp only
  refine fr_yag hn (by omega) hF ?_
  rw [fr_b_0]
  by_cases hcs : fr_cs e n c = true
  · refine br_f (fun z => z hcs) ?_
    refine pk_loop (fun N d (_ : Unit) => wY_largest_12 post (nI c) (nI n) ft fz (fun i => nI (e i)) fi cz N (nI d)) (fun d _ => 1 ≤ d ∧ ∀ x, 1 ≤ x → x < d → x ≠ c → x &&& c = c → fr_cs e n x = false) (2 ^ n) 1 () (by omega) ⟨Nat.le_refl 1, fun x h1 h2 => absurd h2 (by omega)⟩ ?_ ?_
    · rintro N _ ⟨_, hI⟩
      have hc2 : (1 : Int32) <<< (nI n &&& 31) ≤ nI (2 ^ n) := by
        rw [fr_shl (by omega)]
        exact nI_le (Nat.le_refl _) (by omega)
      rw [(fr_mx_big hc).mpr ⟨hcs, hI⟩] at h
      exact br_t hc2 h
    · rintro N d _ hd ⟨hd1, hI⟩ hk
      have hc2 : ¬ (1 : Int32) <<< (nI n &&& 31) ≤ nI d := by
        rw [fr_shl (by omega)]
        exact nI_ge hd (by omega)
      refine br_f hc2 ?_
      have hle : d &&& c ≤ c := Nat.and_le_right
      rw [nx_and, nI_eq (by omega) (by omega), nI_eq (by omega) (by omega)]
      have K : (d ≠ c → d &&& c = c → fr_cs e n d = false) → 1 ≤ d + 1 ∧ ∀ x, 1 ≤ x → x < d + 1 → x ≠ c → x &&& c = c → fr_cs e n x = false := by
        intro hK
        refine ⟨by omega, fun x h1 h2 h3 h4 => ?_⟩
        by_cases hxd : x = d
        · subst hxd; exact hK h3 h4
        · exact hI x h1 (by omega) h3 h4
      by_cases h1 : d = c
      · exact br_t h1 (nm_r (nI_1 d) (hk () (K (fun z => absurd h1 z))))
      · refine br_f h1 ?_
        by_cases h2 : d &&& c = c
        · refine br_t h2 ?_
          refine fr_yag hn (by omega) hF ?_
          rw [fr_b_0]
          by_cases h3 : fr_cs e n d = true
          · refine br_f (fun z => z h3) ?_
            have : fr_mx e n c = false := fr_bf (fun z => by
              have := ((fr_mx_big hc).mp z).2 d hd1 hd h1 h2
              rw [h3] at this
              cases this)
            rw [this] at h
            exact h
          · exact br_t h3 (nm_r (nI_1 d) (hk () (K (fun _ _ => fr_bf h3))))
        · exact br_f h2 (nm_r (nI_1 d) (hk () (K (fun _ z => absurd z h2))))
  · have : fr_mx e n c = false := fr_bf (fun z => hcs (fr_mx_iff.mp z).1)
    rw [this] at h
    exact br_t hcs h
theorem fr_c_t {n : Nat} (hn : n ≤ 5) : (1 : Int32) <<< (nI n &&& 31) ≤ nI (2 ^ n - 1 + 1) := by
  have hp := fr_2n hn
  have := Nat.two_pow_pos n
  rw [fr_shl (by omega)]
  exact nI_le (by omega) (by omega)
theorem fr_c_f {n d : Nat} (hn : n ≤ 5) (hd : d < 2 ^ n) : ¬ (1 : Int32) <<< (nI n &&& 31) ≤ nI d := by
  have hp := fr_2n hn
  rw [fr_shl (by omega)]
  exact nI_ge hd (by omega)
theorem fr_yms {post : Int32 → SY → Prop} (hn2 : 2 ≤ n) (hn : n ≤ 5) (he : ∀ i, e i < 3 * (n + 1)) (h : ∀ fi', post (nI (fr_mc e n (2 ^ n - 1))) ((nI n), ft, fz, (fun i => nI (e i)), fi', cz)) : wpY_maximals post ((nI n), ft, fz, (fun i => nI (e i)), fi, cz) := by
  have hp := fr_2n hn
  have hp4 := fr_2n4 hn2
  unfold wpY_maximals
  dsimp only
  refine fr_yta hn2 hn he (fun fi' hF => ?_)
  refine pk_loop (fun N k (z : Int32) => wY_maximals_8 post (nI n) ft fz (fun i => nI (e i)) fi' cz N z (nI (k + 1))) (fun k z => z = nI (fr_mc e n k)) (2 ^ n - 1) 0 0 (by omega) rfl ?_ ?_
  · rintro N z rfl
    exact br_t (fr_c_t hn) (h fi')
  · rintro N k z hk1 rfl hk
    refine br_f (fr_c_f hn (by omega)) ?_
    refine fr_yla hn2 hn (by omega) hF ?_
    rw [fr_b_0]
    by_cases hm : fr_mx e n (k + 1) = true
    · refine br_f (fun z => z hm) ?_
      rw [nI_1]
      refine nm_e (nm_r (nI_1 (k + 1)) (hk _ ?_))
      rw [fr_mc_s, if_pos hm]
    · refine br_t hm (nm_r (nI_1 (k + 1)) (hk _ ?_))
      rw [fr_mc_s, if_neg hm]
      rfl
theorem fr_ymx {post : Int32 → SY → Prop} {x : Int32} (hn2 : 2 ≤ n) (hn : n ≤ 5) (he : ∀ i, e i < 3 * (n + 1)) (h1 : ∀ fi' c, c < 2 ^ n - 1 → fr_mx e n (c + 1) = true → nI (fr_mc e n c) = x → post (nI (c + 1)) ((nI n), ft, fz, (fun i => nI (e i)), fi', cz)) (h0 : ∀ fi', (∀ c, c < 2 ^ n - 1 → fr_mx e n (c + 1) = true → ¬ nI (fr_mc e n c) = x) → post (-1) ((nI n), ft, fz, (fun i => nI (e i)), fi', cz)) : wpY_maximal post ((nI n), ft, fz, (fun i => nI (e i)), fi, cz) x := by
  have hp := fr_2n hn
  have hp4 := fr_2n4 hn2
  unfold wpY_maximal
  dsimp only
  refine fr_yta hn2 hn he (fun fi' hF => ?_)
  refine pk_loop (fun N k (z : Int32) => wY_maximal_8 post x (nI n) ft fz (fun i => nI (e i)) fi' cz N z (nI (k + 1))) (fun k z => z = nI (fr_mc e n k) ∧ ∀ c, c < k → fr_mx e n (c + 1) = true → ¬ nI (fr_mc e n c) = x) (2 ^ n - 1) 0 0 (by omega) ⟨rfl, fun c hc => absurd hc (Nat.not_lt_zero c)⟩ ?_ ?_
  · rintro N z ⟨rfl, hI⟩
    exact br_t (fr_c_t hn) (h0 fi' hI)
  · rintro N k z hk1 ⟨rfl, hI⟩ hk
    refine br_f (fr_c_f hn (by omega)) ?_
    refine fr_yla hn2 hn (by omega) hF ?_
    rw [fr_b_0]
    by_cases hm : fr_mx e n (k + 1) = true
    · refine br_f (fun z => z hm) ?_
      by_cases hx : nI (fr_mc e n k) = x
      · exact br_t hx (h1 fi' k hk1 hm hx)
      · refine br_f hx ?_
        rw [nI_1]
        refine nm_e (nm_r (nI_1 (k + 1)) (hk _ ⟨?_, fun c hc hcm => ?_⟩))
        · rw [fr_mc_s, if_pos hm]
        · by_cases hck : c = k
          · subst hck; exact hx
          · exact hI c (by omega) hcm
    · refine br_t hm (nm_r (nI_1 (k + 1)) (hk _ ⟨?_, fun c hc hcm => ?_⟩))
      · rw [fr_mc_s, if_neg hm]
        rfl
      · by_cases hck : c = k
        · subst hck; exact absurd hcm hm
        · exact hI c (by omega) hcm
theorem fr_yim {post : Int32 → Prop} {c a : Nat} (hn : n ≤ 5) (he : ∀ i, e i < 3 * (n + 1)) (hc : c < 2 ^ 31) (ha : a < 2) (h : post (nI (fr_im e c a n))) : wpY_image post ((nI n), ft, fz, (fun i => nI (e i)), fi, cz) (nI c) (nI a) := by
  unfold wpY_image
  dsimp only
  refine pk_loop (fun N s (z : Int32) => wY_image_5 post (nI c) (nI a) (nI n) ft fz (fun i => nI (e i)) fi cz N z (nI s)) (fun s z => z = nI (fr_im e c a s)) n 0 0 (by omega) rfl ?_ ?_
  · rintro N z rfl
    exact br_t (nI_le (Nat.le_refl n) (by omega)) h
  · rintro N s z hs rfl hk
    refine br_f (nI_ge hs (by omega)) (br_f (nI_ge (b := 5) (by omega) (by omega)) ?_)
    refine fr_ynx hn he (by omega) ha ?_
    have b := fr_nx_le he s a
    refine fr_yin hc (by omega) ?_
    rw [fr_b_0, fr_dn_m (by omega)]
    by_cases h1 : c.testBit s = true
    · refine br_f (fun z => z h1) ?_
      by_cases h2 : fr_nx e s a = 0
      · refine br_t h2 (nm_r (nI_1 s) (hk _ ?_))
        rw [fr_im_s, if_neg (fun z => z.2 h2)]
      · refine br_f h2 ?_
        rw [fr_dn_p h2, fr_shl (by omega), fr_or32]
        refine nm_e (nm_r (nI_1 s) (hk _ ?_))
        rw [fr_im_s, if_pos ⟨h1, h2⟩]
    · refine br_t h1 (nm_r (nI_1 s) (hk _ ?_))
      rw [fr_im_s, if_neg (fun z => h1 z.1)]
end FRY2
