def i_Rel (k : Nat) (u : SX) (v : SY) : Prop := ∃ (n : Nat) (e : Nat → Nat) (fc fm fo fr : Int32) (sl sw im ic cd mx ch cv ak : Nat → Int32) (fz : Int32) (fi cz : Nat → Int32), u = ((nI n), (nI (2 ^ n - 1)), fc, fm, fo, fr, (fun i => nI (e i)), sl, sw, im, ic, cd, mx, ch, cv, ak) ∧ v = ((nI n), fr, fz, (fun i => nI (e i)), fi, cz) ∧ fr_R n e fc fm fo fr sl sw im ic cd mx cv ak
theorem fr_rel (k : Nat) {n : Nat} {e : Nat → Nat} {fc fm fo fr : Int32} {sl sw im ic cd mx ch cv ak : Nat → Int32} {fz : Int32} {fi cz : Nat → Int32} (h : fr_R n e fc fm fo fr sl sw im ic cd mx cv ak) : i_Rel k ((nI n), (nI (2 ^ n - 1)), fc, fm, fo, fr, (fun i => nI (e i)), sl, sw, im, ic, cd, mx, ch, cv, ak) ((nI n), fr, fz, (fun i => nI (e i)), fi, cz) := ⟨n, e, fc, fm, fo, fr, sl, sw, im, ic, cd, mx, ch, cv, ak, fz, fi, cz, rfl, rfl, h⟩
theorem i_up {k : Nat} {u : SX} {v : SY} (h : i_Rel k u v) : i_Rel (k + 4) u v := h
theorem fr_init {post : SX → Prop} {n : Nat} (hn2 : 2 ≤ n) (hn : n ≤ 5) (h : ∀ u, i_Rel 1 u (nI n, 0, 0, (fun _ => 0), (fun _ => 0), (fun _ => 0)) → post u) : wX_init_101 post (nI n) 0 0 0 0 0 0 (fun _ => 0) (fun _ => 0) (fun _ => 0) (fun _ => 0) (fun _ => 0) (fun _ => 0) (fun _ => 0) (fun _ => 0) (fun _ => 0) (fun _ => 0) := by
  unfold wX_init_101
  refine nm_r (fr_all1 (by omega)) ?_
  refine fr_xwo (e := fun _ => 0) hn2 hn (fun i => by omega) rfl rfl rfl (fun fc fm fo sl sw im ic cd mx ch cv hW => ?_)
  exact h _ (fr_rel 1 (e := fun _ => 0) (fr := 0) (ak := fun _ => 0) ⟨hn2, hn, fun i => (show 0 < 3 * (n + 1) by omega), hW, rfl, rfl, Or.inr ⟨0, by omega, rfl⟩⟩)
theorem i_vc0 (k0 : Int32) : wpX_init (fun u => wpY_init (fun v => i_Rel 1 u v) k0) k0 := by
  by_cases h2 : 2 ≤ k0
  · by_cases h5 : k0 ≤ 5
    · have h0 : ¬ k0 < 0 := fun z => absurd (Int32.lt_of_le_of_lt h2 z) (by decide)
      obtain ⟨n, hn, rfl⟩ := nI_of2 (M := 5) (n := 5) (by decide) h0 h5
      have hn2 : 2 ≤ n := (nI_leI (a := 2) (by omega) (by omega)).mp h2
      exact br_t h2 (br_t h5 (fr_init hn2 hn (fun u hu => br_t h2 (br_t h5 hu))))
    · exact br_t h2 (br_f h5 (fr_init (n := 5) (by omega) (by omega) (fun u hu => br_t h2 (br_f h5 hu))))
  · exact br_f h2 (fr_init (n := 2) (by omega) (by omega) (fun u hu => br_f h2 hu))
theorem i_vc_states {k : Nat} {u : SX} {v : SY} (I : i_Rel k u v) (hk : k + 4 ≤ 2049) : wpX_states (fun r => wpY_states (fun r' => r' = r ∧ i_Rel (k + 4) u v) v) u := by
  have J := i_up I
  obtain ⟨n, e, fc, fm, fo, fr, sl, sw, im, ic, cd, mx, ch, cv, ak, fz, fi, cz, rfl, rfl, hR⟩ := I
  exact ⟨rfl, J⟩
theorem i_vc_set {k : Nat} {u : SX} {v : SY} (I : i_Rel k u v) (hk : k + 4 ≤ 2049) (v1 : Int32) (v2 : Int32) (v3 : Int32) : wpX_set (fun r u' => wpY_set (fun r' v' => r' = r ∧ i_Rel (k + 4) u' v') v v1 v2 v3) u v1 v2 v3 := by
  have J := i_up I
  obtain ⟨n, e, fc, fm, fo, fr, sl, sw, im, ic, cd, mx, ch, cv, ak, fz, fi, cz, rfl, rfl, hn2, hn, he, hW, ha3, ha4, hr⟩ := I
  unfold wpX_set
  dsimp only
  rcases (show (v1 < 0 ∨ nI n ≤ v1) ∨ ∃ j, j < n ∧ v1 = nI j by rcases pk_ix v1 (n := n) (by omega) with h | h | h; exact Or.inl (Or.inl h); exact Or.inl (Or.inr h); exact Or.inr h) with hb | ⟨s, hs, rfl⟩
  · refine fr_xsb hb (br_t rfl ?_)
    unfold wpY_set
    dsimp only
    exact fr_ysb hb (br_f (by decide) ⟨rfl, J⟩)
  · refine fr_xsg hn hs (br_f (by decide) ?_)
    rcases (show (v2 < 0 ∨ nI 2 ≤ v2) ∨ ∃ j, j < 2 ∧ v2 = nI j by rcases pk_ix v2 (n := 2) (by omega) with h | h | h; exact Or.inl (Or.inl h); exact Or.inl (Or.inr h); exact Or.inr h) with hb | ⟨a, ha, rfl⟩
    · refine fr_xib hb (br_t rfl ?_)
      unfold wpY_set
      dsimp only
      exact fr_ysg hn hs (br_t rfl (fr_yib hb (br_f (by decide) ⟨rfl, J⟩)))
    · refine fr_xig ha (br_f (by decide) ?_)
      by_cases h0 : v3 < 0
      · refine br_t h0 ?_
        unfold wpY_set
        dsimp only
        exact fr_ysg hn hs (br_t rfl (fr_yig ha (br_t rfl (br_t h0 ⟨rfl, J⟩))))
      · refine br_f h0 ?_
        obtain ⟨w, hw, rfl⟩ := nI_of h0
        have e3 : 3 * (nI n + 1) = nI (3 * (n + 1)) := by
          rw [nI_1]
          exact pk_mul 3 (n + 1)
        have e4 : 3 * (nI n + 1) - 1 = nI (3 * (n + 1) - 1) := by
          rw [e3]
          exact pk_sub (b := 1) (by omega)
        refine pk_lt w (3 * (n + 1)) (fun hlt => ?_) (fun hge => ?_) rfl e3
        · have hin : vp_in (nI (2 * s + a)) 10 := vp_in_nI (by omega) (by omega)
          rw [fr_ix2 s a, nI_clamp (by omega)]
          refine ⟨hin, nm_e ⟨hin, nm_r (fr_upe e (2 * s + a) w) ?_⟩⟩
          obtain ⟨i0, i1, c0⟩ := fr_W_0 hW
          have he' : ∀ i, (fun i => if i = 2 * s + a then w else e i) i < 3 * (n + 1) := by
            intro i
            dsimp only
            split
            · exact hlt
            · exact he i
          refine fr_xwo (e := fun i => if i = 2 * s + a then w else e i) hn2 hn he' i0 i1 c0 (fun fc' fm' fo' sl' sw' im' ic' cd' mx' ch' cv' hW' => ?_)
          unfold wpY_set
          dsimp only
          refine fr_ysg hn hs (br_t rfl (fr_yig ha (br_t rfl (br_f h0 ?_))))
          refine pk_le w (3 * (n + 1) - 1) (fun _ => ?_) (fun hx => absurd hx (by omega)) rfl e4
          rw [fr_ix2' s a, nI_clamp (by omega)]
          refine ⟨hin, nm_e ⟨hin, nm_r (fr_upe e (2 * s + a) w) ⟨rfl, ?_⟩⟩⟩
          exact fr_rel (k + 4) (e := fun i => if i = 2 * s + a then w else e i) (fr := 0) ⟨hn2, hn, he', hW', ha3, ha4, Or.inr ⟨0, by omega, rfl⟩⟩
        · unfold wpY_set
          dsimp only
          refine fr_ysg hn hs (br_t rfl (fr_yig ha (br_t rfl (br_f h0 ?_))))
          exact pk_le w (3 * (n + 1) - 1) (fun hx => absurd hx (by omega)) (fun _ => ⟨rfl, J⟩) rfl e4
theorem i_vc_entry {k : Nat} {u : SX} {v : SY} (I : i_Rel k u v) (hk : k + 4 ≤ 2049) (v1 : Int32) (v2 : Int32) : wpX_entry (fun r => wpY_entry (fun r' => r' = r ∧ i_Rel (k + 4) u v) v v1 v2) u v1 v2 := by
  have J := i_up I
  obtain ⟨n, e, fc, fm, fo, fr, sl, sw, im, ic, cd, mx, ch, cv, ak, fz, fi, cz, rfl, rfl, hn2, hn, he, hW, ha3, ha4, hr⟩ := I
  unfold wpX_entry
  dsimp only
  rcases (show (v1 < 0 ∨ nI n ≤ v1) ∨ ∃ j, j < n ∧ v1 = nI j by rcases pk_ix v1 (n := n) (by omega) with h | h | h; exact Or.inl (Or.inl h); exact Or.inl (Or.inr h); exact Or.inr h) with hb | ⟨s, hs, rfl⟩
  · refine fr_xsb hb (br_t rfl ?_)
    unfold wpY_entry
    dsimp only
    exact fr_ysb hb (br_f (by decide) ⟨rfl, J⟩)
  · refine fr_xsg hn hs (br_f (by decide) ?_)
    rcases (show (v2 < 0 ∨ nI 2 ≤ v2) ∨ ∃ j, j < 2 ∧ v2 = nI j by rcases pk_ix v2 (n := 2) (by omega) with h | h | h; exact Or.inl (Or.inl h); exact Or.inl (Or.inr h); exact Or.inr h) with hb | ⟨a, ha, rfl⟩
    · refine fr_xib hb (br_t rfl ?_)
      unfold wpY_entry
      dsimp only
      exact fr_ysg hn hs (br_t rfl (fr_yib hb (br_f (by decide) ⟨rfl, J⟩)))
    · refine fr_xig ha (br_f (by decide) ?_)
      have hin : vp_in (nI (2 * s + a)) 10 := vp_in_nI (by omega) (by omega)
      rw [fr_ix2 s a, nI_clamp (by omega)]
      refine ⟨hin, ?_⟩
      unfold wpY_entry
      dsimp only
      refine fr_ysg hn hs (br_t rfl (fr_yig ha (br_t rfl ?_)))
      rw [fr_ix2' s a, nI_clamp (by omega)]
      exact ⟨hin, rfl, J⟩
theorem i_vc_compatible {k : Nat} {u : SX} {v : SY} (I : i_Rel k u v) (hk : k + 4 ≤ 2049) (v1 : Int32) (v2 : Int32) : wpX_compatible (fun r => wpY_compatible (fun r' => r' = r ∧ i_Rel (k + 4) u v) v v1 v2) u v1 v2 := by
  have J := i_up I
  obtain ⟨n, e, fc, fm, fo, fr, sl, sw, im, ic, cd, mx, ch, cv, ak, fz, fi, cz, rfl, rfl, hn2, hn, he, hW, ha3, ha4, hr⟩ := I
  unfold wpX_compatible
  dsimp only
  rcases (show (v1 < 0 ∨ nI n ≤ v1) ∨ ∃ j, j < n ∧ v1 = nI j by rcases pk_ix v1 (n := n) (by omega) with h | h | h; exact Or.inl (Or.inl h); exact Or.inl (Or.inr h); exact Or.inr h) with hb | ⟨s, hs, rfl⟩
  · refine fr_xsb hb (br_t rfl ?_)
    unfold wpY_compatible
    dsimp only
    exact fr_ysb hb (br_f (by decide) ⟨rfl, J⟩)
  · refine fr_xsg hn hs (br_f (by decide) ?_)
    rcases (show (v2 < 0 ∨ nI n ≤ v2) ∨ ∃ j, j < n ∧ v2 = nI j by rcases pk_ix v2 (n := n) (by omega) with h | h | h; exact Or.inl (Or.inl h); exact Or.inl (Or.inr h); exact Or.inr h) with hb | ⟨t, ht, rfl⟩
    · refine fr_xsb hb (br_t rfl ?_)
      unfold wpY_compatible
      dsimp only
      exact fr_ysg hn hs (br_t rfl (fr_ysb hb (br_f (by decide) ⟨rfl, J⟩)))
    · refine fr_xsg hn ht (br_f (by decide) ?_)
      have hin : vp_in (nI (5 * s + t)) 25 := vp_in_nI (by omega) (by omega)
      obtain ⟨t1, t2⟩ := hW.1 s t hs ht
      rw [if_neg (Nat.not_lt_zero _)] at t1 t2
      have hl := fr_sl_le e 10 s t
      rw [fr_ix5, nI_clamp (by omega), t1]
      refine ⟨hin, ?_⟩
      refine pk_eq (fr_sl e 10 s t) 0 (fun hz => ?_) (fun hz => ?_)
      · unfold wpY_compatible
        dsimp only
        refine fr_ysg hn hs (br_t rfl (fr_ysg hn ht (br_t rfl (fr_ysh hn2 hn he hs ht ?_))))
        exact pk_eq (fr_sl e 10 s t) 0 (fun _ => ⟨rfl, J⟩) (fun hz2 => absurd hz hz2)
      · unfold wpY_compatible
        dsimp only
        refine fr_ysg hn hs (br_t rfl (fr_ysg hn ht (br_t rfl (fr_ysh hn2 hn he hs ht ?_))))
        exact pk_eq (fr_sl e 10 s t) 0 (fun hz2 => absurd hz2 hz) (fun _ => ⟨rfl, J⟩)
theorem i_vc_splitLength {k : Nat} {u : SX} {v : SY} (I : i_Rel k u v) (hk : k + 4 ≤ 2049) (v1 : Int32) (v2 : Int32) : wpX_splitLength (fun r => wpY_splitLength (fun r' => r' = r ∧ i_Rel (k + 4) u v) v v1 v2) u v1 v2 := by
  have J := i_up I
  obtain ⟨n, e, fc, fm, fo, fr, sl, sw, im, ic, cd, mx, ch, cv, ak, fz, fi, cz, rfl, rfl, hn2, hn, he, hW, ha3, ha4, hr⟩ := I
  unfold wpX_splitLength
  dsimp only
  rcases (show (v1 < 0 ∨ nI n ≤ v1) ∨ ∃ j, j < n ∧ v1 = nI j by rcases pk_ix v1 (n := n) (by omega) with h | h | h; exact Or.inl (Or.inl h); exact Or.inl (Or.inr h); exact Or.inr h) with hb | ⟨s, hs, rfl⟩
  · refine fr_xsb hb (br_t rfl ?_)
    unfold wpY_splitLength
    dsimp only
    exact fr_ysb hb (br_f (by decide) ⟨rfl, J⟩)
  · refine fr_xsg hn hs (br_f (by decide) ?_)
    rcases (show (v2 < 0 ∨ nI n ≤ v2) ∨ ∃ j, j < n ∧ v2 = nI j by rcases pk_ix v2 (n := n) (by omega) with h | h | h; exact Or.inl (Or.inl h); exact Or.inl (Or.inr h); exact Or.inr h) with hb | ⟨t, ht, rfl⟩
    · refine fr_xsb hb (br_t rfl ?_)
      unfold wpY_splitLength
      dsimp only
      exact fr_ysg hn hs (br_t rfl (fr_ysb hb (br_f (by decide) ⟨rfl, J⟩)))
    · refine fr_xsg hn ht (br_f (by decide) ?_)
      have hin : vp_in (nI (5 * s + t)) 25 := vp_in_nI (by omega) (by omega)
      obtain ⟨t1, t2⟩ := hW.1 s t hs ht
      rw [if_neg (Nat.not_lt_zero _)] at t1 t2
      have hl := fr_sl_le e 10 s t
      rw [fr_ix5, nI_clamp (by omega), t1]
      refine ⟨hin, nm_e ?_⟩
      refine pk_eq (fr_sl e 10 s t) 0 (fun hz => ?_) (fun hz => ?_)
      · unfold wpY_splitLength
        dsimp only
        refine fr_ysg hn hs (br_t rfl (fr_ysg hn ht (br_t rfl (fr_ysh hn2 hn he hs ht ?_))))
        exact pk_eq (fr_sl e 10 s t) 0 (fun _ => ⟨rfl, J⟩) (fun hz2 => absurd hz hz2)
      · unfold wpY_splitLength
        dsimp only
        refine fr_ysg hn hs (br_t rfl (fr_ysg hn ht (br_t rfl (fr_ysh hn2 hn he hs ht ?_))))
        exact pk_eq (fr_sl e 10 s t) 0 (fun hz2 => absurd hz2 hz) (fun _ => ⟨rfl, J⟩)
theorem i_vc_splitWord {k : Nat} {u : SX} {v : SY} (I : i_Rel k u v) (hk : k + 4 ≤ 2049) (v1 : Int32) (v2 : Int32) : wpX_splitWord (fun r => wpY_splitWord (fun r' => r' = r ∧ i_Rel (k + 4) u v) v v1 v2) u v1 v2 := by
  have J := i_up I
  obtain ⟨n, e, fc, fm, fo, fr, sl, sw, im, ic, cd, mx, ch, cv, ak, fz, fi, cz, rfl, rfl, hn2, hn, he, hW, ha3, ha4, hr⟩ := I
  unfold wpX_splitWord
  dsimp only
  rcases (show (v1 < 0 ∨ nI n ≤ v1) ∨ ∃ j, j < n ∧ v1 = nI j by rcases pk_ix v1 (n := n) (by omega) with h | h | h; exact Or.inl (Or.inl h); exact Or.inl (Or.inr h); exact Or.inr h) with hb | ⟨s, hs, rfl⟩
  · refine fr_xsb hb (br_t rfl ?_)
    unfold wpY_splitWord
    dsimp only
    exact fr_ysb hb (br_f (by decide) ⟨rfl, J⟩)
  · refine fr_xsg hn hs (br_f (by decide) ?_)
    rcases (show (v2 < 0 ∨ nI n ≤ v2) ∨ ∃ j, j < n ∧ v2 = nI j by rcases pk_ix v2 (n := n) (by omega) with h | h | h; exact Or.inl (Or.inl h); exact Or.inl (Or.inr h); exact Or.inr h) with hb | ⟨t, ht, rfl⟩
    · refine fr_xsb hb (br_t rfl ?_)
      unfold wpY_splitWord
      dsimp only
      exact fr_ysg hn hs (br_t rfl (fr_ysb hb (br_f (by decide) ⟨rfl, J⟩)))
    · refine fr_xsg hn ht (br_f (by decide) ?_)
      have hin : vp_in (nI (5 * s + t)) 25 := vp_in_nI (by omega) (by omega)
      obtain ⟨t1, t2⟩ := hW.1 s t hs ht
      rw [if_neg (Nat.not_lt_zero _)] at t1 t2
      have hl := fr_sl_le e 10 s t
      rw [fr_ix5]
      refine nm_e ⟨hin, ?_⟩
      rw [nI_clamp (by omega), t1, t2]
      refine pk_eq (fr_sl e 10 s t) 0 (fun hz => ?_) (fun hz => ⟨hin, ?_⟩)
      · unfold wpY_splitWord
        dsimp only
        refine fr_ysg hn hs (br_t rfl (fr_ysg hn ht (br_t rfl (fr_ysh hn2 hn he hs ht ?_))))
        exact pk_eq (fr_sl e 10 s t) 0 (fun _ => ⟨rfl, J⟩) (fun hz2 => absurd hz hz2)
      · unfold wpY_splitWord
        dsimp only
        refine fr_ysg hn hs (br_t rfl (fr_ysg hn ht (br_t rfl (fr_ysh hn2 hn he hs ht ?_))))
        refine pk_eq (fr_sl e 10 s t) 0 (fun hz2 => absurd hz2 hz) (fun _ => ?_)
        obtain ⟨q, hq⟩ : ∃ q, fr_sl e 10 s t = q + 1 := ⟨fr_sl e 10 s t - 1, by omega⟩
        obtain ⟨_, q2, _⟩ := (fr_sl_spec e s t 10).2 q hq
        have hsw : fr_sw e 10 s t = (fr_lw e q s t).getD 0 := by
          unfold fr_sw
          rw [hq, if_neg (by omega), Nat.add_sub_cancel]
        rw [hq, hsw]
        refine fr_yspl hn he (by omega) hs ht (fun w hw => ?_) (fun hw => ?_)
        · rw [hw]
          exact ⟨rfl, J⟩
        · rw [hw] at q2
          cases q2
theorem i_vc_compatibleSet {k : Nat} {u : SX} {v : SY} (I : i_Rel k u v) (hk : k + 4 ≤ 2049) (v1 : Int32) : wpX_compatibleSet (fun r => wpY_compatibleSet (fun r' v' => r' = r ∧ i_Rel (k + 4) u v') v v1) u v1 := by
  have J := i_up I
  obtain ⟨n, e, fc, fm, fo, fr, sl, sw, im, ic, cd, mx, ch, cv, ak, fz, fi, cz, rfl, rfl, hn2, hn, he, hW, ha3, ha4, hr⟩ := I
  have hR : fr_R n e fc fm fo fr sl sw im ic cd mx cv ak := ⟨hn2, hn, he, hW, ha3, ha4, hr⟩
  have hp := fr_2n hn
  unfold wpX_compatibleSet
  dsimp only
  rcases fr_sx v1 hn with hb | ⟨c, hc1, hc, rfl⟩
  · refine fr_xeb hn hb (br_t rfl ?_)
    unfold wpY_compatibleSet
    dsimp only
    exact fr_yeb hn hb (br_f (by decide) ⟨rfl, J⟩)
  · refine fr_xeg hn hc1 hc (br_f (by decide) ⟨vp_in_nI (by omega) (by omega), ?_⟩)
    rw [nI_clamp (by omega), hW.2.2.1.1 c (by omega), fr_b_0]
    have K : ∀ r : Int32, r = fr_b (fr_cs e n c) → wpY_compatibleSet (fun r' v' => r' = r ∧ i_Rel (k + 4) ((nI n), (nI (2 ^ n - 1)), fc, fm, fo, fr, (fun i => nI (e i)), sl, sw, im, ic, cd, mx, ch, cv, ak) v') ((nI n), fr, fz, (fun i => nI (e i)), fi, cz) (nI c) := by
      intro r hr1
      unfold wpY_compatibleSet
      dsimp only
      refine fr_yeg hn hc1 hc (br_t rfl (fr_yta hn2 hn he (fun fi' hF => ?_)))
      refine fr_yag hn (by omega) hF ?_
      rw [fr_b_0]
      by_cases hx : fr_cs e n c = true
      · rw [hx] at hr1
        exact br_f (fun z => z hx) ⟨hr1.symm, fr_rel (k + 4) hR⟩
      · rw [fr_bf hx] at hr1
        exact br_t hx ⟨hr1.symm, fr_rel (k + 4) hR⟩
    by_cases hx : fr_cs e n c = true
    · exact br_f (fun z => z hx) (K 1 (by rw [hx]; rfl))
    · exact br_t hx (K 0 (by rw [fr_bf hx]; rfl))
theorem i_vc_maximals {k : Nat} {u : SX} {v : SY} (I : i_Rel k u v) (hk : k + 4 ≤ 2049) : wpX_maximals (fun r => wpY_maximals (fun r' v' => r' = r ∧ i_Rel (k + 4) u v') v) u := by
  obtain ⟨n, e, fc, fm, fo, fr, sl, sw, im, ic, cd, mx, ch, cv, ak, fz, fi, cz, rfl, rfl, hn2, hn, he, hW, ha3, ha4, hr⟩ := I
  have hR : fr_R n e fc fm fo fr sl sw im ic cd mx cv ak := ⟨hn2, hn, he, hW, ha3, ha4, hr⟩
  unfold wpX_maximals
  dsimp only
  exact fr_yms hn2 hn he (fun fi' => ⟨hW.2.2.2.1.2.symm, fr_rel (k + 4) hR⟩)
theorem i_vc_maximal {k : Nat} {u : SX} {v : SY} (I : i_Rel k u v) (hk : k + 4 ≤ 2049) (v1 : Int32) : wpX_maximal (fun r => wpY_maximal (fun r' v' => r' = r ∧ i_Rel (k + 4) u v') v v1) u v1 := by
  obtain ⟨n, e, fc, fm, fo, fr, sl, sw, im, ic, cd, mx, ch, cv, ak, fz, fi, cz, rfl, rfl, hn2, hn, he, hW, ha3, ha4, hr⟩ := I
  have hR : fr_R n e fc fm fo fr sl sw im ic cd mx cv ak := ⟨hn2, hn, he, hW, ha3, ha4, hr⟩
  have hp := fr_2n hn
  have hml := fr_mc_le e n (2 ^ n - 1)
  obtain ⟨hM1, hM2⟩ := hW.2.2.2.1
  unfold wpX_maximal
  dsimp only
  by_cases h0 : v1 < 0
  · refine br_t h0 ?_
    refine fr_ymx hn2 hn he (fun fi' c hc hm hx => ?_) (fun fi' _ => ⟨rfl, fr_rel (k + 4) hR⟩)
    rw [← hx] at h0
    have := fr_mc_le e n c
    exact absurd h0 (nI_pos (by omega))
  · refine br_f h0 ?_
    obtain ⟨j, hj, rfl⟩ := nI_of h0
    refine pk_lt j (fr_mc e n (2 ^ n - 1)) (fun hlt => ?_) (fun hge => ?_) rfl hM2
    · refine ⟨vp_in_nI (by omega) (by omega), ?_⟩
      obtain ⟨c, hc, hm, hcj⟩ := fr_mc_sur e n (2 ^ n - 1) j hlt
      rw [nI_clamp (by omega), ← hcj, hM1 c hc hm]
      refine fr_ymx hn2 hn he (fun fi' d hd hdm hx => ?_) (fun fi' hx => absurd rfl (hx c hc hm))
      have hdl := fr_mc_le e n d
      have hcl := fr_mc_le e n c
      have hdc := fr_mc_inj hdm hm ((nI_eq (by omega) (by omega)).mp hx)
      rw [hdc]
      exact ⟨rfl, fr_rel (k + 4) hR⟩
    · refine fr_ymx hn2 hn he (fun fi' c hc hm hx => ?_) (fun fi' _ => ⟨rfl, fr_rel (k + 4) hR⟩)
      have hcl := fr_mc_le e n c
      have h1 := (nI_eq (by omega) (by omega)).mp hx
      have h2 := fr_mc_lt hc hm
      omega
theorem i_vc_implied {k : Nat} {u : SX} {v : SY} (I : i_Rel k u v) (hk : k + 4 ≤ 2049) (v1 : Int32) (v2 : Int32) : wpX_implied (fun r => wpY_implied (fun r' => r' = r ∧ i_Rel (k + 4) u v) v v1 v2) u v1 v2 := by
  have J := i_up I
  obtain ⟨n, e, fc, fm, fo, fr, sl, sw, im, ic, cd, mx, ch, cv, ak, fz, fi, cz, rfl, rfl, hn2, hn, he, hW, ha3, ha4, hr⟩ := I
  have hp := fr_2n hn
  unfold wpX_implied
  dsimp only
  rcases fr_sx v1 hn with hb | ⟨c, hc1, hc, rfl⟩
  · refine fr_xeb hn hb (br_t rfl ?_)
    unfold wpY_implied
    dsimp only
    exact fr_yeb hn hb (br_f (by decide) ⟨rfl, J⟩)
  · refine fr_xeg hn hc1 hc (br_f (by decide) ?_)
    rcases (show (v2 < 0 ∨ nI 2 ≤ v2) ∨ ∃ j, j < 2 ∧ v2 = nI j by rcases pk_ix v2 (n := 2) (by omega) with h | h | h; exact Or.inl (Or.inl h); exact Or.inl (Or.inr h); exact Or.inr h) with hb | ⟨a, ha, rfl⟩
    · refine fr_xib hb (br_t rfl ?_)
      unfold wpY_implied
      dsimp only
      exact fr_yeg hn hc1 hc (br_t rfl (fr_yib hb (br_f (by decide) ⟨rfl, J⟩)))
    · refine fr_xig ha (br_f (by decide) ?_)
      rw [fr_ix2 c a, nI_clamp (by omega), hW.2.1 c a hc ha]
      refine ⟨vp_in_nI (by omega) (by omega), ?_⟩
      unfold wpY_implied
      dsimp only
      refine fr_yeg hn hc1 hc (br_t rfl (fr_yig ha (br_t rfl (fr_yim hn he (by omega) ha ?_))))
      exact ⟨rfl, J⟩
theorem i_vc_coverSize {k : Nat} {u : SX} {v : SY} (I : i_Rel k u v) (hk : k + 4 ≤ 2049) : wpX_coverSize (fun r => wpY_coverSize (fun r' v' => r' = r ∧ i_Rel (k + 4) u v') v) u := by
  obtain ⟨n, e, fc, fm, fo, fr, sl, sw, im, ic, cd, mx, ch, cv, ak, fz, fi, cz, rfl, rfl, hn2, hn, he, hW, ha3, ha4, hr⟩ := I
  have hR : fr_R n e fc fm fo fr sl sw im ic cd mx cv ak := ⟨hn2, hn, he, hW, ha3, ha4, hr⟩
  obtain ⟨c, hb, hcv, hfo⟩ := hW.2.2.2.2
  unfold wpX_coverSize
  dsimp only
  unfold wpY_coverSize
  dsimp only
  refine fr_ybe hn2 hn he (fun fi' cz' c' hb' hcz' => ⟨?_, fr_rel (k + 4) hR⟩)
  rw [hfo, (fr_best_nz hb hb').2]
theorem i_vc_coverSet {k : Nat} {u : SX} {v : SY} (I : i_Rel k u v) (hk : k + 4 ≤ 2049) (v1 : Int32) : wpX_coverSet (fun r => wpY_coverSet (fun r' v' => r' = r ∧ i_Rel (k + 4) u v') v v1) u v1 := by
  obtain ⟨n, e, fc, fm, fo, fr, sl, sw, im, ic, cd, mx, ch, cv, ak, fz, fi, cz, rfl, rfl, hn2, hn, he, hW, ha3, ha4, hr⟩ := I
  have hR : fr_R n e fc fm fo fr sl sw im ic cd mx cv ak := ⟨hn2, hn, he, hW, ha3, ha4, hr⟩
  obtain ⟨c, hb, hcv, hfo⟩ := hW.2.2.2.2
  have hz := fr_nz_le c 5
  subst hfo
  unfold wpX_coverSet
  dsimp only
  by_cases h0 : v1 < 0
  · refine br_t h0 ?_
    unfold wpY_coverSet
    dsimp only
    exact fr_ybe hn2 hn he (fun fi' cz' c' hb' hcz' => br_t h0 ⟨rfl, fr_rel (k + 4) hR⟩)
  · refine br_f h0 ?_
    obtain ⟨j, hj, rfl⟩ := nI_of h0
    refine pk_lt j (fr_nz c 5) (fun hlt => ?_) (fun hge => ?_)
    · have e5 : (5 : Int32) - nI (fr_nz c 5) + nI j = nI (5 - fr_nz c 5 + j) := by
        have : (5 : Int32) - nI (fr_nz c 5) = nI (5 - fr_nz c 5) := pk_sub (a := 5) hz
        rw [this, nI_add]
      rw [e5, nI_clamp (by omega), hcv _ (by omega)]
      refine ⟨vp_in_nI (by omega) (by omega), ?_⟩
      unfold wpY_coverSet
      dsimp only
      refine fr_ybe hn2 hn he (fun fi' cz' c' hb' hcz' => br_f h0 ?_)
      obtain ⟨q1, q2⟩ := fr_best_nz hb hb'
      rw [← q2] at hcz' ⊢
      refine br_f (nI_ge hlt (by omega)) (br_t (nI_lt (b := 5) (by omega) (by omega)) ⟨vp_in_nI (by omega) (by omega), ?_⟩)
      rw [nI_clamp (by omega)]
      dsimp only
      rw [hcz' j hlt, q1 _ (by omega)]
      exact ⟨rfl, fr_rel (k + 4) hR⟩
    · unfold wpY_coverSet
      dsimp only
      refine fr_ybe hn2 hn he (fun fi' cz' c' hb' hcz' => br_f h0 ?_)
      obtain ⟨q1, q2⟩ := fr_best_nz hb hb'
      rw [← q2]
      exact br_t (nI_le hge (by omega)) ⟨rfl, fr_rel (k + 4) hR⟩
theorem fr_ak {n : Nat} {e : Nat → Nat} {a b c : Nat} : fr_cov e n (fr_lm 5 (fun p => if p = 0 then a else if p = 1 then b else if p = 2 then c else 0)) ↔ fr_cov e n (fun d => d ≠ 0 ∧ (d = a ∨ d = b ∨ d = c)) := by
  refine fr_cov_eq (fun d => ⟨?_, ?_⟩)
  · rintro ⟨hd, p, hp, hx⟩
    refine ⟨hd, ?_⟩
    dsimp only at hx
    by_cases h0 : p = 0
    · rw [if_pos h0] at hx; exact Or.inl hx.symm
    · rw [if_neg h0] at hx
      by_cases h1 : p = 1
      · rw [if_pos h1] at hx; exact Or.inr (Or.inl hx.symm)
      · rw [if_neg h1] at hx
        by_cases h2 : p = 2
        · rw [if_pos h2] at hx; exact Or.inr (Or.inr hx.symm)
        · rw [if_neg h2] at hx; exact absurd hx.symm hd
  · rintro ⟨hd, hx⟩
    rcases hx with rfl | rfl | rfl
    · exact ⟨hd, 0, by omega, rfl⟩
    · exact ⟨hd, 1, by omega, rfl⟩
    · exact ⟨hd, 2, by omega, rfl⟩
theorem fr_ic {k n : Nat} {e : Nat → Nat} {fc fm fo fr : Int32} {sl sw im ic cd mx ch cv ak : Nat → Int32} {fz : Int32} {fi cz : Nat → Int32} {a b c : Nat} (hR : fr_R n e fc fm fo fr sl sw im ic cd mx cv ak) (ha : a < 2 ^ n) (hb : b < 2 ^ n) (hc : c < 2 ^ n) (hnz : ¬ (a = 0 ∧ b = 0 ∧ c = 0)) (Q : (Int32 → SY → Prop) → Prop) (hQ : ∀ P : Int32 → SY → Prop, wY_isCover_40 P (nI a) (nI b) (nI c) (nI n) fr fz (fun i => nI (e i)) fi cz → Q P) : wX_isCover_40 (fun r u' => Q (fun r' v' => r' = r ∧ i_Rel (k + 4) u' v')) (nI a) (nI b) (nI c) (nI n) (nI (2 ^ n - 1)) fc fm fo fr (fun i => nI (e i)) sl sw im ic cd mx ch cv ak := by
  obtain ⟨hn2, hn, he, hW, ha3, ha4, hr⟩ := hR
  have hp := fr_2n hn
  unfold wX_isCover_40
  refine nm_e (nm_e (nm_e ?_))
  have hA : ∀ p, p < 5 → upd (upd (upd ak 0 (nI a)) 1 (nI b)) 2 (nI c) p = nI ((fun p => if p = 0 then a else if p = 1 then b else if p = 2 then c else 0) p) := by
    intro p hp5
    rcases (show p = 0 ∨ p = 1 ∨ p = 2 ∨ p = 3 ∨ p = 4 by omega) with rfl | rfl | rfl | rfl | rfl
    · rfl
    · rfl
    · rfl
    · exact ha3
    · exact ha4
  have hR' : fr_R n e fc fm fo fr sl sw im ic cd mx cv (upd (upd (upd ak 0 (nI a)) 1 (nI b)) 2 (nI c)) := ⟨hn2, hn, he, hW, ha3, ha4, hr⟩
  have hLn : ∀ p, p < 5 → (fun p => if p = 0 then a else if p = 1 then b else if p = 2 then c else 0) p < 2 ^ n := by
    intro p _
    dsimp only
    have := Nat.two_pow_pos n
    split
    · exact ha
    · split
      · exact hb
      · split
        · exact hc
        · exact this
  refine fr_xmc_asked hn he hW.2.1 (fun d hd => hW.2.2.1.1 d (by omega)) hA hLn (fun hcov => ?_) (fun hcov => ?_)
  · rw [fr_ak] at hcov
    refine br_f (by decide) (hQ _ ?_)
    exact fr_yic hn2 hn he ha hb hc hnz (fun fz' fi' cz' _ => ⟨rfl, fr_rel (k + 4) hR'⟩) (fun fz' fi' cz' hx => absurd hcov hx)
  · rw [fr_ak] at hcov
    refine br_t rfl (hQ _ ?_)
    exact fr_yic hn2 hn he ha hb hc hnz (fun fz' fi' cz' hx => absurd hx hcov) (fun fz' fi' cz' _ => ⟨rfl, fr_rel (k + 4) hR'⟩)
theorem i_vc_isCover {k : Nat} {u : SX} {v : SY} (I : i_Rel k u v) (hk : k + 4 ≤ 2049) (v1 : Int32) (v2 : Int32) (v3 : Int32) : wpX_isCover (fun r u' => wpY_isCover (fun r' v' => r' = r ∧ i_Rel (k + 4) u' v') v v1 v2 v3) u v1 v2 v3 := by
  have J := i_up I
  obtain ⟨n, e, fc, fm, fo, fr, sl, sw, im, ic, cd, mx, ch, cv, ak, fz, fi, cz, rfl, rfl, hn2, hn, he, hW, ha3, ha4, hr⟩ := I
  have hR : fr_R n e fc fm fo fr sl sw im ic cd mx cv ak := ⟨hn2, hn, he, hW, ha3, ha4, hr⟩
  have hp := fr_2n hn
  unfold wpX_isCover
  dsimp only
  rcases (show (v1 < 0 ∨ nI (2 ^ n) ≤ v1) ∨ ∃ j, j < 2 ^ n ∧ v1 = nI j by rcases pk_ix v1 (n := 2 ^ n) (by omega) with h | h | h; exact Or.inl (Or.inl h); exact Or.inl (Or.inr h); exact Or.inr h) with hb | ⟨a, ha, rfl⟩
  · refine fr_xzb hn hb (br_t rfl ?_)
    unfold wpY_isCover
    dsimp only
    exact fr_yzb hn hb (br_f (by decide) ⟨rfl, J⟩)
  · refine fr_xzg hn ha (br_f (by decide) ?_)
    rcases (show (v2 < 0 ∨ nI (2 ^ n) ≤ v2) ∨ ∃ j, j < 2 ^ n ∧ v2 = nI j by rcases pk_ix v2 (n := 2 ^ n) (by omega) with h | h | h; exact Or.inl (Or.inl h); exact Or.inl (Or.inr h); exact Or.inr h) with hb | ⟨b, hb, rfl⟩
    · refine fr_xzb hn hb (br_t rfl ?_)
      unfold wpY_isCover
      dsimp only
      exact fr_yzg hn ha (br_t rfl (fr_yzb hn hb (br_f (by decide) ⟨rfl, J⟩)))
    · refine fr_xzg hn hb (br_f (by decide) ?_)
      rcases (show (v3 < 0 ∨ nI (2 ^ n) ≤ v3) ∨ ∃ j, j < 2 ^ n ∧ v3 = nI j by rcases pk_ix v3 (n := 2 ^ n) (by omega) with h | h | h; exact Or.inl (Or.inl h); exact Or.inl (Or.inr h); exact Or.inr h) with hb3 | ⟨c, hc, rfl⟩
      · refine fr_xzb hn hb3 (br_t rfl ?_)
        unfold wpY_isCover
        dsimp only
        exact fr_yzg hn ha (br_t rfl (fr_yzg hn hb (br_t rfl (fr_yzb hn hb3 (br_f (by decide) ⟨rfl, J⟩)))))
      · refine fr_xzg hn hc (br_f (by decide) ?_)
        refine pk_eq a 0 (fun za => ?_) (fun za => ?_)
        · refine pk_eq b 0 (fun zb => ?_) (fun zb => ?_)
          · refine pk_eq c 0 (fun zc => ?_) (fun zc => ?_)
            · unfold wpY_isCover
              dsimp only
              refine fr_yzg hn ha (br_t rfl (fr_yzg hn hb (br_t rfl (fr_yzg hn hc (br_t rfl ?_)))))
              exact pk_eq a 0 (fun _ => pk_eq b 0 (fun _ => pk_eq c 0 (fun _ => ⟨rfl, J⟩) (fun z => absurd zc z)) (fun z => absurd zb z)) (fun z => absurd za z)
            · refine fr_ic (fz := fz) (fi := fi) (cz := cz) hR ha hb hc (fun z => zc z.2.2) (fun P => wpY_isCover P ((nI n), fr, fz, (fun i => nI (e i)), fi, cz) (nI a) (nI b) (nI c)) (fun P hP => ?_)
              unfold wpY_isCover
              dsimp only
              refine fr_yzg hn ha (br_t rfl (fr_yzg hn hb (br_t rfl (fr_yzg hn hc (br_t rfl ?_)))))
              exact pk_eq a 0 (fun _ => pk_eq b 0 (fun _ => pk_eq c 0 (fun z => absurd z zc) (fun _ => hP)) (fun z => absurd zb z)) (fun z => absurd za z)
          · refine fr_ic (fz := fz) (fi := fi) (cz := cz) hR ha hb hc (fun z => zb z.2.1) (fun P => wpY_isCover P ((nI n), fr, fz, (fun i => nI (e i)), fi, cz) (nI a) (nI b) (nI c)) (fun P hP => ?_)
            unfold wpY_isCover
            dsimp only
            refine fr_yzg hn ha (br_t rfl (fr_yzg hn hb (br_t rfl (fr_yzg hn hc (br_t rfl ?_)))))
            exact pk_eq a 0 (fun _ => pk_eq b 0 (fun z => absurd z zb) (fun _ => hP)) (fun z => absurd za z)
        · refine fr_ic (fz := fz) (fi := fi) (cz := cz) hR ha hb hc (fun z => za z.1) (fun P => wpY_isCover P ((nI n), fr, fz, (fun i => nI (e i)), fi, cz) (nI a) (nI b) (nI c)) (fun P hP => ?_)
          unfold wpY_isCover
          dsimp only
          refine fr_yzg hn ha (br_t rfl (fr_yzg hn hb (br_t rfl (fr_yzg hn hc (br_t rfl ?_)))))
          exact pk_eq a 0 (fun z => absurd z za) (fun _ => hP)
theorem i_vc_restart {k : Nat} {u : SX} {v : SY} (I : i_Rel k u v) (hk : k + 4 ≤ 2049) : wpX_restart (fun u' => wpY_restart (fun v' => i_Rel (k + 4) u' v') v) u := by
  obtain ⟨n, e, fc, fm, fo, fr, sl, sw, im, ic, cd, mx, ch, cv, ak, fz, fi, cz, rfl, rfl, hn2, hn, he, hW, ha3, ha4, hr⟩ := I
  exact fr_rel (k + 4) (fr := 0) ⟨hn2, hn, he, hW, ha3, ha4, Or.inr ⟨0, by omega, rfl⟩⟩
theorem i_vc_read {k : Nat} {u : SX} {v : SY} (I : i_Rel k u v) (hk : k + 4 ≤ 2049) (v1 : Int32) : wpX_read (fun r u' => wpY_read (fun r' v' => r' = r ∧ i_Rel (k + 4) u' v') v v1) u v1 := by
  have J := i_up I
  obtain ⟨n, e, fc, fm, fo, fr, sl, sw, im, ic, cd, mx, ch, cv, ak, fz, fi, cz, rfl, rfl, hn2, hn, he, hW, ha3, ha4, hr⟩ := I
  unfold wpX_read
  dsimp only
  rcases (show (v1 < 0 ∨ nI 2 ≤ v1) ∨ ∃ j, j < 2 ∧ v1 = nI j by rcases pk_ix v1 (n := 2) (by omega) with h | h | h; exact Or.inl (Or.inl h); exact Or.inl (Or.inr h); exact Or.inr h) with hb | ⟨a, ha, rfl⟩
  · refine fr_xib hb (br_t rfl ?_)
    unfold wpY_read
    dsimp only
    exact fr_yib hb (br_f (by decide) ⟨rfl, J⟩)
  · refine fr_xig ha (br_f (by decide) ?_)
    rcases hr with rfl | ⟨s, hs, rfl⟩
    · refine br_t rfl ?_
      unfold wpY_read
      dsimp only
      exact fr_yig ha (br_t rfl (br_t rfl ⟨rfl, J⟩))
    · have hm1 : ¬ nI s = -1 := fr_m1ne (by omega)
      refine br_f hm1 ?_
      refine fr_xou hn he (by omega) ha ?_
      refine fr_xnx hn he (by omega) ha ?_
      have hol := fr_ou_lt e s a
      have hnl := fr_nx_le he s a
      have hR' : fr_R n e fc fm fo (fr_dn (fr_nx e s a)) sl sw im ic cd mx cv ak := by
        refine ⟨hn2, hn, he, hW, ha3, ha4, ?_⟩
        by_cases hz : fr_nx e s a = 0
        · left
          rw [hz]
          exact fr_dn_0
        · right
          exact ⟨fr_nx e s a - 1, by omega, fr_dn_p hz⟩
      by_cases ho : fr_dn (fr_ou e s a) = -1
      · refine br_t ho ?_
        unfold wpY_read
        dsimp only
        refine fr_yig ha (br_t rfl (br_f hm1 ?_))
        refine fr_you hn he (by omega) ha ?_
        refine fr_ynx hn he (by omega) ha ?_
        exact br_t ho ⟨rfl, fr_rel (k + 4) hR'⟩
      · refine br_f ho ?_
        unfold wpY_read
        dsimp only
        refine fr_yig ha (br_t rfl (br_f hm1 ?_))
        refine fr_you hn he (by omega) ha ?_
        refine fr_ynx hn he (by omega) ha ?_
        exact br_f ho ⟨rfl, fr_rel (k + 4) hR'⟩
theorem i_vc_lost {k : Nat} {u : SX} {v : SY} (I : i_Rel k u v) (hk : k + 4 ≤ 2049) : wpX_lost (fun r => wpY_lost (fun r' => r' = r ∧ i_Rel (k + 4) u v) v) u := by
  have J := i_up I
  obtain ⟨n, e, fc, fm, fo, fr, sl, sw, im, ic, cd, mx, ch, cv, ak, fz, fi, cz, rfl, rfl, hn2, hn, he, hW, ha3, ha4, hr⟩ := I
  unfold wpX_lost
  dsimp only
  by_cases h : fr = -1
  · exact br_t h (br_t h ⟨rfl, J⟩)
  · exact br_f h (br_f h ⟨rfl, J⟩)
