section FRY
variable {n : Nat} {e : Nat → Nat} {ft fz : Int32} {fi cz : Nat → Int32}
theorem fr_you {post : Int32 → Prop} {s a : Nat} (hn : n ≤ 5) (he : ∀ i, e i < 3 * (n + 1)) (hs : s < 5) (ha : a < 2) (h : post (fr_dn (fr_ou e s a))) : wpY_output post ((nI n), ft, fz, (fun i => nI (e i)), fi, cz) (nI s) (nI a) := by
  have h2 := he (2 * s + a)
  unfold wpY_output
  dsimp only
  rw [fr_ix2' s a, nI_clamp (by omega), fr_r3 (by omega)]
  exact ⟨vp_in_nI (by omega) (by decide), by decide, h⟩
theorem fr_ynx {post : Int32 → Prop} {s a : Nat} (hn : n ≤ 5) (he : ∀ i, e i < 3 * (n + 1)) (hs : s < 5) (ha : a < 2) (h : post (fr_dn (fr_nx e s a))) : wpY_next post ((nI n), ft, fz, (fun i => nI (e i)), fi, cz) (nI s) (nI a) := by
  have h2 := he (2 * s + a)
  unfold wpY_next
  dsimp only
  rw [fr_ix2' s a, nI_clamp (by omega), fr_d3 (by omega)]
  exact ⟨vp_in_nI (by omega) (by decide), by decide, h⟩
theorem fr_bita {c s : Nat} (hc : c < 2 ^ 31) (hs : s < 32) : (nI c >>> (nI s &&& 31)) &&& 1 = nI (c / 2 ^ s % 2) := by
  rw [pk_shrN hc _ s (s_l s hs)]
  show nI (c / 2 ^ s) &&& nI 1 = _
  rw [nx_and, Nat.and_one_is_mod]
theorem fr_and1 (w : Nat) : nI w &&& 1 = nI (w % 2) := by
  show nI w &&& nI 1 = _
  rw [nx_and, Nat.and_one_is_mod]
theorem fr_ysp1 {post : Int32 → Prop} {w : Nat} (hn : n ≤ 5) (he : ∀ i, e i < 3 * (n + 1)) (hw : w < 2 ^ 31) : ∀ k s t, k < 20 → s < n → t < n → post (fr_b (fr_sp e k s t w)) → wY_splits_11 post (nI w) (nI n) ft fz (fun i => nI (e i)) fi cz (k + 1) (nI s) (nI t) (nI k) := by
  intro k
  induction k with
  | zero =>
    intro s t _ hs ht h
    refine br_t (nI_le (a := 0) (b := 0) (by omega) (by omega)) ?_
    rw [fr_and1]
    refine fr_you hn he (by omega) (by omega) ?_
    refine fr_you hn he (by omega) (by omega) ?_
    exact fr_od_b (P := post) h
  | succ k ih =>
    intro s t hk hs ht h
    refine br_f (nI_nle (by omega) (by omega)) ?_
    rw [fr_bita hw (by omega)]
    rw [fr_sp_s] at h
    generalize hA : w / 2 ^ (k + 1) % 2 = a at h ⊢
    have ha : a < 2 := by omega
    have b1 := fr_nx_le he s a
    have b2 := fr_nx_le he t a
    refine nm_e ?_
    refine fr_ynx hn he (by omega) ha ?_
    refine fr_ynx hn he (by omega) ha ?_
    rw [fr_dn_m (by omega), fr_dn_m (by omega)]
    by_cases h1 : fr_nx e s a = 0
    · refine br_t h1 ?_
      have hg : fr_go e s t a = false := fr_bf (fun z => (fr_go_iff.mp z).1 h1)
      rw [hg] at h
      exact h
    · refine br_f h1 ?_
      by_cases h2 : fr_nx e t a = 0
      · refine br_t h2 ?_
        have hg : fr_go e s t a = false := fr_bf (fun z => (fr_go_iff.mp z).2 h2)
        rw [hg] at h
        exact h
      · refine br_f h2 (nm_r (pk_m1 k) ?_)
        rw [fr_dn_p h1, fr_dn_p h2]
        rw [fr_go_iff.mpr ⟨h1, h2⟩, Bool.true_and] at h
        exact ih _ _ (by omega) (by omega) (by omega) h
theorem fr_ysp {post : Int32 → Prop} {k s t w : Nat} (hn : n ≤ 5) (he : ∀ i, e i < 3 * (n + 1)) (hk : k < 20) (hs : s < n) (ht : t < n) (hw : w < 2 ^ 31) (h : post (fr_b (fr_sp e k s t w))) : wpY_splits post ((nI n), ft, fz, (fun i => nI (e i)), fi, cz) (nI s) (nI t) (nI (k + 1)) (nI w) := by
  unfold wpY_splits
  dsimp only
  refine nm_r (nI_pred k) ⟨k + 1, ?_⟩
  exact fr_ysp1 hn he hw k s t hk hs ht h
theorem fr_yspl {post : Int32 → Prop} {k s t : Nat} (hn : n ≤ 5) (he : ∀ i, e i < 3 * (n + 1)) (hk : k < 20) (hs : s < n) (ht : t < n) (h1 : ∀ w, fr_lw e k s t = some w → post (nI w)) (h0 : fr_lw e k s t = none → post (-1)) : wpY_splitter post ((nI n), ft, fz, (fun i => nI (e i)), fi, cz) (nI s) (nI t) (nI (k + 1)) := by
  have hp : 2 ^ (k + 1) ≤ 2 ^ 20 := Nat.pow_le_pow_right (by decide) (by omega)
  obtain ⟨S1, S0⟩ := fr_lw_spec e k s t
  unfold wpY_splitter
  dsimp only
  refine pk_loop (fun N v (_ : Unit) => wY_splitter_3 post (nI s) (nI t) (nI (k + 1)) (nI n) ft fz (fun i => nI (e i)) fi cz N (nI v)) (fun v _ => ∀ u, u < v → fr_sp e k s t u = false) (2 ^ (k + 1)) 0 () (Nat.zero_le _) (fun u hu => absurd hu (Nat.not_lt_zero u)) ?_ ?_
  · rintro N _ hI
    have hnone : fr_lw e k s t = none := by
      cases hx : fr_lw e k s t with
      | none => rfl
      | some w =>
        obtain ⟨a, b, _⟩ := S1 w hx
        rw [hI w a] at b
        cases b
    have h0' := h0 hnone
    have hc : (1 : Int32) <<< (nI (k + 1) &&& 31) ≤ nI (2 ^ (k + 1)) := by
      rw [fr_shl (by omega)]
      exact nI_le (Nat.le_refl _) (by omega)
    exact br_t hc h0'
  · rintro N v _ hv hI hk2
    have hc : ¬ (1 : Int32) <<< (nI (k + 1) &&& 31) ≤ nI v := by
      rw [fr_shl (by omega)]
      exact nI_ge hv (by omega)
    refine br_f hc ?_
    refine fr_ysp hn he hk hs ht (by omega) ?_
    rw [fr_b_0]
    by_cases hx : fr_sp e k s t v = true
    · refine br_f (fun z => z hx) (h1 v ?_)
      cases hy : fr_lw e k s t with
      | none =>
        rw [S0 hy v hv] at hx
        cases hx
      | some w =>
        obtain ⟨a, b, c⟩ := S1 w hy
        rcases Nat.lt_trichotomy w v with hl | hl | hl
        · rw [hI w hl] at b; cases b
        · rw [hl]
        · rw [c v hl] at hx; cases hx
    · refine br_t hx (nm_r (nI_1 v) (hk2 () ?_))
      intro u hu
      by_cases huv : u = v
      · subst huv; exact fr_bf hx
      · exact hI u (by omega)
theorem fr_pairs {n : Nat} (hn2 : 2 ≤ n) (hn : n ≤ 5) : (nI n * (nI n - 1)) / 2 = nI (n * (n - 1) / 2) ∧ n * (n - 1) / 2 ≤ 10 := by
  rcases (show n = 2 ∨ n = 3 ∨ n = 4 ∨ n = 5 by omega) with rfl | rfl | rfl | rfl <;> decide
theorem fr_m1neg : (-1 : Int32) < 0 := by decide
theorem fr_ysh {post : Int32 → Prop} {s t : Nat} (hn2 : 2 ≤ n) (hn : n ≤ 5) (he : ∀ i, e i < 3 * (n + 1)) (hs : s < n) (ht : t < n) (h : post (nI (fr_sl e 10 s t))) : wpY_shortest post ((nI n), ft, fz, (fun i => nI (e i)), fi, cz) (nI s) (nI t) := by
  obtain ⟨hP, hP10⟩ := fr_pairs hn2 hn
  have hbd := fr_sl_bd he hn2 hn (Nat.le_refl 10) hs ht
  unfold wpY_shortest
  dsimp only
  refine ⟨by decide, nm_r hP ?_⟩
  generalize n * (n - 1) / 2 = P at hP10 hbd ⊢
  refine pk_loop (fun N m (_ : Unit) => wY_shortest_17 post (nI s) (nI t) (nI P) (nI n) ft fz (fun i => nI (e i)) fi cz N (nI (m + 1))) (fun m _ => fr_sl e m s t = 0) P 0 () (by omega) rfl ?_ ?_
  · rintro N _ hI
    have hc := fr_sl_cap hP10 hbd
    rw [← hc, hI] at h
    exact br_t (nI_lt (by omega) (by omega)) h
  · rintro N m _ hm hI hk
    refine br_f (nI_nlt (by omega) (by omega)) (br_f (nI_nlt (a := 10) (by omega) (by omega)) ?_)
    refine fr_yspl hn he (by omega) hs ht (fun w hw => ?_) (fun hw => ?_)
    · have hwl := ((fr_lw_spec e m s t).1 w hw).1
      have hp : 2 ^ (m + 1) ≤ 2 ^ 20 := Nat.pow_le_pow_right (by decide) (by omega)
      refine br_f (nI_pos (by omega)) ?_
      rw [fr_sl_of (m := 10) (by omega) (by rw [hw]; rfl) ((fr_sl_spec e s t m).1 hI)] at h
      exact h
    · refine br_t fr_m1neg (nm_r (nI_1 (m + 1)) (hk () ?_))
      rw [fr_sl_s, if_pos hI, hw]
      rfl
end FRY
