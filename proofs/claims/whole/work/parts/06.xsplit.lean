section FRX
variable {n : Nat} {e : Nat → Nat} {fc fm fo fr : Int32} {sl sw im ic cd mx ch cv ak : Nat → Int32}
theorem fr_xou {post : Int32 → Prop} {s a : Nat} (hn : n ≤ 5) (he : ∀ i, e i < 3 * (n + 1)) (hs : s < 5) (ha : a < 2) (h : post (fr_dn (fr_ou e s a))) : wpX_outputOf post ((nI n), (nI (2 ^ n - 1)), fc, fm, fo, fr, (fun i => nI (e i)), sl, sw, im, ic, cd, mx, ch, cv, ak) (nI s) (nI a) := by
  have h2 := he (2 * s + a)
  unfold wpX_outputOf
  dsimp only
  rw [fr_ix2 s a, nI_clamp (by omega), fr_r3 (by omega)]
  exact ⟨vp_in_nI (by omega) (by decide), by decide, h⟩
theorem fr_xnx {post : Int32 → Prop} {s a : Nat} (hn : n ≤ 5) (he : ∀ i, e i < 3 * (n + 1)) (hs : s < 5) (ha : a < 2) (h : post (fr_dn (fr_nx e s a))) : wpX_nextOf post ((nI n), (nI (2 ^ n - 1)), fc, fm, fo, fr, (fun i => nI (e i)), sl, sw, im, ic, cd, mx, ch, cv, ak) (nI s) (nI a) := by
  have h2 := he (2 * s + a)
  unfold wpX_nextOf
  dsimp only
  rw [fr_ix2 s a, nI_clamp (by omega), fr_d3 (by omega)]
  exact ⟨vp_in_nI (by omega) (by decide), by decide, h⟩
theorem fr_ou_lt (e : Nat → Nat) (s a : Nat) : fr_ou e s a < 3 := Nat.mod_lt _ (by decide)
theorem fr_od_b {P : Int32 → Prop} {s t a : Nat} (h : P (if fr_od e s t a = true then 1 else 0)) : ((fr_dn (fr_ou e s a) = (-1) → P 0) ∧ (¬ fr_dn (fr_ou e s a) = (-1) → ((fr_dn (fr_ou e t a) = (-1) → P 0) ∧ (¬ fr_dn (fr_ou e t a) = (-1) → ((fr_dn (fr_ou e s a) = fr_dn (fr_ou e t a) → P 0) ∧ (¬ fr_dn (fr_ou e s a) = fr_dn (fr_ou e t a) → P 1)))))) := by
  have b1 := fr_ou_lt e s a
  have b2 := fr_ou_lt e t a
  rw [fr_dn_m (by omega), fr_dn_m (by omega)]
  by_cases h1 : fr_ou e s a = 0
  · rw [if_neg (fun z => (fr_od_iff.mp z).1 h1)] at h
    exact br_t h1 h
  · refine br_f h1 ?_
    by_cases h2 : fr_ou e t a = 0
    · rw [if_neg (fun z => (fr_od_iff.mp z).2.1 h2)] at h
      exact br_t h2 h
    · refine br_f h2 ?_
      rw [fr_dn_i (by omega) (by omega) h1 h2]
      by_cases h3 : fr_ou e s a = fr_ou e t a
      · rw [if_neg (fun z => (fr_od_iff.mp z).2.2 h3)] at h
        exact br_t h3 h
      · rw [if_pos (fr_od_iff.mpr ⟨h1, h2, h3⟩)] at h
        exact br_f h3 h
theorem fr_xod {post : Int32 → Prop} {s t a : Nat} (hn : n ≤ 5) (he : ∀ i, e i < 3 * (n + 1)) (hs : s < 5) (ht : t < 5) (ha : a < 2) (h : post (if fr_od e s t a = true then 1 else 0)) : wpX_outputsDiffer post ((nI n), (nI (2 ^ n - 1)), fc, fm, fo, fr, (fun i => nI (e i)), sl, sw, im, ic, cd, mx, ch, cv, ak) (nI s) (nI t) (nI a) := by
  unfold wpX_outputsDiffer
  dsimp only
  refine fr_xou hn he hs ha ?_
  refine fr_xou hn he ht ha ?_
  exact fr_od_b (P := post) h
theorem fr_xpa {post : Int32 → Prop} {s t a : Nat} (hn : n ≤ 5) (he : ∀ i, e i < 3 * (n + 1)) (hs : s < 5) (ht : t < 5) (ha : a < 2) (h1 : fr_go e s t a = true → post (nI (5 * (fr_nx e s a - 1) + (fr_nx e t a - 1)))) (h2 : ¬ fr_go e s t a = true → post (-1)) : wpX_pairAfter post ((nI n), (nI (2 ^ n - 1)), fc, fm, fo, fr, (fun i => nI (e i)), sl, sw, im, ic, cd, mx, ch, cv, ak) (nI s) (nI t) (nI a) := by
  have b1 := fr_nx_le he s a
  have b2 := fr_nx_le he t a
  unfold wpX_pairAfter
  dsimp only
  refine fr_xnx hn he hs ha ?_
  refine fr_xnx hn he ht ha ?_
  rw [fr_dn_m (by omega), fr_dn_m (by omega)]
  by_cases g1 : fr_nx e s a = 0
  · exact br_t g1 (h2 (fun z => (fr_go_iff.mp z).1 g1))
  · refine br_f g1 ?_
    by_cases g2 : fr_nx e t a = 0
    · exact br_t g2 (h2 (fun z => (fr_go_iff.mp z).2 g2))
    · refine br_f g2 ?_
      rw [fr_dn_p g1, fr_dn_p g2, fr_ix5]
      exact h1 (fr_go_iff.mpr ⟨g1, g2⟩)
/-! the table of splitting words: half a stage -/
def fr_T (n : Nat) (e : Nat → Nat) (sl sw : Nat → Int32) (m k : Nat) : Prop := ∀ p q, p < n → q < n → sl (5 * p + q) = nI (fr_sl e (if 5 * p + q < k then m + 1 else m) p q) ∧ sw (5 * p + q) = nI (fr_sw e (if 5 * p + q < k then m + 1 else m) p q)
/-- what a letter gives at stage m + 1 -/
def fr_st (e : Nat → Nat) : Nat → Nat → Nat → Nat → Option Nat
  | 0 => fun s t a => if fr_od e s t a = true then some 0 else none
  | m + 1 => fun s t a => fr_aw e (fr_lw e m) s t a
theorem fr_lw_st (e : Nat → Nat) (m s t : Nat) : fr_lw e m s t = fr_or (2 ^ m) (fr_st e m s t 0) (fr_st e m s t 1) := by
  cases m with
  | zero =>
    rw [fr_lw_0]
    unfold fr_st
    dsimp only
    by_cases h0 : fr_od e s t 0 = true
    · rw [if_pos h0, if_pos h0]; rfl
    · rw [if_neg h0, if_neg h0]
      by_cases h1 : fr_od e s t 1 = true
      · rw [if_pos h1, if_pos h1]; rfl
      · rw [if_neg h1, if_neg h1]; rfl
  | succ m => rw [fr_lw_s]; rfl
theorem fr_st_lt {m s t a w : Nat} (h : fr_st e m s t a = some w) : w < 2 ^ (m + 1) := by
  cases m with
  | zero =>
    unfold fr_st at h
    dsimp only at h
    split at h
    · cases h; decide
    · cases h
  | succ m =>
    unfold fr_st fr_aw at h
    dsimp only at h
    split at h
    · exact Nat.lt_of_lt_of_le ((fr_lw_spec e m _ _).1 w h).1 (Nat.pow_le_pow_right (by decide) (by omega))
    · cases h
theorem fr_xs1 {post : SX → Prop} {m s t a N : Nat} (hn : n ≤ 5) (he : ∀ i, e i < 3 * (n + 1)) (hs : s < n) (ht : t < n) (ha : a < 2) (hm : m < 10) (hT : fr_T n e sl sw m (5 * s + t)) (h0 : fr_sl e m s t = 0)
    (hk : ∀ w, fr_st e m s t a = some w → wX_findSplitOfLength_10 post (nI s) (nI t) (nI (m + 1)) (nI (5 * s + t)) (nI n) (nI (2 ^ n - 1)) fc fm fo fr N (nI (a + 1)) (fun i => nI (e i)) (upd sl (5 * s + t) (nI (m + 1))) (upd sw (5 * s + t) (nI (a * 2 ^ m + w))) im ic cd mx ch cv ak)
    (hk' : fr_st e m s t a = none → wX_findSplitOfLength_10 post (nI s) (nI t) (nI (m + 1)) (nI (5 * s + t)) (nI n) (nI (2 ^ n - 1)) fc fm fo fr N (nI (a + 1)) (fun i => nI (e i)) sl sw im ic cd mx ch cv ak) :
    wX_findSplitOfLength_10 post (nI s) (nI t) (nI (m + 1)) (nI (5 * s + t)) (nI n) (nI (2 ^ n - 1)) fc fm fo fr (N + 1) (nI a) (fun i => nI (e i)) sl sw im ic cd mx ch cv ak := by
  have hv : sl (nI (5 * s + t)).toNatClampNeg = 0 := by
    rw [nI_clamp (by omega), (hT s t hs ht).1, if_neg (by omega), h0]; rfl
  have hin : vp_in (nI (5 * s + t)) 25 := vp_in_nI (by omega) (by decide)
  refine pk_le 2 a (fun z => absurd z (by omega)) (fun _ => ⟨hin, br_t hv ?_⟩)
  cases m with
  | zero =>
    refine br_t rfl ?_
    refine fr_xod hn he (by omega) (by omega) ha ?_
    by_cases hd : fr_od e s t a = true
    · rw [if_pos hd]
      refine br_f (by decide) ⟨hin, nm_e ⟨hin, nm_e (nm_r (nI_1 a) ?_)⟩⟩
      rw [nI_clamp (by omega)]
      have := hk 0 (by show (if fr_od e s t a = true then some 0 else none) = some 0; rw [if_pos hd])
      rw [show a * 2 ^ 0 + 0 = a by omega] at this
      exact this
    · rw [if_neg hd]
      refine br_t rfl (nm_r (nI_1 a) ?_)
      exact hk' (by show (if fr_od e s t a = true then some 0 else none) = none; rw [if_neg hd])
  | succ m =>
    have hne : ¬ nI (m + 1 + 1) = 1 := by
      intro z
      have := (nI_eq (b := 1) (by omega) (by omega)).mp z
      omega
    have hm1 : nI (m + 1 + 1) - 1 = nI (m + 1) := nI_pred _
    refine br_f hne ?_
    have haw := fr_aw_eq (e := e) (m := m) (s := s) (t := t) ha h0
    refine fr_xpa hn he (by omega) (by omega) ha (fun hg => ?_) (fun hg => ?_)
    · obtain ⟨g1, g2⟩ := fr_go_iff.mp hg
      have b1 := fr_nx_le he s a
      have b2 := fr_nx_le he t a
      have hb : 5 * (fr_nx e s a - 1) + (fr_nx e t a - 1) < 25 := by omega
      have hin' : vp_in (nI (5 * (fr_nx e s a - 1) + (fr_nx e t a - 1))) 25 := vp_in_nI hb (by decide)
      obtain ⟨t1, t2⟩ := hT (fr_nx e s a - 1) (fr_nx e t a - 1) (by omega) (by omega)
      have hlb := fr_sl_le e (if 5 * (fr_nx e s a - 1) + (fr_nx e t a - 1) < 5 * s + t then m + 1 + 1 else m + 1) (fr_nx e s a - 1) (fr_nx e t a - 1)
      have hD : (if 5 * (fr_nx e s a - 1) + (fr_nx e t a - 1) < 5 * s + t then m + 1 + 1 else m + 1) ≤ m + 2 := by split <;> omega
      have hQ : fr_sl e (if 5 * (fr_nx e s a - 1) + (fr_nx e t a - 1) < 5 * s + t then m + 1 + 1 else m + 1) (fr_nx e s a - 1) (fr_nx e t a - 1) = m + 1 ↔ fr_sl e (m + 1) (fr_nx e s a - 1) (fr_nx e t a - 1) = m + 1 := by
        split
        · exact ⟨fr_sl_back (by omega) (by omega), fr_sl_keep (by omega)⟩
        · exact Iff.rfl
      refine br_f (fr_m1ne (by omega)) ⟨hin', ?_⟩
      rw [nI_clamp (by omega), t1, hm1, nI_eq (by omega) (by omega), hQ]
      by_cases hl : fr_sl e (m + 1) (fr_nx e s a - 1) (fr_nx e t a - 1) = m + 1
      · refine br_t hl ⟨hin, nm_e ⟨hin', hin, ?_⟩⟩
        have hw2 : fr_sw e (if 5 * (fr_nx e s a - 1) + (fr_nx e t a - 1) < 5 * s + t then m + 1 + 1 else m + 1) (fr_nx e s a - 1) (fr_nx e t a - 1) = fr_sw e (m + 1) (fr_nx e s a - 1) (fr_nx e t a - 1) := by
          split
          · exact fr_sw_keep (by omega)
          · rfl
        rw [t2, hw2, fr_shw ha (by omega), nI_add, nI_clamp (by omega)]
        refine nm_e (nm_r (nI_1 a) ?_)
        exact hk _ (by show fr_aw e (fr_lw e m) s t a = _; rw [haw, if_pos ⟨hg, hl⟩])
      · refine br_f hl (nm_r (nI_1 a) ?_)
        exact hk' (by show fr_aw e (fr_lw e m) s t a = _; rw [haw, if_neg (fun z => hl z.2)])
    · refine br_t rfl (nm_r (nI_1 a) ?_)
      exact hk' (by show fr_aw e (fr_lw e m) s t a = _; rw [haw, if_neg (fun z => hg z.1)])
theorem fr_xs_end {post : SX → Prop} {m s t N : Nat} {a : Nat} (hn : n ≤ 5) (hs : s < n) (ht : t < n) (ha : a ≤ 2) (hz : a = 2 ∨ ¬ sl (5 * s + t) = 0) (h : post ((nI n), (nI (2 ^ n - 1)), fc, fm, fo, fr, (fun i => nI (e i)), sl, sw, im, ic, cd, mx, ch, cv, ak)) : wX_findSplitOfLength_10 post (nI s) (nI t) (nI (m + 1)) (nI (5 * s + t)) (nI n) (nI (2 ^ n - 1)) fc fm fo fr (N + 1) (nI a) (fun i => nI (e i)) sl sw im ic cd mx ch cv ak := by
  refine pk_le 2 a (fun _ => h) (fun z => ⟨vp_in_nI (by omega) (by decide), br_f ?_ h⟩)
  rw [nI_clamp (by omega)]
  rcases hz with hz | hz
  · omega
  · exact hz
theorem fr_T_put {m s t v w : Nat} (hn : n ≤ 5) (ht : t < n) (hT : fr_T n e sl sw m (5 * s + t)) (hv : fr_sl e (m + 1) s t = v) (hw : fr_sw e (m + 1) s t = w) : fr_T n e (upd sl (5 * s + t) (nI v)) (upd sw (5 * s + t) (nI w)) m (5 * s + t + 1) := by
  intro p q hp hq
  by_cases h : 5 * p + q = 5 * s + t
  · have : p = s := by omega
    have : q = t := by omega
    subst p q
    rw [pk_us, pk_us, if_pos (by omega), hv, hw]
    exact ⟨rfl, rfl⟩
  · rw [pk_un h, pk_un h]
    obtain ⟨t1, t2⟩ := hT p q hp hq
    by_cases h2 : 5 * p + q < 5 * s + t
    · rw [if_pos h2] at t1 t2
      rw [if_pos (by omega)]
      exact ⟨t1, t2⟩
    · rw [if_neg h2] at t1 t2
      rw [if_neg (by omega)]
      exact ⟨t1, t2⟩
theorem fr_T_same {m s t : Nat} (hn : n ≤ 5) (ht : t < n) (hT : fr_T n e sl sw m (5 * s + t)) (hv : fr_sl e (m + 1) s t = fr_sl e m s t) (hw : fr_sw e (m + 1) s t = fr_sw e m s t) : fr_T n e sl sw m (5 * s + t + 1) := by
  intro p q hp hq
  obtain ⟨t1, t2⟩ := hT p q hp hq
  by_cases h : 5 * p + q = 5 * s + t
  · have : p = s := by omega
    have : q = t := by omega
    subst p q
    rw [if_neg (by omega)] at t1 t2
    rw [if_pos (by omega), hv, hw]
    exact ⟨t1, t2⟩
  · by_cases h2 : 5 * p + q < 5 * s + t
    · rw [if_pos h2] at t1 t2
      rw [if_pos (by omega)]
      exact ⟨t1, t2⟩
    · rw [if_neg h2] at t1 t2
      rw [if_neg (by omega)]
      exact ⟨t1, t2⟩
theorem fr_xsol {post : SX → Prop} {m s t : Nat} (hn : n ≤ 5) (he : ∀ i, e i < 3 * (n + 1)) (hs : s < n) (ht : t < n) (hm : m < 10) (hT : fr_T n e sl sw m (5 * s + t))
    (h : ∀ sl' sw', fr_T n e sl' sw' m (5 * s + t + 1) → post ((nI n), (nI (2 ^ n - 1)), fc, fm, fo, fr, (fun i => nI (e i)), sl', sw', im, ic, cd, mx, ch, cv, ak)) :
    wpX_findSplitOfLength post ((nI n), (nI (2 ^ n - 1)), fc, fm, fo, fr, (fun i => nI (e i)), sl, sw, im, ic, cd, mx, ch, cv, ak) (nI s) (nI t) (nI (m + 1)) := by
  unfold wpX_findSplitOfLength
  dsimp only
  refine nm_r (fr_ix5 s t) ⟨4, ?_⟩
  have hb : fr_sl e m s t < 2 ^ 31 := by have := fr_sl_le e m s t; omega
  have hnz : ∀ {x : Nat}, x ≠ 0 → x < 2 ^ 31 → ¬ nI x = 0 := fun h0 h1 => nI_ne0 (by omega) h1
  by_cases h0 : fr_sl e m s t = 0
  · have hL := fr_lw_st e m s t
    have hS : fr_sl e (m + 1) s t = if (fr_lw e m s t).isSome = true then m + 1 else 0 := by rw [fr_sl_s, if_pos h0]
    refine fr_xs1 (a := 0) (N := 3) hn he hs ht (by omega) hm hT h0 (fun w hw => ?_) (fun hw => ?_)
    · refine fr_xs_end (N := 2) (a := 1) hn hs ht (by omega) (Or.inr (by rw [pk_us]; exact hnz (by omega) (by omega))) (h _ _ ?_)
      rw [hw] at hL
      have hL' : fr_lw e m s t = some w := hL
      have hv : fr_sl e (m + 1) s t = m + 1 := by rw [hS, hL']; rfl
      refine fr_T_put hn ht hT hv ?_
      unfold fr_sw
      rw [hv, if_neg (by omega), Nat.add_sub_cancel, hL']
      show w = 0 * 2 ^ m + w
      omega
    · refine fr_xs1 (a := 1) (N := 2) hn he hs ht (by omega) hm hT h0 (fun w hw1 => ?_) (fun hw1 => ?_)
      · refine fr_xs_end (N := 1) (a := 2) hn hs ht (by omega) (Or.inl rfl) (h _ _ ?_)
        rw [hw, hw1] at hL
        have hL' : fr_lw e m s t = some (2 ^ m + w) := hL
        have hv : fr_sl e (m + 1) s t = m + 1 := by rw [hS, hL']; rfl
        refine fr_T_put hn ht hT hv ?_
        unfold fr_sw
        rw [hv, if_neg (by omega), Nat.add_sub_cancel, hL']
        show 2 ^ m + w = 1 * 2 ^ m + w
        omega
      · refine fr_xs_end (N := 1) (a := 2) hn hs ht (by omega) (Or.inl rfl) (h _ _ ?_)
        rw [hw, hw1] at hL
        have hL' : fr_lw e m s t = none := hL
        have hv : fr_sl e (m + 1) s t = 0 := by rw [hS, hL']; rfl
        refine fr_T_same hn ht hT (by rw [hv, h0]) ?_
        unfold fr_sw
        rw [hv, h0]
  · refine fr_xs_end (N := 3) (a := 0) hn hs ht (by omega) (Or.inr ?_) (h _ _ (fr_T_same hn ht hT (fr_sl_keep h0 rfl) (fr_sw_keep h0)))
    rw [(hT s t hs ht).1, if_neg (by omega)]
    exact hnz h0 hb
theorem fr_xfs48 {post : SX → Prop} {J30 J38 : Int32 → Int32 → Int32 → Int32 → Int32 → Int32 → Int32 → (Nat → Int32) → (Nat → Int32) → (Nat → Int32) → (Nat → Int32) → (Nat → Int32) → (Nat → Int32) → (Nat → Int32) → (Nat → Int32) → (Nat → Int32) → (Nat → Int32) → Prop} {m s : Nat} (hn : n ≤ 5) (he : ∀ i, e i < 3 * (n + 1)) (hs : s < n) (hm : m < 10) (hT : fr_T n e sl sw m (5 * s))
    (h : ∀ sl' sw', fr_T n e sl' sw' m (5 * (s + 1)) → J38 (nI (s + 1)) (nI n) (nI (2 ^ n - 1)) fc fm fo fr (fun i => nI (e i)) sl' sw' im ic cd mx ch cv ak) :
    ∃ N, wX_findSplits_48 post J30 J38 (nI (m + 1)) (nI s) N 0 (nI n) (nI (2 ^ n - 1)) fc fm fo fr (fun i => nI (e i)) sl sw im ic cd mx ch cv ak := by
  refine pk_loop (fun N t (z : (Nat → Int32) × (Nat → Int32)) => wX_findSplits_48 post J30 J38 (nI (m + 1)) (nI s) N (nI t) (nI n) (nI (2 ^ n - 1)) fc fm fo fr (fun i => nI (e i)) z.1 z.2 im ic cd mx ch cv ak) (fun t z => fr_T n e z.1 z.2 m (5 * s + t)) n 0 (sl, sw) (by omega) hT ?_ ?_
  · rintro N ⟨sl, sw⟩ hI
    refine br_t (nI_le (Nat.le_refl n) (by omega)) (nm_r (nI_1 s) (h _ _ ?_))
    intro p q hp hq
    have := hI p q hp hq
    dsimp only at this
    by_cases h2 : 5 * p + q < 5 * s + n
    · rw [if_pos h2] at this
      rw [if_pos (by omega)]
      exact this
    · rw [if_neg h2] at this
      rw [if_neg (by omega)]
      exact this
  · rintro N t ⟨sl, sw⟩ ht hI hk
    refine br_f (nI_ge ht (by omega)) ?_
    refine fr_xsol hn he hs ht hm hI (fun sl' sw' hT' => ?_)
    refine nm_r (nI_1 t) ?_
    exact hk (sl', sw') hT'
theorem fr_xfs38 {post : SX → Prop} {J30 : Int32 → Int32 → Int32 → Int32 → Int32 → Int32 → Int32 → (Nat → Int32) → (Nat → Int32) → (Nat → Int32) → (Nat → Int32) → (Nat → Int32) → (Nat → Int32) → (Nat → Int32) → (Nat → Int32) → (Nat → Int32) → (Nat → Int32) → Prop} {m : Nat} (hn : n ≤ 5) (he : ∀ i, e i < 3 * (n + 1)) (hm : m < 10) (hT : fr_T n e sl sw m 0)
    (h : ∀ sl' sw', fr_T n e sl' sw' (m + 1) 0 → J30 (nI (m + 1 + 1)) (nI n) (nI (2 ^ n - 1)) fc fm fo fr (fun i => nI (e i)) sl' sw' im ic cd mx ch cv ak) :
    ∃ N, wX_findSplits_38 post J30 (nI (m + 1)) N 0 (nI n) (nI (2 ^ n - 1)) fc fm fo fr (fun i => nI (e i)) sl sw im ic cd mx ch cv ak := by
  refine pk_loop (fun N s (z : (Nat → Int32) × (Nat → Int32)) => wX_findSplits_38 post J30 (nI (m + 1)) N (nI s) (nI n) (nI (2 ^ n - 1)) fc fm fo fr (fun i => nI (e i)) z.1 z.2 im ic cd mx ch cv ak) (fun s z => fr_T n e z.1 z.2 m (5 * s)) n 0 (sl, sw) (by omega) hT ?_ ?_
  · rintro N ⟨sl, sw⟩ hI
    refine br_t (nI_le (Nat.le_refl n) (by omega)) (nm_r (nI_1 (m + 1)) (h _ _ ?_))
    intro p q hp hq
    have := hI p q hp hq
    dsimp only at this
    rw [if_pos (by omega)] at this
    rw [if_neg (by omega)]
    exact this
  · rintro N s ⟨sl, sw⟩ hs hI hk
    refine br_f (nI_ge hs (by omega)) ?_
    exact fr_xfs48 hn he hs hm hI (fun sl' sw' hT' => hk (sl', sw') hT')
theorem fr_xfs {post : SX → Prop} (hn : n ≤ 5) (he : ∀ i, e i < 3 * (n + 1)) (h : ∀ sl' sw', fr_T n e sl' sw' 10 0 → post ((nI n), (nI (2 ^ n - 1)), fc, fm, fo, fr, (fun i => nI (e i)), sl', sw', im, ic, cd, mx, ch, cv, ak)) : wpX_findSplits post ((nI n), (nI (2 ^ n - 1)), fc, fm, fo, fr, (fun i => nI (e i)), sl, sw, im, ic, cd, mx, ch, cv, ak) := by
  unfold wpX_findSplits
  dsimp only
  refine pk_loop (fun N i (z : (Nat → Int32) × (Nat → Int32)) => wX_findSplits_2 post (nI n) (nI (2 ^ n - 1)) fc fm fo fr N (nI i) (fun i => nI (e i)) z.1 z.2 im ic cd mx ch cv ak) (fun i z => ∀ j, j < i → z.1 j = 0 ∧ z.2 j = 0) 25 0 (sl, sw) (by omega) (fun j hj => absurd hj (Nat.not_lt_zero j)) ?_ ?_
  · rintro N ⟨sl, sw⟩ hI
    refine br_t (nI_le (Nat.le_refl 25) (by omega)) ?_
    have hT : fr_T n e sl sw 0 0 := by
      intro p q hp hq
      have := hI (5 * p + q) (by omega)
      rw [if_neg (by omega)]
      exact this
    refine pk_loop (fun N m (z : (Nat → Int32) × (Nat → Int32)) => wX_findSplits_30 post N (nI (m + 1)) (nI n) (nI (2 ^ n - 1)) fc fm fo fr (fun i => nI (e i)) z.1 z.2 im ic cd mx ch cv ak) (fun m z => fr_T n e z.1 z.2 m 0) 10 0 (sl, sw) (by omega) hT ?_ ?_
    · rintro N ⟨sl, sw⟩ hI
      exact br_t (nI_lt (a := 10) (b := 11) (by omega) (by omega)) (h _ _ hI)
    · rintro N m ⟨sl, sw⟩ hm hI hk
      refine br_f (nI_nlt (a := 10) (by omega) (by omega)) ?_
      exact fr_xfs38 hn he hm hI (fun sl' sw' hT' => hk (sl', sw') hT')
  · rintro N i ⟨sl, sw⟩ hi hI hk
    have hin : vp_in (nI i) 25 := vp_in_nI hi (by omega)
    refine br_f (nI_ge (b := 25) hi (by omega)) ⟨hin, nm_e ⟨hin, nm_e (nm_r (nI_1 i) ?_)⟩⟩
    rw [nI_clamp (by omega)]
    refine hk (upd sl i 0, upd sw i 0) (fun j hj => ?_)
    dsimp only
    by_cases hji : j = i
    · subst hji
      rw [pk_us, pk_us]
      exact ⟨rfl, rfl⟩
    · rw [pk_un hji, pk_un hji]
      exact hI j (by omega)
end FRX
