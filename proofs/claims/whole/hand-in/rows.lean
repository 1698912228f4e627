section
section FRA
/-! rows pasted from those given for pasting; behind them my own numbers -/
theorem pk_us {f : Nat → Int32} {k : Nat} {x : Int32} : upd f k x k = x := if_pos rfl
theorem pk_un {f : Nat → Int32} {k j : Nat} {x : Int32} (h : j ≠ k) : upd f k x j = f j := if_neg h
theorem pk_sub {a b : Nat} (h : b ≤ a) : nI a - nI b = nI (a - b) := by
  obtain ⟨c, rfl⟩ : ∃ c, a = c + b := ⟨a - b, by omega⟩
  rw [← nI_add, Int32.add_sub_cancel, Nat.add_sub_cancel]
theorem pk_m1 (n : Nat) : nI (n + 1) + (-1) = nI n := by
  rw [← nI_1, Int32.add_assoc, show (1 : Int32) + (-1) = 0 from rfl, Int32.add_zero]
theorem pk_mul (a b : Nat) : nI a * nI b = nI (a * b) := (Int32.ofNat_mul a b).symm
theorem pk_div {a d : Nat} (ha : a < 2 ^ 31) (h0 : 0 < d) (hd : d < 2 ^ 31) : nI a / nI d = nI (a / d) := by
  apply Int32.toInt_inj.mp
  rw [lg_idiv_nonneg (by rw [nI_toInt ha]; omega) (by rw [nI_toInt hd]; omega), nI_toInt ha, nI_toInt hd, nI_toInt (Nat.lt_of_le_of_lt (Nat.div_le_self a d) ha)]
  first | rfl | exact (Int.natCast_ediv _ _).symm
theorem pk_rem {a d : Nat} (ha : a < 2 ^ 31) (h0 : 0 < d) (hd : d < 2 ^ 31) : nI a - nI a / nI d * nI d = nI (a % d) := by
  rw [pk_div ha h0 hd, pk_mul, pk_sub (Nat.div_mul_le_self a d)]
  exact congrArg nI (by have := Nat.div_add_mod' a d; omega)
theorem pk_sub_toInt {a b : Nat} (ha : a < 2 ^ 30) (hb : b < 2 ^ 30) : (nI a - nI b).toInt = (a : Int) - b := by
  rw [Int32.toInt_sub, nI_toInt (by omega), nI_toInt (by omega)]
  exact Int.bmod_eq_of_le (by omega) (by omega)
theorem pk_sneg {a b : Nat} (hb : b < 2 ^ 30) (h : a < b) : nI a - nI b < 0 := by
  rw [Int32.lt_iff_toInt_lt, pk_sub_toInt (by omega) hb, show (0 : Int32).toInt = 0 from by decide]
  omega
theorem pk_ix (x : Int32) {n : Nat} (hn : n < 2 ^ 31) : x < 0 ∨ nI n ≤ x ∨ ∃ j : Nat, j < n ∧ x = nI j := by
  by_cases h : x < 0
  · exact Or.inl h
  · obtain ⟨j, hj, rfl⟩ := nI_of h
    by_cases h2 : j < n
    · exact Or.inr (Or.inr ⟨j, h2, rfl⟩)
    · exact Or.inr (Or.inl (nI_le (by omega) hj))
theorem pk_le {x y : Int32} {A B : Prop} (a b : Nat) (f : a ≤ b → A) (g : b < a → B) (hx : x = nI a := by rfl) (hy : y = nI b := by rfl) (ha : a < 2 ^ 31 := by omega) (hb : b < 2 ^ 31 := by omega) : (x ≤ y → A) ∧ (¬ x ≤ y → B) := by
  subst hx hy
  rw [nI_leI ha hb]
  exact ⟨f, fun z => g (by omega)⟩
theorem pk_lt {x y : Int32} {A B : Prop} (a b : Nat) (f : a < b → A) (g : b ≤ a → B) (hx : x = nI a := by rfl) (hy : y = nI b := by rfl) (ha : a < 2 ^ 31 := by omega) (hb : b < 2 ^ 31 := by omega) : (x < y → A) ∧ (¬ x < y → B) := by
  subst hx hy
  rw [nI_ltI ha hb]
  exact ⟨f, fun z => g (by omega)⟩
theorem pk_eq {x y : Int32} {A B : Prop} (a b : Nat) (f : a = b → A) (g : a ≠ b → B) (hx : x = nI a := by rfl) (hy : y = nI b := by rfl) (ha : a < 2 ^ 31 := by omega) (hb : b < 2 ^ 31 := by omega) : (x = y → A) ∧ (¬ x = y → B) := by
  subst hx hy
  rw [nI_eq ha hb]
  exact ⟨f, g⟩
theorem pk_in {x : Int32} (n N : Nat) (h : n < N) (hx : x = nI n := by rfl) (hN : N < 2 ^ 31 := by omega) : vp_in x N := by
  subst hx
  exact vp_in_nI h hN
theorem pk_cl {x : Int32} (n : Nat) (hx : x = nI n := by rfl) (h : n < 2 ^ 31 := by omega) : x.toNatClampNeg = n := by
  subst hx
  exact nI_clamp h
theorem pk_tn {n : Nat} (h : n < 2 ^ 32) : (nI n).toBitVec.toNat = n := Nat.mod_eq_of_lt h
theorem pk_and (x : Int32) {m : Int32} (k : Nat) (hm : m.toBitVec.toNat = 2 ^ k - 1) : x &&& m = nI (x.toBitVec.toNat % 2 ^ k) := by
  apply Int32.toBitVec_inj.mp
  apply BitVec.eq_of_toNat_eq
  rw [Int32.toBitVec_and, BitVec.toNat_and, hm, Nat.and_two_pow_sub_one_eq_mod]
  show _ = (BitVec.ofNat 32 _).toNat
  rw [BitVec.toNat_ofNat]
  exact (Nat.mod_eq_of_lt (Nat.lt_of_le_of_lt (Nat.mod_le _ _) x.toBitVec.isLt)).symm
theorem pk_andN {n : Nat} (h : n < 2 ^ 32) {m : Int32} (k : Nat) (hm : m.toBitVec.toNat = 2 ^ k - 1) : nI n &&& m = nI (n % 2 ^ k) := by
  rw [pk_and _ k hm, pk_tn h]
theorem pk_shl (a s : Int32) (k : Nat) (hs : (s.toBitVec.smod 32).toNat = k) : (a <<< s).toBitVec.toNat = a.toBitVec.toNat * 2 ^ k % 2 ^ 32 := by
  show (a.toBitVec <<< (s.toBitVec.smod 32).toNat).toNat = _
  rw [hs, BitVec.toNat_shiftLeft, Nat.shiftLeft_eq]
theorem pk_shlN {n : Nat} (s : Int32) (k : Nat) (hs : (s.toBitVec.smod 32).toNat = k) (h : n * 2 ^ k < 2 ^ 32) : nI n <<< s = nI (n * 2 ^ k) := by
  apply Int32.toBitVec_inj.mp
  apply BitVec.eq_of_toNat_eq
  have hn : n < 2 ^ 32 := Nat.lt_of_le_of_lt (Nat.le_mul_of_pos_right n (Nat.two_pow_pos k)) h
  rw [pk_shl _ _ k hs, pk_tn hn, pk_tn h, Nat.mod_eq_of_lt h]
theorem pk_shr (a s : Int32) (k : Nat) (hs : (s.toBitVec.smod 32).toNat = k) : (a >>> s).toInt = a.toInt >>> k := by
  show (a.toBitVec.sshiftRight (s.toBitVec.smod 32).toNat).toInt = _
  rw [hs, BitVec.toInt_sshiftRight]
  rfl
theorem pk_shrN {n : Nat} (h : n < 2 ^ 31) (s : Int32) (k : Nat) (hs : (s.toBitVec.smod 32).toNat = k) : nI n >>> s = nI (n / 2 ^ k) := by
  apply Int32.toInt_inj.mp
  have h2 : n / 2 ^ k ≤ n := Nat.div_le_self _ _
  rw [pk_shr _ _ k hs, nI_toInt h, nI_toInt (by omega), Int.shiftRight_eq_div_pow]
  rfl
theorem pk_loop {σ : Type} (W : Nat → Nat → σ → Prop) (I : Nat → σ → Prop) (e i0 : Nat) (s : σ) (hi : i0 ≤ e) (h0 : I i0 s) (hx : ∀ n s, I e s → W (n + 1) e s)
    (hs : ∀ n i s, i < e → I i s → (∀ s', I (i + 1) s' → W n (i + 1) s') → W (n + 1) i s) : ∃ n, W n i0 s :=
  ⟨e + 1, loop_i W I e hx hs (e + 1) i0 s hi (by omega) h0⟩
theorem pk_loopD {σ : Type} (W : Nat → Nat → σ → Prop) (I : Nat → σ → Prop) (hx : ∀ n s, I 0 s → W (n + 1) 0 s)
    (hs : ∀ n i s, I (i + 1) s → (∀ s', I i s' → W n i s') → W (n + 1) (i + 1) s) : ∀ (e : Nat) (s : σ), I e s → W (e + 1) e s := by
  intro e
  induction e with
  | zero => exact fun s h => hx 0 s h
  | succ e ih => exact fun s h => hs (e + 1) e s h (fun s' h' => ih s' h')
theorem lp1 {A1 : Type} (W : Nat → A1 → Prop) (I : A1 → Prop) (μ : A1 → Nat) (hs : ∀ (n : Nat) (a1 : A1), I a1 → (∀ (b1 : A1), I b1 → μ b1 < μ a1 → W n b1) → W (n + 1) a1) (a1 : A1) (h : I a1) : ∃ n, W n a1 :=
  loop_m (σ := A1) (fun n s => W n s) (fun s => I s) (fun s => μ s) (fun n s hI hk => hs n s hI (fun b1 h9 hm => hk b1 h9 hm)) a1 h
theorem lp2 {A1 A2 : Type} (W : Nat → A1 → A2 → Prop) (I : A1 → A2 → Prop) (μ : A1 → A2 → Nat) (hs : ∀ (n : Nat) (a1 : A1) (a2 : A2), I a1 a2 → (∀ (b1 : A1) (b2 : A2), I b1 b2 → μ b1 b2 < μ a1 a2 → W n b1 b2) → W (n + 1) a1 a2) (a1 : A1) (a2 : A2) (h : I a1 a2) : ∃ n, W n a1 a2 :=
  loop_m (σ := A1 × A2) (fun n s => W n s.1 s.2) (fun s => I s.1 s.2) (fun s => μ s.1 s.2) (fun n s hI hk => hs n s.1 s.2 hI (fun b1 b2 h9 hm => hk (b1, b2) h9 hm)) (a1, a2) h
theorem lp3 {A1 A2 A3 : Type} (W : Nat → A1 → A2 → A3 → Prop) (I : A1 → A2 → A3 → Prop) (μ : A1 → A2 → A3 → Nat) (hs : ∀ (n : Nat) (a1 : A1) (a2 : A2) (a3 : A3), I a1 a2 a3 → (∀ (b1 : A1) (b2 : A2) (b3 : A3), I b1 b2 b3 → μ b1 b2 b3 < μ a1 a2 a3 → W n b1 b2 b3) → W (n + 1) a1 a2 a3) (a1 : A1) (a2 : A2) (a3 : A3) (h : I a1 a2 a3) : ∃ n, W n a1 a2 a3 :=
  loop_m (σ := A1 × A2 × A3) (fun n s => W n s.1 s.2.1 s.2.2) (fun s => I s.1 s.2.1 s.2.2) (fun s => μ s.1 s.2.1 s.2.2) (fun n s hI hk => hs n s.1 s.2.1 s.2.2 hI (fun b1 b2 b3 h9 hm => hk (b1, b2, b3) h9 hm)) (a1, a2, a3) h
theorem lp4 {A1 A2 A3 A4 : Type} (W : Nat → A1 → A2 → A3 → A4 → Prop) (I : A1 → A2 → A3 → A4 → Prop) (μ : A1 → A2 → A3 → A4 → Nat) (hs : ∀ (n : Nat) (a1 : A1) (a2 : A2) (a3 : A3) (a4 : A4), I a1 a2 a3 a4 → (∀ (b1 : A1) (b2 : A2) (b3 : A3) (b4 : A4), I b1 b2 b3 b4 → μ b1 b2 b3 b4 < μ a1 a2 a3 a4 → W n b1 b2 b3 b4) → W (n + 1) a1 a2 a3 a4) (a1 : A1) (a2 : A2) (a3 : A3) (a4 : A4) (h : I a1 a2 a3 a4) : ∃ n, W n a1 a2 a3 a4 :=
  loop_m (σ := A1 × A2 × A3 × A4) (fun n s => W n s.1 s.2.1 s.2.2.1 s.2.2.2) (fun s => I s.1 s.2.1 s.2.2.1 s.2.2.2) (fun s => μ s.1 s.2.1 s.2.2.1 s.2.2.2) (fun n s hI hk => hs n s.1 s.2.1 s.2.2.1 s.2.2.2 hI (fun b1 b2 b3 b4 h9 hm => hk (b1, b2, b3, b4) h9 hm)) (a1, a2, a3, a4) h
theorem pk_least (P : Nat → Prop) (h : ∃ k, P k) : ∃ k, P k ∧ ∀ j, j < k → ¬ P j := by
  obtain ⟨k, hk⟩ := h
  induction k using Nat.strongRecOn with
  | ind k ih =>
    by_cases e : ∃ j, j < k ∧ P j
    · obtain ⟨j, hj, pj⟩ := e
      exact ih j hj pj
    · exact ⟨k, hk, fun j hj pj => e ⟨j, hj, pj⟩⟩
theorem ek_if {c d A B : Prop} (e : c ↔ d) (f : d → A) (g : ¬ d → B) : (c → A) ∧ (¬ c → B) :=
  ⟨fun z => f (e.mp z), fun z => g (fun y => z (e.mpr y))⟩
theorem ek_v {α : Sort _} {P : α → Prop} {a b : α} (e : a = b) (h : P b) : P a := e ▸ h
theorem s_l : ∀ n, n < 32 → ((nI n &&& 31).toBitVec.smod 32).toNat = n := by decide +kernel
theorem nx_and (a b : Nat) : nI a &&& nI b = nI (a &&& b) := by
  apply Int32.toBitVec_inj.1
  show BitVec.ofNat 32 a &&& BitVec.ofNat 32 b = BitVec.ofNat 32 (a &&& b)
  apply BitVec.eq_of_getLsbD_eq
  intro i hi
  simp [hi]
theorem nx_xor (a b : Nat) : nI a ^^^ nI b = nI (a ^^^ b) := by
  apply Int32.toBitVec_inj.1
  show BitVec.ofNat 32 a ^^^ BitVec.ofNat 32 b = BitVec.ofNat 32 (a ^^^ b)
  apply BitVec.eq_of_getLsbD_eq
  intro i hi
  simp [hi]
theorem fr_or32 (a b : Nat) : nI a ||| nI b = nI (a ||| b) := by
  apply Int32.toBitVec_inj.1
  show BitVec.ofNat 32 a ||| BitVec.ofNat 32 b = BitVec.ofNat 32 (a ||| b)
  apply BitVec.eq_of_getLsbD_eq
  intro i hi
  simp [hi]
theorem fr_tbd (c s : Nat) : c.testBit s = decide (c / 2 ^ s % 2 = 1) := Nat.testBit_eq_decide_div_mod_eq
/-- a bit of a set, as both sides ask for it -/
theorem fr_bit {c s : Nat} (hc : c < 2 ^ 31) (hs : s < 32) : ((nI c >>> (nI s &&& 31)) &&& 1) = 1 ↔ c.testBit s = true := by
  have h2 : c / 2 ^ s ≤ c := Nat.div_le_self _ _
  rw [pk_shrN hc _ s (s_l s hs)]
  show nI (c / 2 ^ s) &&& nI 1 = nI 1 ↔ _
  rw [nx_and, Nat.and_one_is_mod, nI_eq (by omega) (by omega), fr_tbd, decide_eq_true_iff]
theorem fr_shl {s : Nat} (hs : s < 31) : (1 : Int32) <<< (nI s &&& 31) = nI (2 ^ s) := by
  show nI 1 <<< (nI s &&& 31) = _
  have : 2 ^ s < 2 ^ 31 := Nat.pow_lt_pow_right (by decide) hs
  rw [pk_shlN _ s (s_l s (by omega)) (by omega), Nat.one_mul]
theorem fr_shw {a k : Nat} (ha : a < 2) (hk : k < 30) : nI a <<< (nI k &&& 31) = nI (a * 2 ^ k) := by
  have h1 : 2 ^ k < 2 ^ 30 := Nat.pow_lt_pow_right (by decide) hk
  have h2 : a * 2 ^ k ≤ 1 * 2 ^ k := Nat.mul_le_mul_right _ (by omega)
  exact pk_shlN _ k (s_l k (by omega)) (by omega)
theorem fr_all1 {n : Nat} (hn : n < 31) : (1 : Int32) <<< (nI n &&& 31) - 1 = nI (2 ^ n - 1) := by
  rw [fr_shl hn]
  exact pk_sub (b := 1) (Nat.two_pow_pos n)
/-- one less, 0 for NONE -/
def fr_dn (k : Nat) : Int32 := nI k - 1
theorem fr_dn_0 : fr_dn 0 = -1 := by decide
theorem fr_dn_p {k : Nat} (h : k ≠ 0) : fr_dn k = nI (k - 1) := pk_sub (b := 1) (by omega)
theorem fr_m1ne {k : Nat} (hk : k < 2 ^ 31) : ¬ nI k = -1 := by
  intro h
  have h1 : (nI k).toInt = (-1 : Int32).toInt := by rw [h]
  rw [nI_toInt hk, show (-1 : Int32).toInt = -1 by decide] at h1
  omega
theorem fr_dn_m {k : Nat} (hk : k < 2 ^ 31) : fr_dn k = -1 ↔ k = 0 := by
  constructor
  · intro h
    apply Classical.byContradiction
    intro h0
    rw [fr_dn_p h0] at h
    exact fr_m1ne (by omega) h
  · rintro rfl
    exact fr_dn_0
theorem fr_dn_i {j k : Nat} (hj : j < 2 ^ 31) (hk : k < 2 ^ 31) (h0 : j ≠ 0) (h1 : k ≠ 0) : fr_dn j = fr_dn k ↔ j = k := by
  rw [fr_dn_p h0, fr_dn_p h1, nI_eq (by omega) (by omega)]
  omega
theorem fr_gl (x i : Nat) (hi : i < 32) : (nI x).toBitVec.getLsbD i = x.testBit i := by
  show (BitVec.ofNat 32 x).getLsbD i = _
  rw [BitVec.getLsbD_ofNat, decide_eq_true hi, Bool.true_and]
theorem fr_glm : ∀ i, i < 32 → (-1 : Int32).toBitVec.getLsbD i = true := by decide +kernel
theorem fr_glp (x y i : Nat) (hi : i < 32) : (nI x &&& (nI y ^^^ (-1))).toBitVec.getLsbD i = (x.testBit i && !y.testBit i) := by
  rw [Int32.toBitVec_and, BitVec.getLsbD_and, Int32.toBitVec_xor, BitVec.getLsbD_xor, fr_gl x i hi, fr_gl y i hi, fr_glm i hi, Bool.xor_true]
/-- a part of a set, as X asks for it -/
theorem fr_part {x y : Nat} (hx : x < 2 ^ 31) : (nI x &&& (nI y ^^^ (-1))) = 0 ↔ y &&& x = x := by
  constructor
  · intro h
    apply Nat.eq_of_testBit_eq
    intro i
    rw [Nat.testBit_and]
    by_cases hi : i < 32
    · have h1 := fr_glp x y i hi
      have z : (0 : Int32).toBitVec.getLsbD i = false := BitVec.getLsbD_zero
      rw [h, z] at h1
      cases h2 : x.testBit i <;> cases h3 : y.testBit i <;> simp_all
    · have : x.testBit i = false := Nat.testBit_lt_two_pow (Nat.lt_of_lt_of_le hx (Nat.pow_le_pow_right (by decide) (by omega)))
      rw [this, Bool.and_false]
  · intro h
    apply Int32.toBitVec_inj.1
    apply BitVec.eq_of_getLsbD_eq
    intro i hi
    rw [fr_glp x y i hi]
    have z : (0 : Int32).toBitVec.getLsbD i = false := BitVec.getLsbD_zero
    rw [z]
    have h1 : (y.testBit i && x.testBit i) = x.testBit i := by rw [← Nat.testBit_and, h]
    cases h2 : x.testBit i <;> cases h3 : y.testBit i <;> simp_all
/-- the index of an entry -/
theorem fr_ix2 (s a : Nat) : nI s * 2 + nI a = nI (2 * s + a) := by
  show nI s * nI 2 + nI a = _
  rw [pk_mul, nI_add, Nat.mul_comm]
theorem fr_ix2' (s a : Nat) : 2 * nI s + nI a = nI (2 * s + a) := by
  show nI 2 * nI s + nI a = _
  rw [pk_mul, nI_add]
theorem fr_ix5 (s t : Nat) : nI s * 5 + nI t = nI (5 * s + t) := by
  show nI s * nI 5 + nI t = _
  rw [pk_mul, nI_add, Nat.mul_comm]
theorem fr_ix8 (s t : Nat) : 8 * nI s + nI t = nI (8 * s + t) := by
  show nI 8 * nI s + nI t = _
  rw [pk_mul, nI_add]
theorem fr_d3 {v : Nat} (hv : v < 2 ^ 31) : nI v / 3 - 1 = fr_dn (v / 3) := by
  show nI v / nI 3 - 1 = _
  rw [pk_div hv (by omega) (by omega)]
  rfl
theorem fr_r3 {v : Nat} (hv : v < 2 ^ 31) : nI v - nI v / 3 * 3 - 1 = fr_dn (v % 3) := by
  show nI v - nI v / nI 3 * nI 3 - 1 = _
  rw [pk_rem hv (by omega) (by omega)]
  rfl
theorem fr_2n {n : Nat} (hn : n ≤ 5) : 2 ^ n ≤ 32 := Nat.pow_le_pow_right (n := 2) (j := 5) (by decide) hn
theorem fr_2n4 {n : Nat} (hn : 2 ≤ n) : 4 ≤ 2 ^ n := Nat.pow_le_pow_right (n := 2) (i := 2) (by decide) hn
theorem fr_upe (e : Nat → Nat) (k v : Nat) : upd (fun i => nI (e i)) k (nI v) = fun i => nI (if i = k then v else e i) := by
  funext j
  unfold upd
  split <;> rfl
theorem fr_nb0 : vp_nar .boolean 0 = 0 := by decide
theorem fr_nb1 : vp_nar .boolean 1 = 1 := by decide
theorem fr_m1lt {k : Nat} (hk : k < 2 ^ 31) : ¬ nI k < 0 := nI_pos hk
end FRA
end
section
section FRW
/-! words: next and output are one more than the document's, 0 for NONE -/
def fr_nx (e : Nat → Nat) (s a : Nat) : Nat := e (2 * s + a) / 3
def fr_ou (e : Nat → Nat) (s a : Nat) : Nat := e (2 * s + a) % 3
def fr_od (e : Nat → Nat) (s t a : Nat) : Bool := decide (fr_ou e s a ≠ 0 ∧ fr_ou e t a ≠ 0 ∧ fr_ou e s a ≠ fr_ou e t a)
def fr_go (e : Nat → Nat) (s t a : Nat) : Bool := decide (fr_nx e s a ≠ 0 ∧ fr_nx e t a ≠ 0)
/-- the word w of k + 1 letters splits s and t -/
def fr_sp (e : Nat → Nat) : Nat → Nat → Nat → Nat → Bool
  | 0 => fun s t w => fr_od e s t (w % 2)
  | k + 1 => fun s t w => fr_go e s t (w / 2 ^ (k + 1) % 2) && fr_sp e k (fr_nx e s (w / 2 ^ (k + 1) % 2) - 1) (fr_nx e t (w / 2 ^ (k + 1) % 2) - 1) w
def fr_aw (e : Nat → Nat) (f : Nat → Nat → Option Nat) (s t a : Nat) : Option Nat := if fr_go e s t a = true then f (fr_nx e s a - 1) (fr_nx e t a - 1) else none
def fr_or (q : Nat) (x y : Option Nat) : Option Nat := match x with
  | some w => some w
  | none => match y with
    | some w => some (q + w)
    | none => none
/-- the least splitting word of k + 1 letters -/
def fr_lw (e : Nat → Nat) : Nat → Nat → Nat → Option Nat
  | 0 => fun s t => if fr_od e s t 0 = true then some 0 else if fr_od e s t 1 = true then some 1 else none
  | k + 1 => fun s t => fr_or (2 ^ (k + 1)) (fr_aw e (fr_lw e k) s t 0) (fr_aw e (fr_lw e k) s t 1)
theorem fr_sp_0 (e : Nat → Nat) (s t w : Nat) : fr_sp e 0 s t w = fr_od e s t (w % 2) := rfl
theorem fr_sp_s (e : Nat → Nat) (k s t w : Nat) : fr_sp e (k + 1) s t w = (fr_go e s t (w / 2 ^ (k + 1) % 2) && fr_sp e k (fr_nx e s (w / 2 ^ (k + 1) % 2) - 1) (fr_nx e t (w / 2 ^ (k + 1) % 2) - 1) w) := rfl
theorem fr_lw_0 (e : Nat → Nat) (s t : Nat) : fr_lw e 0 s t = if fr_od e s t 0 = true then some 0 else if fr_od e s t 1 = true then some 1 else none := rfl
theorem fr_lw_s (e : Nat → Nat) (k s t : Nat) : fr_lw e (k + 1) s t = fr_or (2 ^ (k + 1)) (fr_aw e (fr_lw e k) s t 0) (fr_aw e (fr_lw e k) s t 1) := rfl
theorem fr_bit_hi (k d v : Nat) : (2 ^ (k + 2 + d) + v) / 2 ^ (k + 1) % 2 = v / 2 ^ (k + 1) % 2 := by
  have e1 : 2 ^ (k + 2 + d) = 2 ^ (k + 1) * (2 * 2 ^ d) := by
    rw [show k + 2 + d = (k + 1) + (1 + d) by omega, Nat.pow_add 2 (k + 1), Nat.pow_add 2 1 d]
  rw [e1, Nat.mul_add_div (Nat.two_pow_pos (k + 1))]
  generalize v / 2 ^ (k + 1) = y
  generalize 2 ^ d = z
  omega
theorem fr_sp_hi (e : Nat → Nat) : ∀ k d s t v, fr_sp e k s t (2 ^ (k + 1 + d) + v) = fr_sp e k s t v := by
  intro k
  induction k with
  | zero =>
    intro d s t v
    rw [fr_sp_0, fr_sp_0]
    have : (2 ^ (0 + 1 + d) + v) % 2 = v % 2 := by
      rw [show 0 + 1 + d = 1 + d by omega, Nat.pow_add 2 1 d]
      generalize 2 ^ d = z
      omega
    rw [this]
  | succ k ih =>
    intro d s t v
    rw [fr_sp_s, fr_sp_s, show k + 1 + 1 + d = k + 2 + d by omega, fr_bit_hi k d v]
    have := ih (d + 1)
    rw [show k + 2 + d = k + 1 + (d + 1) by omega, this]
theorem fr_lw_spec (e : Nat → Nat) : ∀ k s t, (∀ w, fr_lw e k s t = some w → w < 2 ^ (k + 1) ∧ fr_sp e k s t w = true ∧ ∀ v, v < w → fr_sp e k s t v = false) ∧ (fr_lw e k s t = none → ∀ v, v < 2 ^ (k + 1) → fr_sp e k s t v = false) := by
  intro k
  induction k with
  | zero =>
    intro s t
    rw [fr_lw_0]
    by_cases h0 : fr_od e s t 0 = true
    · rw [if_pos h0]
      refine ⟨fun w hw => ?_, fun h => nomatch h⟩
      cases hw
      exact ⟨by decide, h0, fun v hv => absurd hv (Nat.not_lt_zero v)⟩
    · rw [if_neg h0]
      have h0' : fr_od e s t 0 = false := by simpa using h0
      by_cases h1 : fr_od e s t 1 = true
      · rw [if_pos h1]
        refine ⟨fun w hw => ?_, fun h => nomatch h⟩
        cases hw
        refine ⟨by decide, h1, fun v hv => ?_⟩
        obtain rfl : v = 0 := by omega
        exact h0'
      · rw [if_neg h1]
        have h1' : fr_od e s t 1 = false := by simpa using h1
        refine ⟨(fun w hw => nomatch hw), fun _ v hv => ?_⟩
        have hv2 : v < 2 := hv
        rcases (show v = 0 ∨ v = 1 by omega) with rfl | rfl
        · exact h0'
        · exact h1'
  | succ k ih =>
    intro s t
    rw [fr_lw_s]
    have L : ∀ v, v < 2 ^ (k + 1) → fr_sp e (k + 1) s t v = (fr_go e s t 0 && fr_sp e k (fr_nx e s 0 - 1) (fr_nx e t 0 - 1) v) := by
      intro v hv
      rw [fr_sp_s, Nat.div_eq_of_lt hv]
    have H : ∀ v, v < 2 ^ (k + 1) → fr_sp e (k + 1) s t (2 ^ (k + 1) + v) = (fr_go e s t 1 && fr_sp e k (fr_nx e s 1 - 1) (fr_nx e t 1 - 1) v) := by
      intro v hv
      have hd : (2 ^ (k + 1) + v) / 2 ^ (k + 1) % 2 = 1 := by
        have := Nat.mul_add_div (Nat.two_pow_pos (k + 1)) 1 v
        rw [Nat.mul_one] at this
        rw [this, Nat.div_eq_of_lt hv]
      rw [fr_sp_s, hd]
      have := fr_sp_hi e k 0 (fr_nx e s 1 - 1) (fr_nx e t 1 - 1) v
      rw [Nat.add_zero] at this
      rw [this]
    have P : 2 ^ (k + 1 + 1) = 2 ^ (k + 1) + 2 ^ (k + 1) := by rw [Nat.pow_succ]; omega
    have A : ∀ a, (∀ w, fr_aw e (fr_lw e k) s t a = some w → w < 2 ^ (k + 1) ∧ (fr_go e s t a && fr_sp e k (fr_nx e s a - 1) (fr_nx e t a - 1) w) = true ∧ ∀ v, v < w → (fr_go e s t a && fr_sp e k (fr_nx e s a - 1) (fr_nx e t a - 1) v) = false) ∧ (fr_aw e (fr_lw e k) s t a = none → ∀ v, v < 2 ^ (k + 1) → (fr_go e s t a && fr_sp e k (fr_nx e s a - 1) (fr_nx e t a - 1) v) = false) := by
      intro a
      unfold fr_aw
      by_cases hg : fr_go e s t a = true
      · rw [if_pos hg, hg]
        simp only [Bool.true_and]
        exact ih _ _
      · have hg' : fr_go e s t a = false := by simpa using hg
        rw [if_neg hg, hg']
        exact ⟨(fun w hw => nomatch hw), fun _ v _ => rfl⟩
    obtain ⟨A0, B0⟩ := A 0
    obtain ⟨A1, B1⟩ := A 1
    unfold fr_or
    cases h0 : fr_aw e (fr_lw e k) s t 0 with
    | some w0 =>
      refine ⟨fun w hw => ?_, fun h => nomatch h⟩
      cases hw
      obtain ⟨p1, p2, p3⟩ := A0 _ h0
      refine ⟨by omega, ?_, fun v hv => ?_⟩
      · rw [L _ p1]; exact p2
      · rw [L _ (by omega)]; exact p3 v hv
    | none =>
      have Z := B0 h0
      cases h1 : fr_aw e (fr_lw e k) s t 1 with
      | some w1 =>
        refine ⟨fun w hw => ?_, fun h => nomatch h⟩
        cases hw
        obtain ⟨p1, p2, p3⟩ := A1 _ h1
        refine ⟨by omega, ?_, fun v hv => ?_⟩
        · rw [H _ p1]; exact p2
        · by_cases hv2 : v < 2 ^ (k + 1)
          · rw [L _ hv2]; exact Z v hv2
          · obtain ⟨u, rfl⟩ : ∃ u, v = 2 ^ (k + 1) + u := ⟨v - 2 ^ (k + 1), by omega⟩
            rw [H u (by omega)]; exact p3 u (by omega)
      | none =>
        refine ⟨(fun w hw => nomatch hw), fun _ v hv => ?_⟩
        by_cases hv2 : v < 2 ^ (k + 1)
        · rw [L _ hv2]; exact Z v hv2
        · obtain ⟨u, rfl⟩ : ∃ u, v = 2 ^ (k + 1) + u := ⟨v - 2 ^ (k + 1), by omega⟩
          rw [H u (by omega)]; exact B1 h1 u (by omega)
/-! shortest lengths, by stages -/
def fr_sl (e : Nat → Nat) : Nat → Nat → Nat → Nat
  | 0 => fun _ _ => 0
  | m + 1 => fun s t => if fr_sl e m s t = 0 then (if (fr_lw e m s t).isSome = true then m + 1 else 0) else fr_sl e m s t
def fr_sw (e : Nat → Nat) (m s t : Nat) : Nat := if fr_sl e m s t = 0 then 0 else (fr_lw e (fr_sl e m s t - 1) s t).getD 0
theorem fr_sl_s (e : Nat → Nat) (m s t : Nat) : fr_sl e (m + 1) s t = if fr_sl e m s t = 0 then (if (fr_lw e m s t).isSome = true then m + 1 else 0) else fr_sl e m s t := rfl
theorem fr_sl_le (e : Nat → Nat) (m s t : Nat) : fr_sl e m s t ≤ m := by
  induction m with
  | zero => exact Nat.le_refl 0
  | succ m ih =>
    rw [fr_sl_s]
    split
    · split <;> omega
    · omega
/-- what a stage's length says -/
theorem fr_sl_spec (e : Nat → Nat) (s t : Nat) : ∀ m, (fr_sl e m s t = 0 → ∀ k, k < m → fr_lw e k s t = none) ∧ (∀ k, fr_sl e m s t = k + 1 → k < m ∧ (fr_lw e k s t).isSome = true ∧ ∀ j, j < k → fr_lw e j s t = none) := by
  intro m
  induction m with
  | zero => exact ⟨fun _ k hk => absurd hk (Nat.not_lt_zero k), fun k h => absurd h (by show ¬ (0 = k + 1); omega)⟩
  | succ m ih =>
    rw [fr_sl_s]
    by_cases h0 : fr_sl e m s t = 0
    · rw [if_pos h0]
      by_cases h1 : (fr_lw e m s t).isSome = true
      · rw [if_pos h1]
        refine ⟨fun h => by omega, fun k hk => ?_⟩
        obtain rfl : m = k := by omega
        exact ⟨by omega, h1, ih.1 h0⟩
      · rw [if_neg h1]
        refine ⟨fun _ k hk => ?_, fun k hk => by omega⟩
        by_cases hkm : k < m
        · exact ih.1 h0 k hkm
        · obtain rfl : k = m := by omega
          simpa using h1
    · rw [if_neg h0]
      refine ⟨fun h => absurd h h0, fun k hk => ?_⟩
      obtain ⟨a, b, c⟩ := ih.2 k hk
      exact ⟨by omega, b, c⟩
theorem fr_sl_of {e : Nat → Nat} {s t m k : Nat} (hk : k < m) (h : (fr_lw e k s t).isSome = true) (hj : ∀ j, j < k → fr_lw e j s t = none) : fr_sl e m s t = k + 1 := by
  obtain ⟨a, b⟩ := fr_sl_spec e s t m
  cases hl : fr_sl e m s t with
  | zero => rw [a hl k hk] at h; cases h
  | succ q =>
    obtain ⟨q1, q2, q3⟩ := b q hl
    by_cases h1 : q < k
    · rw [hj q h1] at q2; cases q2
    · by_cases h2 : k < q
      · rw [q3 k h2] at h; cases h
      · omega
theorem fr_sl_keep {e : Nat → Nat} {s t m k : Nat} (hk : k ≠ 0) (h : fr_sl e m s t = k) : fr_sl e (m + 1) s t = k := by
  rw [fr_sl_s, if_neg (by omega), h]
theorem fr_sl_back {e : Nat → Nat} {s t m k : Nat} (hk : k ≤ m) (h0 : k ≠ 0) (h : fr_sl e (m + 1) s t = k) : fr_sl e m s t = k := by
  rw [fr_sl_s] at h
  split at h
  · split at h <;> omega
  · exact h
theorem fr_sw_keep {e : Nat → Nat} {s t m : Nat} (h : fr_sl e m s t ≠ 0) : fr_sw e (m + 1) s t = fr_sw e m s t := by
  unfold fr_sw
  rw [fr_sl_keep h rfl]
/-- after a letter: only the pairs whose shortest length is the stage's serve -/
theorem fr_aw_eq {e : Nat → Nat} {m s t a : Nat} (ha : a < 2) (h0 : fr_sl e (m + 1) s t = 0) : fr_aw e (fr_lw e m) s t a = if fr_go e s t a = true ∧ fr_sl e (m + 1) (fr_nx e s a - 1) (fr_nx e t a - 1) = m + 1 then some (fr_sw e (m + 1) (fr_nx e s a - 1) (fr_nx e t a - 1)) else none := by
  unfold fr_aw
  by_cases hg : fr_go e s t a = true
  · rw [if_pos hg]
    have N : ∀ j, j < m → fr_lw e j (fr_nx e s a - 1) (fr_nx e t a - 1) = none := by
      intro j hj
      have h1 := (fr_sl_spec e s t (m + 1)).1 h0 (j + 1) (by omega)
      rw [fr_lw_s] at h1
      cases hx : fr_lw e j (fr_nx e s a - 1) (fr_nx e t a - 1) with
      | none => rfl
      | some w =>
        exfalso
        have hy : fr_aw e (fr_lw e j) s t a = some w := by
          unfold fr_aw; rw [if_pos hg, hx]
        rcases (show a = 0 ∨ a = 1 by omega) with rfl | rfl
        · rw [hy] at h1; exact nomatch h1
        · rw [hy] at h1
          cases hz : fr_aw e (fr_lw e j) s t 0 with
          | none => rw [hz] at h1; exact nomatch h1
          | some w' => rw [hz] at h1; exact nomatch h1
    cases hx : fr_lw e m (fr_nx e s a - 1) (fr_nx e t a - 1) with
    | none =>
      rw [if_neg]
      intro h
      obtain ⟨_, b, _⟩ := (fr_sl_spec e _ _ (m + 1)).2 m h.2
      rw [hx] at b
      cases b
    | some w =>
      have hl : fr_sl e (m + 1) (fr_nx e s a - 1) (fr_nx e t a - 1) = m + 1 := fr_sl_of (by omega) (by rw [hx]; rfl) N
      rw [if_pos ⟨hg, hl⟩]
      unfold fr_sw
      rw [hl, if_neg (by omega), Nat.add_sub_cancel, hx]
      rfl
  · rw [if_neg hg, if_neg (fun h => hg h.1)]
/-! symmetric, and nothing splits a state from itself -/
theorem fr_od_sy (e : Nat → Nat) (s t a : Nat) : fr_od e s t a = fr_od e t s a := by
  unfold fr_od
  exact decide_eq_decide.mpr ⟨fun h => ⟨h.2.1, h.1, Ne.symm h.2.2⟩, fun h => ⟨h.2.1, h.1, Ne.symm h.2.2⟩⟩
theorem fr_go_sy (e : Nat → Nat) (s t a : Nat) : fr_go e s t a = fr_go e t s a := by
  unfold fr_go
  exact decide_eq_decide.mpr ⟨fun h => ⟨h.2, h.1⟩, fun h => ⟨h.2, h.1⟩⟩
theorem fr_lw_sy (e : Nat → Nat) : ∀ k s t, fr_lw e k s t = fr_lw e k t s := by
  intro k
  induction k with
  | zero => intro s t; rw [fr_lw_0, fr_lw_0, fr_od_sy e s t, fr_od_sy e s t]
  | succ k ih =>
    intro s t
    have A : ∀ a, fr_aw e (fr_lw e k) s t a = fr_aw e (fr_lw e k) t s a := by
      intro a
      unfold fr_aw
      rw [fr_go_sy e s t, ih]
    rw [fr_lw_s, fr_lw_s, A, A]
theorem fr_lw_re (e : Nat → Nat) : ∀ k s, fr_lw e k s s = none := by
  intro k
  induction k with
  | zero =>
    intro s
    have : ∀ a, ¬ fr_od e s s a = true := by
      intro a h
      exact (of_decide_eq_true h).2.2 rfl
    rw [fr_lw_0, if_neg (this 0), if_neg (this 1)]
  | succ k ih =>
    intro s
    have A : ∀ a, fr_aw e (fr_lw e k) s s a = none := by
      intro a
      unfold fr_aw
      rw [ih]
      split <;> rfl
    rw [fr_lw_s, A, A]
    rfl
theorem fr_sl_sy (e : Nat → Nat) (m s t : Nat) : fr_sl e m s t = fr_sl e m t s := by
  induction m with
  | zero => rfl
  | succ m ih => rw [fr_sl_s, fr_sl_s, ih, fr_lw_sy]
theorem fr_sl_re (e : Nat → Nat) (m s : Nat) : fr_sl e m s s = 0 := by
  induction m with
  | zero => rfl
  | succ m ih => rw [fr_sl_s, if_pos ih, fr_lw_re]; rfl
end FRW
end
section
section FRB
/-! no shortest word is longer than there are twos of states -/
theorem fr_nx_le {e : Nat → Nat} {n : Nat} (he : ∀ i, e i < 3 * (n + 1)) (s a : Nat) : fr_nx e s a ≤ n := by
  have := he (2 * s + a)
  unfold fr_nx
  omega
theorem fr_go_iff {e : Nat → Nat} {s t a : Nat} : fr_go e s t a = true ↔ fr_nx e s a ≠ 0 ∧ fr_nx e t a ≠ 0 := by
  unfold fr_go
  exact decide_eq_true_iff
theorem fr_od_iff {e : Nat → Nat} {s t a : Nat} : fr_od e s t a = true ↔ fr_ou e s a ≠ 0 ∧ fr_ou e t a ≠ 0 ∧ fr_ou e s a ≠ fr_ou e t a := by
  unfold fr_od
  exact decide_eq_true_iff
theorem fr_sl_down {e : Nat → Nat} {n m s t j : Nat} (he : ∀ i, e i < 3 * (n + 1)) (h : fr_sl e m s t = j + 2) : ∃ p q, p < n ∧ q < n ∧ fr_sl e m p q = j + 1 := by
  obtain ⟨h1, h2, h3⟩ := (fr_sl_spec e s t m).2 (j + 1) h
  have h0 : fr_sl e (j + 1) s t = 0 := by
    cases hx : fr_sl e (j + 1) s t with
    | zero => rfl
    | succ k =>
      obtain ⟨k1, k2, _⟩ := (fr_sl_spec e s t (j + 1)).2 k hx
      rw [h3 k k1] at k2
      cases k2
  have K : ∀ a, a < 2 → (fr_aw e (fr_lw e j) s t a).isSome = true → ∃ p q, p < n ∧ q < n ∧ fr_sl e m p q = j + 1 := by
    intro a ha hs
    rw [fr_aw_eq ha h0] at hs
    by_cases hc : fr_go e s t a = true ∧ fr_sl e (j + 1) (fr_nx e s a - 1) (fr_nx e t a - 1) = j + 1
    · obtain ⟨hg, hl⟩ := hc
      have hg' := fr_go_iff.mp hg
      have b1 := fr_nx_le he s a
      have b2 := fr_nx_le he t a
      obtain ⟨_, q2, q3⟩ := (fr_sl_spec e _ _ (j + 1)).2 j hl
      exact ⟨_, _, by omega, by omega, fr_sl_of (by omega) q2 q3⟩
    · rw [if_neg hc] at hs
      cases hs
  rw [fr_lw_s] at h2
  cases h4 : fr_aw e (fr_lw e j) s t 0 with
  | some w => exact K 0 (by omega) (by rw [h4]; rfl)
  | none =>
    cases h5 : fr_aw e (fr_lw e j) s t 1 with
    | some w => exact K 1 (by omega) (by rw [h5]; rfl)
    | none =>
      rw [h4, h5] at h2
      cases h2
theorem fr_sl_all {e : Nat → Nat} {n m : Nat} (he : ∀ i, e i < 3 * (n + 1)) : ∀ d j s t, s < n → t < n → fr_sl e m s t = j + 1 + d → ∃ p q, p < q ∧ q < n ∧ fr_sl e m p q = j + 1 := by
  intro d
  induction d with
  | zero =>
    intro j s t hs ht h
    rw [Nat.add_zero] at h
    rcases Nat.lt_trichotomy s t with hl | hl | hl
    · exact ⟨s, t, hl, ht, h⟩
    · rw [hl, fr_sl_re] at h; omega
    · exact ⟨t, s, hl, hs, by rw [fr_sl_sy]; exact h⟩
  | succ d ih =>
    intro j s t hs ht h
    obtain ⟨p, q, hp, hq, h'⟩ := fr_sl_down (j := j + d) he (show fr_sl e m s t = j + d + 2 by omega)
    exact ih j p q hp hq (by omega)
theorem fr_pig : ∀ (M : Nat) (l : List Nat), (∀ j, j < M → j + 1 ∈ l) → M ≤ l.length := by
  intro M
  induction M with
  | zero => intro l _; exact Nat.zero_le _
  | succ M ih =>
    intro l h
    have hm := h M (by omega)
    have h1 := ih (l.erase (M + 1)) (fun j hj => (List.mem_erase_of_ne (by omega)).mpr (h j (by omega)))
    rw [List.length_erase_of_mem hm] at h1
    have h2 : 0 < l.length := List.length_pos_of_mem hm
    omega
theorem fr_sl_bd {e : Nat → Nat} {n m s t : Nat} (he : ∀ i, e i < 3 * (n + 1)) (hn : 2 ≤ n) (hn5 : n ≤ 5) (hm : m ≤ 10) (hs : s < n) (ht : t < n) : fr_sl e m s t ≤ n * (n - 1) / 2 := by
  have J : ∀ j, j < fr_sl e m s t → ∃ p q, p < q ∧ q < n ∧ fr_sl e m p q = j + 1 := by
    intro j hj
    exact fr_sl_all he (fr_sl e m s t - (j + 1)) j s t hs ht (by omega)
  have hl := fr_sl_le e m s t
  generalize fr_sl e m s t = M at J hl
  rcases (show n = 2 ∨ n = 3 ∨ n = 4 ∨ n = 5 by omega) with rfl | rfl | rfl | rfl
  · refine fr_pig M [fr_sl e m 0 1] (fun j hj => ?_)
    obtain ⟨p, q, hp, hq, h⟩ := J j hj
    rcases (show p = 0 ∧ q = 1 by omega) with ⟨rfl, rfl⟩
    simp [h]
  · refine fr_pig M [fr_sl e m 0 1, fr_sl e m 0 2, fr_sl e m 1 2] (fun j hj => ?_)
    obtain ⟨p, q, hp, hq, h⟩ := J j hj
    rcases (show (p = 0 ∧ q = 1) ∨ (p = 0 ∧ q = 2) ∨ (p = 1 ∧ q = 2) by omega) with ⟨rfl, rfl⟩ | ⟨rfl, rfl⟩ | ⟨rfl, rfl⟩ <;> simp [h]
  · refine fr_pig M [fr_sl e m 0 1, fr_sl e m 0 2, fr_sl e m 1 2, fr_sl e m 0 3, fr_sl e m 1 3, fr_sl e m 2 3] (fun j hj => ?_)
    obtain ⟨p, q, hp, hq, h⟩ := J j hj
    rcases (show (p = 0 ∧ q = 1) ∨ (p = 0 ∧ q = 2) ∨ (p = 1 ∧ q = 2) ∨ (p = 0 ∧ q = 3) ∨ (p = 1 ∧ q = 3) ∨ (p = 2 ∧ q = 3) by omega) with ⟨rfl, rfl⟩ | ⟨rfl, rfl⟩ | ⟨rfl, rfl⟩ | ⟨rfl, rfl⟩ | ⟨rfl, rfl⟩ | ⟨rfl, rfl⟩ <;> simp [h]
  · omega
theorem fr_sl_cap {e : Nat → Nat} {m M s t : Nat} (hM : M ≤ m) (h : fr_sl e m s t ≤ M) : fr_sl e M s t = fr_sl e m s t := by
  obtain ⟨a, b⟩ := fr_sl_spec e s t m
  cases hx : fr_sl e m s t with
  | zero =>
    cases hy : fr_sl e M s t with
    | zero => rfl
    | succ k =>
      obtain ⟨k1, k2, _⟩ := (fr_sl_spec e s t M).2 k hy
      rw [a hx k (by omega)] at k2
      cases k2
  | succ k =>
    obtain ⟨_, k2, k3⟩ := b k hx
    exact fr_sl_of (by omega) k2 k3
theorem fr_sw_lt (e : Nat → Nat) (m s t : Nat) : fr_sw e m s t < 2 ^ (m + 1) := by
  unfold fr_sw
  split
  · exact Nat.two_pow_pos _
  · rename_i h
    cases hx : fr_lw e (fr_sl e m s t - 1) s t with
    | none => exact Nat.two_pow_pos _
    | some w =>
      have h1 := ((fr_lw_spec e _ s t).1 w hx).1
      have h2 := fr_sl_le e m s t
      exact Nat.lt_of_lt_of_le h1 (Nat.pow_le_pow_right (by decide) (by omega))
end FRB
end
section
section FRS
/-! sets of states: a number below 2 ^ n, by its bits -/
def fr_cs (e : Nat → Nat) (n c : Nat) : Bool := (List.range n).all fun s => (List.range n).all fun t => !(c.testBit s && c.testBit t) || fr_sl e 10 s t == 0
theorem fr_cs_iff {e : Nat → Nat} {n c : Nat} : fr_cs e n c = true ↔ ∀ s t, s < n → t < n → c.testBit s = true → c.testBit t = true → fr_sl e 10 s t = 0 := by
  unfold fr_cs
  simp only [List.all_eq_true, List.mem_range, Bool.or_eq_true, Bool.not_eq_true', Bool.and_eq_false_iff, beq_iff_eq]
  constructor
  · intro h s t hs ht a b
    rcases h s hs t ht with (h1 | h1) | h1
    · rw [a] at h1; cases h1
    · rw [b] at h1; cases h1
    · exact h1
  · intro h s hs t ht
    cases a : c.testBit s with
    | false => exact Or.inl (Or.inl rfl)
    | true =>
      cases b : c.testBit t with
      | false => exact Or.inl (Or.inr rfl)
      | true => exact Or.inr (h s t hs ht a b)
theorem fr_bf {b : Bool} (h : ¬ b = true) : b = false := by
  cases b
  · rfl
  · exact absurd rfl h
theorem fr_cs_f {e : Nat → Nat} {n c s t : Nat} (hs : s < n) (ht : t < n) (a : c.testBit s = true) (b : c.testBit t = true) (h : fr_sl e 10 s t ≠ 0) : fr_cs e n c = false := fr_bf (fun hx => h (fr_cs_iff.mp hx s t hs ht a b))
theorem fr_cs_sub {e : Nat → Nat} {n c d : Nat} (hd : fr_cs e n d = true) (h : ∀ s, s < n → c.testBit s = true → d.testBit s = true) : fr_cs e n c = true := fr_cs_iff.mpr fun s t hs ht a b => fr_cs_iff.mp hd s t hs ht (h s hs a) (h t ht b)
theorem fr_tb (c s : Nat) : c.testBit s = decide (c / 2 ^ s % 2 = 1) := Nat.testBit_eq_decide_div_mod_eq
theorem fr_cs_0 (e : Nat → Nat) (n : Nat) : fr_cs e n 0 = true := fr_cs_iff.mpr fun s t _ _ a _ => by
  rw [Nat.zero_testBit] at a
  cases a
theorem fr_cs_1 (e : Nat → Nat) (n j : Nat) : fr_cs e n (2 ^ j) = true := fr_cs_iff.mpr fun s t _ _ a b => by
  rw [Nat.testBit_two_pow] at a b
  have h1 := of_decide_eq_true a
  have h2 := of_decide_eq_true b
  rw [← h1, ← h2, fr_sl_re]
/-! implied sets -/
def fr_im (e : Nat → Nat) (c a : Nat) : Nat → Nat
  | 0 => 0
  | s + 1 => if c.testBit s = true ∧ fr_nx e s a ≠ 0 then fr_im e c a s ||| 2 ^ (fr_nx e s a - 1) else fr_im e c a s
theorem fr_im_s (e : Nat → Nat) (c a s : Nat) : fr_im e c a (s + 1) = if c.testBit s = true ∧ fr_nx e s a ≠ 0 then fr_im e c a s ||| 2 ^ (fr_nx e s a - 1) else fr_im e c a s := rfl
theorem fr_im_lt {e : Nat → Nat} {n : Nat} (he : ∀ i, e i < 3 * (n + 1)) (c a : Nat) : ∀ k, fr_im e c a k < 2 ^ n := by
  intro k
  induction k with
  | zero => exact Nat.two_pow_pos n
  | succ k ih =>
    rw [fr_im_s]
    split
    · rename_i h
      have := fr_nx_le he k a
      exact Nat.or_lt_two_pow ih (Nat.pow_lt_pow_right (by decide) (by omega))
    · exact ih
theorem fr_im_0 (e : Nat → Nat) (a : Nat) : ∀ k, fr_im e 0 a k = 0 := by
  intro k
  induction k with
  | zero => rfl
  | succ k ih =>
    rw [fr_im_s, if_neg, ih]
    intro h
    rw [Nat.zero_testBit] at h
    cases h.1
theorem fr_im_1 (e : Nat → Nat) (j a : Nat) : ∀ k, fr_im e (2 ^ j) a k = if j < k ∧ fr_nx e j a ≠ 0 then 2 ^ (fr_nx e j a - 1) else 0 := by
  intro k
  induction k with
  | zero => rw [if_neg (by omega)]; rfl
  | succ k ih =>
    rw [fr_im_s, ih, Nat.testBit_two_pow]
    by_cases hj : j = k
    · subst hj
      by_cases hx : fr_nx e j a ≠ 0
      · rw [if_pos ⟨decide_eq_true rfl, hx⟩, if_neg (by omega), if_pos ⟨by omega, hx⟩, Nat.zero_or]
      · rw [if_neg (fun h => hx h.2), if_neg (by omega), if_neg (fun h => hx h.2)]
    · rw [if_neg (fun h => hj (of_decide_eq_true h.1))]
      by_cases hx : j < k ∧ fr_nx e j a ≠ 0
      · rw [if_pos hx, if_pos ⟨by omega, hx.2⟩]
      · rw [if_neg hx, if_neg (fun h => hx ⟨by omega, h.2⟩)]
/-! the compatible sets counted, and the i-th of them -/
def fr_ct (e : Nat → Nat) (n : Nat) : Nat → Nat
  | 0 => 0
  | c + 1 => fr_ct e n c + (if fr_cs e n (c + 1) = true then 1 else 0)
theorem fr_ct_s (e : Nat → Nat) (n c : Nat) : fr_ct e n (c + 1) = fr_ct e n c + (if fr_cs e n (c + 1) = true then 1 else 0) := rfl
theorem fr_ct_le (e : Nat → Nat) (n : Nat) : ∀ c, fr_ct e n c ≤ c := by
  intro c
  induction c with
  | zero => exact Nat.le_refl 0
  | succ c ih => rw [fr_ct_s]; split <;> omega
theorem fr_ct_mono (e : Nat → Nat) (n c : Nat) : ∀ k, fr_ct e n c ≤ fr_ct e n (c + k) := by
  intro k
  induction k with
  | zero => exact Nat.le_refl _
  | succ k ih => rw [← Nat.add_assoc, fr_ct_s]; split <;> omega
theorem fr_ct_lt {e : Nat → Nat} {n c d : Nat} (h : c < d) (hd : fr_cs e n d = true) : fr_ct e n c < fr_ct e n d := by
  obtain ⟨k, rfl⟩ : ∃ k, d = c + k + 1 := ⟨d - c - 1, by omega⟩
  have := fr_ct_mono e n c k
  rw [fr_ct_s, if_pos hd]
  omega
theorem fr_ct_inj {e : Nat → Nat} {n c d : Nat} (hc : fr_cs e n c = true) (hd : fr_cs e n d = true) (h : fr_ct e n c = fr_ct e n d) : c = d := by
  rcases Nat.lt_trichotomy c d with hl | hl | hl
  · have := fr_ct_lt hl hd; omega
  · exact hl
  · have := fr_ct_lt hl hc; omega
theorem fr_ct_sur (e : Nat → Nat) (n : Nat) : ∀ D i, 1 ≤ i → i ≤ fr_ct e n D → ∃ d, 1 ≤ d ∧ d ≤ D ∧ fr_cs e n d = true ∧ fr_ct e n d = i := by
  intro D
  induction D with
  | zero => intro i h1 h2; exact absurd h2 (by show ¬ i ≤ 0; omega)
  | succ D ih =>
    intro i h1 h2
    by_cases hc : fr_cs e n (D + 1) = true
    · by_cases hi : i ≤ fr_ct e n D
      · obtain ⟨d, a, b, c⟩ := ih i h1 hi
        exact ⟨d, a, by omega, c⟩
      · refine ⟨D + 1, by omega, Nat.le_refl _, hc, ?_⟩
        rw [fr_ct_s, if_pos hc] at h2 ⊢
        omega
    · rw [fr_ct_s, if_neg hc] at h2
      obtain ⟨d, a, b, c⟩ := ih i h1 (by omega)
      exact ⟨d, a, by omega, c⟩
def fr_m (e : Nat → Nat) (n : Nat) : Nat := fr_ct e n (2 ^ n - 1)
noncomputable def fr_cd (e : Nat → Nat) (n i : Nat) : Nat := if i = 0 then 0 else Classical.epsilon (fun d => 1 ≤ d ∧ d < 2 ^ n ∧ fr_cs e n d = true ∧ fr_ct e n d = i)
theorem fr_cd_0 (e : Nat → Nat) (n : Nat) : fr_cd e n 0 = 0 := if_pos rfl
theorem fr_cd_p {e : Nat → Nat} {n i : Nat} (h1 : i ≠ 0) (h2 : i ≤ fr_m e n) : 1 ≤ fr_cd e n i ∧ fr_cd e n i < 2 ^ n ∧ fr_cs e n (fr_cd e n i) = true ∧ fr_ct e n (fr_cd e n i) = i := by
  obtain ⟨d, a, b, c, f⟩ := fr_ct_sur e n (2 ^ n - 1) i (by omega) h2
  unfold fr_cd
  rw [if_neg h1]
  have := Nat.two_pow_pos n
  exact Classical.epsilon_spec (p := fun d => 1 ≤ d ∧ d < 2 ^ n ∧ fr_cs e n d = true ∧ fr_ct e n d = i) ⟨d, a, by omega, c, f⟩
theorem fr_cd_ct {e : Nat → Nat} {n d : Nat} (h1 : 1 ≤ d) (h2 : d < 2 ^ n) (hc : fr_cs e n d = true) : fr_ct e n d ≠ 0 ∧ fr_ct e n d ≤ fr_m e n ∧ fr_cd e n (fr_ct e n d) = d := by
  have a : fr_ct e n d ≠ 0 := by
    have := fr_ct_lt (c := 0) (show 0 < d by omega) hc
    omega
  have b : fr_ct e n d ≤ fr_m e n := by
    have := fr_ct_mono e n d (2 ^ n - 1 - d)
    rw [show d + (2 ^ n - 1 - d) = 2 ^ n - 1 by omega] at this
    exact this
  obtain ⟨_, _, p3, p4⟩ := fr_cd_p a b
  exact ⟨a, b, fr_ct_inj p3 hc p4⟩
theorem fr_cd_cs {e : Nat → Nat} {n i : Nat} (h2 : i ≤ fr_m e n) : fr_cs e n (fr_cd e n i) = true := by
  by_cases h : i = 0
  · rw [h, fr_cd_0]; exact fr_cs_0 e n
  · exact (fr_cd_p h h2).2.2.1
theorem fr_cd_lt {e : Nat → Nat} {n i : Nat} (h2 : i ≤ fr_m e n) : fr_cd e n i < 2 ^ n := by
  by_cases h : i = 0
  · rw [h, fr_cd_0]; exact Nat.two_pow_pos n
  · exact (fr_cd_p h h2).2.1
theorem fr_cd_tc {e : Nat → Nat} {n i : Nat} (h2 : i ≤ fr_m e n) : fr_ct e n (fr_cd e n i) = i := by
  by_cases h : i = 0
  · rw [h, fr_cd_0]; rfl
  · exact (fr_cd_p h h2).2.2.2
theorem fr_cd_mono {e : Nat → Nat} {n i j : Nat} (h : i < j) (h2 : j ≤ fr_m e n) : fr_cd e n i < fr_cd e n j := by
  rcases Nat.lt_trichotomy (fr_cd e n i) (fr_cd e n j) with hl | hl | hl
  · exact hl
  · have a := fr_cd_tc (i := i) (show i ≤ fr_m e n by omega)
    rw [hl, fr_cd_tc h2] at a
    omega
  · have := fr_ct_lt hl (fr_cd_cs (i := i) (by omega))
    rw [fr_cd_tc h2, fr_cd_tc (by omega)] at this
    omega
theorem fr_m_lt (e : Nat → Nat) (n : Nat) : fr_m e n < 2 ^ n := by
  have := fr_ct_le e n (2 ^ n - 1)
  have := Nat.two_pow_pos n
  unfold fr_m
  omega
/-! maximal sets -/
def fr_mx (e : Nat → Nat) (n c : Nat) : Bool := fr_cs e n c && (List.range n).all fun s => c.testBit s || !fr_cs e n (c ||| 2 ^ s)
theorem fr_mx_iff {e : Nat → Nat} {n c : Nat} : fr_mx e n c = true ↔ fr_cs e n c = true ∧ ∀ s, s < n → c.testBit s = false → fr_cs e n (c ||| 2 ^ s) = false := by
  unfold fr_mx
  simp only [Bool.and_eq_true, List.all_eq_true, List.mem_range, Bool.or_eq_true, Bool.not_eq_true']
  refine and_congr_right fun _ => ⟨fun h s hs a => ?_, fun h s hs => ?_⟩
  · rcases h s hs with h1 | h1
    · rw [a] at h1; cases h1
    · exact h1
  · cases a : c.testBit s with
    | true => exact Or.inl rfl
    | false => exact Or.inr (h s hs a)
theorem fr_tb_lt {d n s : Nat} (hd : d < 2 ^ n) (h : d.testBit s = true) : s < n := by
  by_cases hs : s < n
  · exact hs
  · have : d < 2 ^ s := Nat.lt_of_lt_of_le hd (Nat.pow_le_pow_right (by decide) (by omega))
    rw [Nat.testBit_lt_two_pow this] at h
    cases h
theorem fr_sub_tb {c d : Nat} : d &&& c = c ↔ ∀ s, c.testBit s = true → d.testBit s = true := by
  constructor
  · intro h s hs
    rw [← h, Nat.testBit_and, Bool.and_eq_true] at hs
    exact hs.1
  · intro h
    apply Nat.eq_of_testBit_eq
    intro s
    rw [Nat.testBit_and]
    cases hc : c.testBit s with
    | false => rw [Bool.and_false]
    | true => rw [h s hc]; rfl
theorem fr_mx_big {e : Nat → Nat} {n c : Nat} (hc : c < 2 ^ n) : fr_mx e n c = true ↔ fr_cs e n c = true ∧ ∀ d, 1 ≤ d → d < 2 ^ n → d ≠ c → d &&& c = c → fr_cs e n d = false := by
  rw [fr_mx_iff]
  refine and_congr_right fun _ => ⟨fun h d _ hd hne hs => ?_, fun h s hs hb => ?_⟩
  · have hs' := fr_sub_tb.mp hs
    have : ∃ s, d.testBit s = true ∧ c.testBit s = false := by
      apply Classical.byContradiction
      intro hno
      apply hne
      apply Nat.eq_of_testBit_eq
      intro s
      cases h1 : c.testBit s with
      | true => exact hs' s h1
      | false =>
        cases h2 : d.testBit s with
        | false => rfl
        | true => exact absurd ⟨s, h2, h1⟩ hno
    obtain ⟨s, h1, h2⟩ := this
    have h3 := h s (fr_tb_lt hd h1) h2
    refine fr_bf fun hx => ?_
    have : fr_cs e n (c ||| 2 ^ s) = true := fr_cs_sub hx fun r _ hr => by
      rw [Nat.testBit_or, Bool.or_eq_true, Nat.testBit_two_pow] at hr
      rcases hr with hr | hr
      · exact hs' r hr
      · rw [← of_decide_eq_true hr]; exact h1
    rw [this] at h3
    cases h3
  · have hb' : (c ||| 2 ^ s).testBit s = true := by
      rw [Nat.testBit_or, Nat.testBit_two_pow, decide_eq_true rfl, Bool.or_true]
    refine h (c ||| 2 ^ s) ?_ (Nat.or_lt_two_pow hc (Nat.pow_lt_pow_right (by decide) hs)) ?_ ?_
    · rcases Nat.eq_zero_or_pos (c ||| 2 ^ s) with h0 | h0
      · rw [h0, Nat.zero_testBit] at hb'; cases hb'
      · exact h0
    · intro he
      rw [he, hb] at hb'
      cases hb'
    · exact fr_sub_tb.mpr fun r hr => by rw [Nat.testBit_or, hr, Bool.true_or]
def fr_mc (e : Nat → Nat) (n : Nat) : Nat → Nat
  | 0 => 0
  | c + 1 => fr_mc e n c + (if fr_mx e n (c + 1) = true then 1 else 0)
theorem fr_mc_s (e : Nat → Nat) (n c : Nat) : fr_mc e n (c + 1) = fr_mc e n c + (if fr_mx e n (c + 1) = true then 1 else 0) := rfl
theorem fr_mc_le (e : Nat → Nat) (n : Nat) : ∀ c, fr_mc e n c ≤ c := by
  intro c
  induction c with
  | zero => exact Nat.le_refl 0
  | succ c ih => rw [fr_mc_s]; split <;> omega
theorem fr_mc_mono (e : Nat → Nat) (n c : Nat) : ∀ k, fr_mc e n c ≤ fr_mc e n (c + k) := by
  intro k
  induction k with
  | zero => exact Nat.le_refl _
  | succ k ih => rw [← Nat.add_assoc, fr_mc_s]; split <;> omega
/-! covers: by the list's members alone -/
def fr_cov (e : Nat → Nat) (n : Nat) (M : Nat → Prop) : Prop := (∀ d, M d → fr_cs e n d = true) ∧ (∀ s, s < n → ∃ d, M d ∧ d.testBit s = true) ∧ (∀ d, M d → ∀ a, a < 2 → fr_im e d a n = 0 ∨ ∃ d', M d' ∧ d' &&& fr_im e d a n = fr_im e d a n)
theorem fr_cov_eq {e : Nat → Nat} {n : Nat} {M M' : Nat → Prop} (h : ∀ d, M d ↔ M' d) : fr_cov e n M ↔ fr_cov e n M' := by
  have : M = M' := funext fun d => propext (h d)
  rw [this]
theorem fr_all {n v : Nat} (hv : v < 2 ^ n) : v = 2 ^ n - 1 ↔ ∀ s, s < n → v.testBit s = true := by
  constructor
  · intro h s hs
    rw [h, Nat.testBit_two_pow_sub_one]
    exact decide_eq_true hs
  · intro h
    apply Nat.eq_of_testBit_eq
    intro s
    rw [Nat.testBit_two_pow_sub_one]
    by_cases hs : s < n
    · rw [h s hs, decide_eq_true hs]
    · rw [decide_eq_false hs]
      exact fr_bf fun hx => hs (fr_tb_lt hv hx)
end FRS
end
section
section FRC
/-! how many lists are left -/
def fr_ch : Nat → Nat → Nat
  | 0 => fun k => if k = 0 then 1 else 0
  | m + 1 => fun k => match k with
    | 0 => 1
    | k + 1 => fr_ch m k + fr_ch m (k + 1)
theorem fr_ch_s (m k : Nat) : fr_ch (m + 1) (k + 1) = fr_ch m k + fr_ch m (k + 1) := rfl
theorem fr_ch_0 (m : Nat) : fr_ch m 0 = 1 := by
  cases m <;> rfl
theorem fr_ch_mono (m k : Nat) : fr_ch m k ≤ fr_ch (m + 1) k := by
  cases k with
  | zero => rw [fr_ch_0, fr_ch_0]; exact Nat.le_refl 1
  | succ k => rw [fr_ch_s]; omega
theorem fr_ch_le (k : Nat) {m M : Nat} (h : m ≤ M) : fr_ch m k ≤ fr_ch M k := by
  obtain ⟨d, rfl⟩ : ∃ d, M = m + d := ⟨M - m, by omega⟩
  clear h
  induction d with
  | zero => exact Nat.le_refl _
  | succ d ih => exact Nat.le_trans ih (fr_ch_mono (m + d) k)
theorem fr_p1 {M : Nat} (h : 1 ≤ M) : fr_ch M 1 = fr_ch (M - 1) 1 + 1 := by
  obtain ⟨x, rfl⟩ : ∃ x, M = x + 1 := ⟨M - 1, by omega⟩
  show fr_ch x 0 + fr_ch x 1 = _
  rw [fr_ch_0, Nat.add_sub_cancel]
  omega
theorem fr_p2 {M : Nat} (h : 2 ≤ M) : fr_ch M 2 = fr_ch (M - 1) 2 + fr_ch (M - 2) 1 + 1 := by
  obtain ⟨x, rfl⟩ : ∃ x, M = x + 1 := ⟨M - 1, by omega⟩
  have := fr_p1 (M := x) (by omega)
  show fr_ch x 1 + fr_ch x 2 = _
  rw [Nat.add_sub_cancel, show x + 1 - 2 = x - 1 by omega]
  omega
theorem fr_p3 {M : Nat} (h : 3 ≤ M) : fr_ch M 3 = fr_ch (M - 1) 3 + fr_ch (M - 2) 2 + fr_ch (M - 3) 1 + 1 := by
  obtain ⟨x, rfl⟩ : ∃ x, M = x + 1 := ⟨M - 1, by omega⟩
  have := fr_p2 (M := x) (by omega)
  show fr_ch x 2 + fr_ch x 3 = _
  rw [Nat.add_sub_cancel, show x + 1 - 2 = x - 1 by omega, show x + 1 - 3 = x - 2 by omega]
  omega
theorem fr_p4 {M : Nat} (h : 4 ≤ M) : fr_ch M 4 = fr_ch (M - 1) 4 + fr_ch (M - 2) 3 + fr_ch (M - 3) 2 + fr_ch (M - 4) 1 + 1 := by
  obtain ⟨x, rfl⟩ : ∃ x, M = x + 1 := ⟨M - 1, by omega⟩
  have := fr_p3 (M := x) (by omega)
  show fr_ch x 3 + fr_ch x 4 = _
  rw [Nat.add_sub_cancel, show x + 1 - 2 = x - 1 by omega, show x + 1 - 3 = x - 2 by omega, show x + 1 - 4 = x - 3 by omega]
  omega
theorem fr_p5 {M : Nat} (h : 5 ≤ M) : fr_ch M 5 = fr_ch (M - 1) 5 + fr_ch (M - 2) 4 + fr_ch (M - 3) 3 + fr_ch (M - 4) 2 + fr_ch (M - 5) 1 + 1 := by
  obtain ⟨x, rfl⟩ : ∃ x, M = x + 1 := ⟨M - 1, by omega⟩
  have := fr_p4 (M := x) (by omega)
  show fr_ch x 4 + fr_ch x 5 = _
  rw [Nat.add_sub_cancel, show x + 1 - 2 = x - 1 by omega, show x + 1 - 3 = x - 2 by omega, show x + 1 - 4 = x - 3 by omega, show x + 1 - 5 = x - 4 by omega]
  omega
theorem fr_ch31 : fr_ch 31 1 = 31 ∧ fr_ch 31 2 = 465 ∧ fr_ch 31 3 = 4495 ∧ fr_ch 31 4 = 31465 ∧ fr_ch 31 5 = 169911 := by
  decide +kernel
/-! lists: five places, zeros first, then strictly rising places among the m candidates -/
def fr_rem (m : Nat) (c : Nat → Nat) : Nat := fr_ch (m - c 0) 5 + fr_ch (m - c 1) 4 + fr_ch (m - c 2) 3 + fr_ch (m - c 3) 2 + fr_ch (m - c 4) 1
def fr_nt (c : Nat → Nat) (p q : Nat) : Nat := if q < p then c q else c p + 1 + (q - p)
def fr_val (m : Nat) (c : Nat → Nat) : Prop := (c 0 = 0 ∨ c 0 < c 1) ∧ (c 1 = 0 ∨ c 1 < c 2) ∧ (c 2 = 0 ∨ c 2 < c 3) ∧ (c 3 = 0 ∨ c 3 < c 4) ∧ c 4 ≤ m
def fr_lt (c t : Nat → Nat) : Prop := c 0 < t 0 ∨ (c 0 = t 0 ∧ (c 1 < t 1 ∨ (c 1 = t 1 ∧ (c 2 < t 2 ∨ (c 2 = t 2 ∧ (c 3 < t 3 ∨ (c 3 = t 3 ∧ c 4 < t 4)))))))
def fr_le (c t : Nat → Nat) : Prop := c 0 < t 0 ∨ (c 0 = t 0 ∧ (c 1 < t 1 ∨ (c 1 = t 1 ∧ (c 2 < t 2 ∨ (c 2 = t 2 ∧ (c 3 < t 3 ∨ (c 3 = t 3 ∧ c 4 ≤ t 4)))))))
theorem fr_le_lt {c t : Nat → Nat} (h : fr_le c t) (hn : ¬ (c 0 = t 0 ∧ c 1 = t 1 ∧ c 2 = t 2 ∧ c 3 = t 3 ∧ c 4 = t 4)) : fr_lt c t := by
  unfold fr_le at h
  unfold fr_lt
  omega
theorem fr_le_eq {c t : Nat → Nat} (h : fr_le c t) (h' : fr_le t c) : c 0 = t 0 ∧ c 1 = t 1 ∧ c 2 = t 2 ∧ c 3 = t 3 ∧ c 4 = t 4 := by
  unfold fr_le at h h'
  omega
theorem fr_rem_lt {m p : Nat} {c : Nat → Nat} (hp : p < 5) (h : c p + (4 - p) < m) : fr_rem m (fr_nt c p) + 1 ≤ fr_rem m c := by
  unfold fr_rem
  rcases (show p = 0 ∨ p = 1 ∨ p = 2 ∨ p = 3 ∨ p = 4 by omega) with rfl | rfl | rfl | rfl | rfl
  · have := fr_p5 (M := m - c 0) (by omega)
    simp only [fr_nt, Nat.not_lt_zero, if_false, Nat.lt_irrefl]
    rw [show m - (c 0 + 1 + (0 - 0)) = m - c 0 - 1 by omega, show m - (c 0 + 1 + (1 - 0)) = m - c 0 - 2 by omega, show m - (c 0 + 1 + (2 - 0)) = m - c 0 - 3 by omega, show m - (c 0 + 1 + (3 - 0)) = m - c 0 - 4 by omega, show m - (c 0 + 1 + (4 - 0)) = m - c 0 - 5 by omega]
    omega
  · have := fr_p4 (M := m - c 1) (by omega)
    have e0 : fr_nt c 1 0 = c 0 := rfl
    have e1 : m - fr_nt c 1 1 = m - c 1 - 1 := by show m - (c 1 + 1 + 0) = _; omega
    have e2 : m - fr_nt c 1 2 = m - c 1 - 2 := by show m - (c 1 + 1 + 1) = _; omega
    have e3 : m - fr_nt c 1 3 = m - c 1 - 3 := by show m - (c 1 + 1 + 2) = _; omega
    have e4 : m - fr_nt c 1 4 = m - c 1 - 4 := by show m - (c 1 + 1 + 3) = _; omega
    rw [e0, e1, e2, e3, e4]
    omega
  · have := fr_p3 (M := m - c 2) (by omega)
    have e0 : fr_nt c 2 0 = c 0 := rfl
    have e1 : fr_nt c 2 1 = c 1 := rfl
    have e2 : m - fr_nt c 2 2 = m - c 2 - 1 := by show m - (c 2 + 1 + 0) = _; omega
    have e3 : m - fr_nt c 2 3 = m - c 2 - 2 := by show m - (c 2 + 1 + 1) = _; omega
    have e4 : m - fr_nt c 2 4 = m - c 2 - 3 := by show m - (c 2 + 1 + 2) = _; omega
    rw [e0, e1, e2, e3, e4]
    omega
  · have := fr_p2 (M := m - c 3) (by omega)
    have e0 : fr_nt c 3 0 = c 0 := rfl
    have e1 : fr_nt c 3 1 = c 1 := rfl
    have e2 : fr_nt c 3 2 = c 2 := rfl
    have e3 : m - fr_nt c 3 3 = m - c 3 - 1 := by show m - (c 3 + 1 + 0) = _; omega
    have e4 : m - fr_nt c 3 4 = m - c 3 - 2 := by show m - (c 3 + 1 + 1) = _; omega
    rw [e0, e1, e2, e3, e4]
    omega
  · have := fr_p1 (M := m - c 4) (by omega)
    have e0 : fr_nt c 4 0 = c 0 := rfl
    have e1 : fr_nt c 4 1 = c 1 := rfl
    have e2 : fr_nt c 4 2 = c 2 := rfl
    have e3 : fr_nt c 4 3 = c 3 := rfl
    have e4 : m - fr_nt c 4 4 = m - c 4 - 1 := by show m - (c 4 + 1 + 0) = _; omega
    rw [e0, e1, e2, e3, e4]
    omega
theorem fr_nt_e (c : Nat → Nat) :
    (fr_nt c 0 0 = c 0 + 1 ∧ fr_nt c 0 1 = c 0 + 2 ∧ fr_nt c 0 2 = c 0 + 3 ∧ fr_nt c 0 3 = c 0 + 4 ∧ fr_nt c 0 4 = c 0 + 5) ∧
    (fr_nt c 1 0 = c 0 ∧ fr_nt c 1 1 = c 1 + 1 ∧ fr_nt c 1 2 = c 1 + 2 ∧ fr_nt c 1 3 = c 1 + 3 ∧ fr_nt c 1 4 = c 1 + 4) ∧
    (fr_nt c 2 0 = c 0 ∧ fr_nt c 2 1 = c 1 ∧ fr_nt c 2 2 = c 2 + 1 ∧ fr_nt c 2 3 = c 2 + 2 ∧ fr_nt c 2 4 = c 2 + 3) ∧
    (fr_nt c 3 0 = c 0 ∧ fr_nt c 3 1 = c 1 ∧ fr_nt c 3 2 = c 2 ∧ fr_nt c 3 3 = c 3 + 1 ∧ fr_nt c 3 4 = c 3 + 2) ∧
    (fr_nt c 4 0 = c 0 ∧ fr_nt c 4 1 = c 1 ∧ fr_nt c 4 2 = c 2 ∧ fr_nt c 4 3 = c 3 ∧ fr_nt c 4 4 = c 4 + 1) := by
  refine ⟨⟨rfl, rfl, rfl, rfl, rfl⟩, ⟨rfl, rfl, rfl, rfl, rfl⟩, ⟨rfl, rfl, rfl, rfl, rfl⟩, ⟨rfl, rfl, rfl, rfl, rfl⟩, ⟨rfl, rfl, rfl, rfl, rfl⟩⟩
theorem fr_val_nt {m p : Nat} {c : Nat → Nat} (hv : fr_val m c) (hp : p < 5) (h : c p + (4 - p) < m) : fr_val m (fr_nt c p) := by
  obtain ⟨v0, v1, v2, v3, v4⟩ := hv
  obtain ⟨⟨a0, a1, a2, a3, a4⟩, ⟨b0, b1, b2, b3, b4⟩, ⟨c0, c1, c2, c3, c4⟩, ⟨d0, d1, d2, d3, d4⟩, ⟨g0, g1, g2, g3, g4⟩⟩ := fr_nt_e c
  unfold fr_val
  rcases (show p = 0 ∨ p = 1 ∨ p = 2 ∨ p = 3 ∨ p = 4 by omega) with rfl | rfl | rfl | rfl | rfl
  · rw [a0, a1, a2, a3, a4]
    refine ⟨by omega, by omega, by omega, by omega, by omega⟩
  · rw [b0, b1, b2, b3, b4]
    refine ⟨by omega, by omega, by omega, by omega, by omega⟩
  · rw [c0, c1, c2, c3, c4]
    refine ⟨by omega, by omega, by omega, by omega, by omega⟩
  · rw [d0, d1, d2, d3, d4]
    refine ⟨by omega, by omega, by omega, by omega, by omega⟩
  · rw [g0, g1, g2, g3, g4]
    refine ⟨by omega, by omega, by omega, by omega, by omega⟩
theorem fr_val_b {m : Nat} {t : Nat → Nat} (hv : fr_val m t) : (t 0 = 0 ∨ t 0 + 4 ≤ m) ∧ (t 1 = 0 ∨ t 1 + 3 ≤ m) ∧ (t 2 = 0 ∨ t 2 + 2 ≤ m) ∧ (t 3 = 0 ∨ t 3 + 1 ≤ m) ∧ t 4 ≤ m ∧ (t 0 = 0 ∨ (t 0 < t 1 ∧ t 0 + 1 < t 2 ∧ t 0 + 2 < t 3 ∧ t 0 + 3 < t 4)) ∧ (t 1 = 0 ∨ (t 1 < t 2 ∧ t 1 + 1 < t 3 ∧ t 1 + 2 < t 4)) ∧ (t 2 = 0 ∨ (t 2 < t 3 ∧ t 2 + 1 < t 4)) ∧ (t 3 = 0 ∨ t 3 < t 4) := by
  obtain ⟨v0, v1, v2, v3, v4⟩ := hv
  refine ⟨by omega, by omega, by omega, by omega, by omega, by omega, by omega, by omega, by omega⟩
/-- a list below another one has a place that can be raised -/
theorem fr_lt_ex {m : Nat} {c t : Nat → Nat} (ht : fr_val m t) (h : fr_lt c t) : ∃ q, q < 5 ∧ c q + (4 - q) < m := by
  obtain ⟨b0, b1, b2, b3, b4, _⟩ := fr_val_b ht
  rcases h with h | ⟨_, h | ⟨_, h | ⟨_, h | ⟨_, h⟩⟩⟩⟩
  · exact ⟨0, by omega, by omega⟩
  · exact ⟨1, by omega, by omega⟩
  · exact ⟨2, by omega, by omega⟩
  · exact ⟨3, by omega, by omega⟩
  · exact ⟨4, by omega, by omega⟩
/-- and the next one isn't above that other one -/
theorem fr_nt_le {m p : Nat} {c t : Nat → Nat} (ht : fr_val m t) (h : fr_lt c t) (hp : p < 5) (hr : c p + (4 - p) < m) (hq : ∀ q, p < q → q < 5 → m ≤ c q + (4 - q)) : fr_le (fr_nt c p) t := by
  obtain ⟨b0, b1, b2, b3, b4, r0, r1, r2, r3⟩ := fr_val_b ht
  obtain ⟨⟨a0, a1, a2, a3, a4⟩, ⟨e0, e1, e2, e3, e4⟩, ⟨c0, c1, c2, c3, c4⟩, ⟨d0, d1, d2, d3, d4⟩, ⟨g0, g1, g2, g3, g4⟩⟩ := fr_nt_e c
  unfold fr_le
  rcases (show p = 0 ∨ p = 1 ∨ p = 2 ∨ p = 3 ∨ p = 4 by omega) with rfl | rfl | rfl | rfl | rfl
  · rw [a0, a1, a2, a3, a4]
    have q1 := hq 1 (by omega) (by omega)
    have q2 := hq 2 (by omega) (by omega)
    have q3 := hq 3 (by omega) (by omega)
    have q4 := hq 4 (by omega) (by omega)
    rcases h with h | ⟨_, h | ⟨_, h | ⟨_, h | ⟨_, h⟩⟩⟩⟩ <;> omega
  · rw [e0, e1, e2, e3, e4]
    have q2 := hq 2 (by omega) (by omega)
    have q3 := hq 3 (by omega) (by omega)
    have q4 := hq 4 (by omega) (by omega)
    rcases h with h | ⟨_, h | ⟨_, h | ⟨_, h | ⟨_, h⟩⟩⟩⟩ <;> omega
  · rw [c0, c1, c2, c3, c4]
    have q3 := hq 3 (by omega) (by omega)
    have q4 := hq 4 (by omega) (by omega)
    rcases h with h | ⟨_, h | ⟨_, h | ⟨_, h | ⟨_, h⟩⟩⟩⟩ <;> omega
  · rw [d0, d1, d2, d3, d4]
    have q4 := hq 4 (by omega) (by omega)
    rcases h with h | ⟨_, h | ⟨_, h | ⟨_, h | ⟨_, h⟩⟩⟩⟩ <;> omega
  · rw [g0, g1, g2, g3, g4]
    rcases h with h | ⟨_, h | ⟨_, h | ⟨_, h | ⟨_, h⟩⟩⟩⟩ <;> omega
/-! the best cover -/
def fr_mem (e : Nat → Nat) (n : Nat) (c : Nat → Nat) (d : Nat) : Prop := d ≠ 0 ∧ ∃ p, p < 5 ∧ fr_cd e n (c p) = d
def fr_ok (e : Nat → Nat) (n : Nat) (c : Nat → Nat) : Prop := fr_val (fr_m e n) c ∧ fr_cov e n (fr_mem e n c)
def fr_best (e : Nat → Nat) (n : Nat) (c : Nat → Nat) : Prop := fr_ok e n c ∧ ∀ t, fr_ok e n t → fr_le c t
theorem fr_best_u {e : Nat → Nat} {n : Nat} {c c' : Nat → Nat} (h : fr_best e n c) (h' : fr_best e n c') : c 0 = c' 0 ∧ c 1 = c' 1 ∧ c 2 = c' 2 ∧ c 3 = c' 3 ∧ c 4 = c' 4 := fr_le_eq (h.2 c' h'.1) (h'.2 c h.1)
theorem fr_val_m {m : Nat} {c : Nat → Nat} (h : fr_val m c) {p : Nat} (hp : p < 5) : c p ≤ m := by
  obtain ⟨b0, b1, b2, b3, b4, _⟩ := fr_val_b h
  rcases (show p = 0 ∨ p = 1 ∨ p = 2 ∨ p = 3 ∨ p = 4 by omega) with rfl | rfl | rfl | rfl | rfl <;> omega
theorem fr_ok_4 {e : Nat → Nat} {n : Nat} {c : Nat → Nat} (hn : 0 < n) (h : fr_ok e n c) : c 4 ≠ 0 := by
  obtain ⟨hv, _, hc, _⟩ := h
  obtain ⟨d, ⟨hd, p, hp, he⟩, _⟩ := hc 0 hn
  have hcp : c p ≠ 0 := by
    intro h0
    rw [h0, fr_cd_0] at he
    exact hd he.symm
  obtain ⟨_, _, _, _, _, r0, r1, r2, r3⟩ := fr_val_b hv
  rcases (show p = 0 ∨ p = 1 ∨ p = 2 ∨ p = 3 ∨ p = 4 by omega) with rfl | rfl | rfl | rfl | rfl <;> omega
/-- the list of all sets with one member -/
def fr_si (e : Nat → Nat) (n p : Nat) : Nat := if p + n < 5 then 0 else fr_ct e n (2 ^ (p + n - 5))
theorem fr_si_cd {e : Nat → Nat} {n j : Nat} (hj : j < n) : fr_ct e n (2 ^ j) ≠ 0 ∧ fr_ct e n (2 ^ j) ≤ fr_m e n ∧ fr_cd e n (fr_ct e n (2 ^ j)) = 2 ^ j := fr_cd_ct (Nat.two_pow_pos j) (Nat.pow_lt_pow_right (by decide) hj) (fr_cs_1 e n j)
theorem fr_si_up {e : Nat → Nat} {n p : Nat} (hp : p < 4) : fr_si e n p = 0 ∨ fr_si e n p < fr_si e n (p + 1) := by
  unfold fr_si
  by_cases h : p + n < 5
  · exact Or.inl (if_pos h)
  · right
    rw [if_neg h, if_neg (by omega)]
    refine fr_ct_lt (Nat.pow_lt_pow_right (by decide) (by omega)) (fr_cs_1 e n _)
theorem fr_si_ok {e : Nat → Nat} {n : Nat} (he : ∀ i, e i < 3 * (n + 1)) (hn : 2 ≤ n) (hn5 : n ≤ 5) : fr_ok e n (fr_si e n) := by
  have M : ∀ d, fr_mem e n (fr_si e n) d ↔ ∃ j, j < n ∧ d = 2 ^ j := by
    intro d
    constructor
    · rintro ⟨hd, p, hp, hx⟩
      unfold fr_si at hx
      by_cases h : p + n < 5
      · rw [if_pos h, fr_cd_0] at hx
        exact absurd hx.symm hd
      · rw [if_neg h, (fr_si_cd (by omega)).2.2] at hx
        exact ⟨p + n - 5, by omega, hx.symm⟩
    · rintro ⟨j, hj, rfl⟩
      refine ⟨Nat.ne_of_gt (Nat.two_pow_pos j), j + 5 - n, by omega, ?_⟩
      unfold fr_si
      rw [if_neg (by omega), show j + 5 - n + n - 5 = j by omega, (fr_si_cd hj).2.2]
  refine ⟨⟨fr_si_up (by omega), fr_si_up (by omega), fr_si_up (by omega), fr_si_up (by omega), ?_⟩, ?_⟩
  · unfold fr_si
    rw [if_neg (by omega)]
    exact (fr_si_cd (by omega)).2.1
  · rw [fr_cov_eq M]
    refine ⟨?_, ?_, ?_⟩
    · rintro d ⟨j, _, rfl⟩
      exact fr_cs_1 e n j
    · intro s hs
      exact ⟨2 ^ s, ⟨s, hs, rfl⟩, by rw [Nat.testBit_two_pow]; exact decide_eq_true rfl⟩
    · rintro d ⟨j, hj, rfl⟩ a _
      rw [fr_im_1]
      by_cases h : j < n ∧ fr_nx e j a ≠ 0
      · right
        rw [if_pos h]
        have := fr_nx_le he j a
        exact ⟨_, ⟨fr_nx e j a - 1, by omega, rfl⟩, Nat.and_self _⟩
      · exact Or.inl (if_neg h)
end FRC
end
section
section FRX
variable {n : Nat} {e : Nat → Nat} {fc fm fo fr : Int32} {sl sw im ic cd mx ch cv ak : Nat → Int32}
theorem fr_xou {post : Int32 → Prop} {s a : Nat} (hn : n ≤ 5) (he : ∀ i, e i < 3 * (n + 1)) (hs : s < 5) (ha : a < 2) (h : post (fr_dn (fr_ou e s a))) : wpX_outputOf post ((nI n), (nI (2 ^ n - 1)), fc, fm, fo, fr, (fun i => nI (e i)), sl, sw, im, ic, cd, mx, ch, cv, ak) (nI s) (nI a) := by
  have h2 := he (2 * s + a)
  unfold wpX_outputOf
  dsimp only
  rw [fr_ix2 s a, nI_clamp (by omega), fr_r3 (by omega)]
  exact ⟨vp_in_nI (by omega) (by decide), by decide, h⟩
theorem fr_xnx {post : Int32 → Prop} {s a : Nat} (hn : n ≤ 5) (he : ∀ i, e i < 3 * (n + 1)) (hs : s < 5) (ha : a < 2) (h : post (fr_dn (fr_nx e s a))) : wpX_nextOf post ((nI n), (nI (2 ^ n - 1)), fc, fm, fo, fr, (fun i => nI (e i)), sl, sw, im, ic, cd, mx, ch, cv, ak) (nI s) (nI a) := by
  have h2 := he (2 * s + a)
  unfold wpX_nextOf
  dsimp only
  rw [fr_ix2 s a, nI_clamp (by omega), fr_d3 (by omega)]
  exact ⟨vp_in_nI (by omega) (by decide), by decide, h⟩
theorem fr_ou_lt (e : Nat → Nat) (s a : Nat) : fr_ou e s a < 3 := Nat.mod_lt _ (by decide)
theorem fr_od_b {P : Int32 → Prop} {s t a : Nat} (h : P (if fr_od e s t a = true then 1 else 0)) : ((fr_dn (fr_ou e s a) = (-1) → P 0) ∧ (¬ fr_dn (fr_ou e s a) = (-1) → ((fr_dn (fr_ou e t a) = (-1) → P 0) ∧ (¬ fr_dn (fr_ou e t a) = (-1) → ((fr_dn (fr_ou e s a) = fr_dn (fr_ou e t a) → P 0) ∧ (¬ fr_dn (fr_ou e s a) = fr_dn (fr_ou e t a) → P 1)))))) := by
  have b1 := fr_ou_lt e s a
  have b2 := fr_ou_lt e t a
  rw [fr_dn_m (by omega), fr_dn_m (by omega)]
  by_cases h1 : fr_ou e s a = 0
  · rw [if_neg (fun z => (fr_od_iff.mp z).1 h1)] at h
    exact br_t h1 h
  · refine br_f h1 ?_
    by_cases h2 : fr_ou e t a = 0
    · rw [if_neg (fun z => (fr_od_iff.mp z).2.1 h2)] at h
      exact br_t h2 h
    · refine br_f h2 ?_
      rw [fr_dn_i (by omega) (by omega) h1 h2]
      by_cases h3 : fr_ou e s a = fr_ou e t a
      · rw [if_neg (fun z => (fr_od_iff.mp z).2.2 h3)] at h
        exact br_t h3 h
      · rw [if_pos (fr_od_iff.mpr ⟨h1, h2, h3⟩)] at h
        exact br_f h3 h
theorem fr_xod {post : Int32 → Prop} {s t a : Nat} (hn : n ≤ 5) (he : ∀ i, e i < 3 * (n + 1)) (hs : s < 5) (ht : t < 5) (ha : a < 2) (h : post (if fr_od e s t a = true then 1 else 0)) : wpX_outputsDiffer post ((nI n), (nI (2 ^ n - 1)), fc, fm, fo, fr, (fun i => nI (e i)), sl, sw, im, ic, cd, mx, ch, cv, ak) (nI s) (nI t) (nI a) := by
  unfold wpX_outputsDiffer
  dsimp only
  refine fr_xou hn he hs ha ?_
  refine fr_xou hn he ht ha ?_
  exact fr_od_b (P := post) h
theorem fr_xpa {post : Int32 → Prop} {s t a : Nat} (hn : n ≤ 5) (he : ∀ i, e i < 3 * (n + 1)) (hs : s < 5) (ht : t < 5) (ha : a < 2) (h1 : fr_go e s t a = true → post (nI (5 * (fr_nx e s a - 1) + (fr_nx e t a - 1)))) (h2 : ¬ fr_go e s t a = true → post (-1)) : wpX_pairAfter post ((nI n), (nI (2 ^ n - 1)), fc, fm, fo, fr, (fun i => nI (e i)), sl, sw, im, ic, cd, mx, ch, cv, ak) (nI s) (nI t) (nI a) := by
  have b1 := fr_nx_le he s a
  have b2 := fr_nx_le he t a
  unfold wpX_pairAfter
  dsimp only
  refine fr_xnx hn he hs ha ?_
  refine fr_xnx hn he ht ha ?_
  rw [fr_dn_m (by omega), fr_dn_m (by omega)]
  by_cases g1 : fr_nx e s a = 0
  · exact br_t g1 (h2 (fun z => (fr_go_iff.mp z).1 g1))
  · refine br_f g1 ?_
    by_cases g2 : fr_nx e t a = 0
    · exact br_t g2 (h2 (fun z => (fr_go_iff.mp z).2 g2))
    · refine br_f g2 ?_
      rw [fr_dn_p g1, fr_dn_p g2, fr_ix5]
      exact h1 (fr_go_iff.mpr ⟨g1, g2⟩)
/-! the table of splitting words: half a stage -/
def fr_T (n : Nat) (e : Nat → Nat) (sl sw : Nat → Int32) (m k : Nat) : Prop := ∀ p q, p < n → q < n → sl (5 * p + q) = nI (fr_sl e (if 5 * p + q < k then m + 1 else m) p q) ∧ sw (5 * p + q) = nI (fr_sw e (if 5 * p + q < k then m + 1 else m) p q)
/-- what a letter gives at stage m + 1 -/
def fr_st (e : Nat → Nat) : Nat → Nat → Nat → Nat → Option Nat
  | 0 => fun s t a => if fr_od e s t a = true then some 0 else none
  | m + 1 => fun s t a => fr_aw e (fr_lw e m) s t a
theorem fr_lw_st (e : Nat → Nat) (m s t : Nat) : fr_lw e m s t = fr_or (2 ^ m) (fr_st e m s t 0) (fr_st e m s t 1) := by
  cases m with
  | zero =>
    rw [fr_lw_0]
    unfold fr_st
    dsimp only
    by_cases h0 : fr_od e s t 0 = true
    · rw [if_pos h0, if_pos h0]; rfl
    · rw [if_neg h0, if_neg h0]
      by_cases h1 : fr_od e s t 1 = true
      · rw [if_pos h1, if_pos h1]; rfl
      · rw [if_neg h1, if_neg h1]; rfl
  | succ m => rw [fr_lw_s]; rfl
theorem fr_st_lt {m s t a w : Nat} (h : fr_st e m s t a = some w) : w < 2 ^ (m + 1) := by
  cases m with
  | zero =>
    unfold fr_st at h
    dsimp only at h
    split at h
    · cases h; decide
    · cases h
  | succ m =>
    unfold fr_st fr_aw at h
    dsimp only at h
    split at h
    · exact Nat.lt_of_lt_of_le ((fr_lw_spec e m _ _).1 w h).1 (Nat.pow_le_pow_right (by decide) (by omega))
    · cases h
theorem fr_xs1 {post : SX → Prop} {m s t a N : Nat} (hn : n ≤ 5) (he : ∀ i, e i < 3 * (n + 1)) (hs : s < n) (ht : t < n) (ha : a < 2) (hm : m < 10) (hT : fr_T n e sl sw m (5 * s + t)) (h0 : fr_sl e m s t = 0)
    (hk : ∀ w, fr_st e m s t a = some w → wX_findSplitOfLength_10 post (nI s) (nI t) (nI (m + 1)) (nI (5 * s + t)) (nI n) (nI (2 ^ n - 1)) fc fm fo fr N (nI (a + 1)) (fun i => nI (e i)) (upd sl (5 * s + t) (nI (m + 1))) (upd sw (5 * s + t) (nI (a * 2 ^ m + w))) im ic cd mx ch cv ak)
    (hk' : fr_st e m s t a = none → wX_findSplitOfLength_10 post (nI s) (nI t) (nI (m + 1)) (nI (5 * s + t)) (nI n) (nI (2 ^ n - 1)) fc fm fo fr N (nI (a + 1)) (fun i => nI (e i)) sl sw im ic cd mx ch cv ak) :
    wX_findSplitOfLength_10 post (nI s) (nI t) (nI (m + 1)) (nI (5 * s + t)) (nI n) (nI (2 ^ n - 1)) fc fm fo fr (N + 1) (nI a) (fun i => nI (e i)) sl sw im ic cd mx ch cv ak := by
  have hv : sl (nI (5 * s + t)).toNatClampNeg = 0 := by
    rw [nI_clamp (by omega), (hT s t hs ht).1, if_neg (by omega), h0]; rfl
  have hin : vp_in (nI (5 * s + t)) 25 := vp_in_nI (by omega) (by decide)
  refine pk_le 2 a (fun z => absurd z (by omega)) (fun _ => ⟨hin, br_t hv ?_⟩)
  cases m with
  | zero =>
    refine br_t rfl ?_
    refine fr_xod hn he (by omega) (by omega) ha ?_
    by_cases hd : fr_od e s t a = true
    · rw [if_pos hd]
      refine br_f (by decide) ⟨hin, nm_e ⟨hin, nm_e (nm_r (nI_1 a) ?_)⟩⟩
      rw [nI_clamp (by omega)]
      have := hk 0 (by show (if fr_od e s t a = true then some 0 else none) = some 0; rw [if_pos hd])
      rw [show a * 2 ^ 0 + 0 = a by omega] at this
      exact this
    · rw [if_neg hd]
      refine br_t rfl (nm_r (nI_1 a) ?_)
      exact hk' (by show (if fr_od e s t a = true then some 0 else none) = none; rw [if_neg hd])
  | succ m =>
    have hne : ¬ nI (m + 1 + 1) = 1 := by
      intro z
      have := (nI_eq (b := 1) (by omega) (by omega)).mp z
      omega
    have hm1 : nI (m + 1 + 1) - 1 = nI (m + 1) := nI_pred _
    refine br_f hne ?_
    have haw := fr_aw_eq (e := e) (m := m) (s := s) (t := t) ha h0
    refine fr_xpa hn he (by omega) (by omega) ha (fun hg => ?_) (fun hg => ?_)
    · obtain ⟨g1, g2⟩ := fr_go_iff.mp hg
      have b1 := fr_nx_le he s a
      have b2 := fr_nx_le he t a
      have hb : 5 * (fr_nx e s a - 1) + (fr_nx e t a - 1) < 25 := by omega
      have hin' : vp_in (nI (5 * (fr_nx e s a - 1) + (fr_nx e t a - 1))) 25 := vp_in_nI hb (by decide)
      obtain ⟨t1, t2⟩ := hT (fr_nx e s a - 1) (fr_nx e t a - 1) (by omega) (by omega)
      have hlb := fr_sl_le e (if 5 * (fr_nx e s a - 1) + (fr_nx e t a - 1) < 5 * s + t then m + 1 + 1 else m + 1) (fr_nx e s a - 1) (fr_nx e t a - 1)
      have hD : (if 5 * (fr_nx e s a - 1) + (fr_nx e t a - 1) < 5 * s + t then m + 1 + 1 else m + 1) ≤ m + 2 := by split <;> omega
      have hQ : fr_sl e (if 5 * (fr_nx e s a - 1) + (fr_nx e t a - 1) < 5 * s + t then m + 1 + 1 else m + 1) (fr_nx e s a - 1) (fr_nx e t a - 1) = m + 1 ↔ fr_sl e (m + 1) (fr_nx e s a - 1) (fr_nx e t a - 1) = m + 1 := by
        split
        · exact ⟨fr_sl_back (by omega) (by omega), fr_sl_keep (by omega)⟩
        · exact Iff.rfl
      refine br_f (fr_m1ne (by omega)) ⟨hin', ?_⟩
      rw [nI_clamp (by omega), t1, hm1, nI_eq (by omega) (by omega), hQ]
      by_cases hl : fr_sl e (m + 1) (fr_nx e s a - 1) (fr_nx e t a - 1) = m + 1
      · refine br_t hl ⟨hin, nm_e ⟨hin', hin, ?_⟩⟩
        have hw2 : fr_sw e (if 5 * (fr_nx e s a - 1) + (fr_nx e t a - 1) < 5 * s + t then m + 1 + 1 else m + 1) (fr_nx e s a - 1) (fr_nx e t a - 1) = fr_sw e (m + 1) (fr_nx e s a - 1) (fr_nx e t a - 1) := by
          split
          · exact fr_sw_keep (by omega)
          · rfl
        rw [t2, hw2, fr_shw ha (by omega), nI_add, nI_clamp (by omega)]
        refine nm_e (nm_r (nI_1 a) ?_)
        exact hk _ (by show fr_aw e (fr_lw e m) s t a = _; rw [haw, if_pos ⟨hg, hl⟩])
      · refine br_f hl (nm_r (nI_1 a) ?_)
        exact hk' (by show fr_aw e (fr_lw e m) s t a = _; rw [haw, if_neg (fun z => hl z.2)])
    · refine br_t rfl (nm_r (nI_1 a) ?_)
      exact hk' (by show fr_aw e (fr_lw e m) s t a = _; rw [haw, if_neg (fun z => hg z.1)])
theorem fr_xs_end {post : SX → Prop} {m s t N : Nat} {a : Nat} (hn : n ≤ 5) (hs : s < n) (ht : t < n) (ha : a ≤ 2) (hz : a = 2 ∨ ¬ sl (5 * s + t) = 0) (h : post ((nI n), (nI (2 ^ n - 1)), fc, fm, fo, fr, (fun i => nI (e i)), sl, sw, im, ic, cd, mx, ch, cv, ak)) : wX_findSplitOfLength_10 post (nI s) (nI t) (nI (m + 1)) (nI (5 * s + t)) (nI n) (nI (2 ^ n - 1)) fc fm fo fr (N + 1) (nI a) (fun i => nI (e i)) sl sw im ic cd mx ch cv ak := by
  refine pk_le 2 a (fun _ => h) (fun z => ⟨vp_in_nI (by omega) (by decide), br_f ?_ h⟩)
  rw [nI_clamp (by omega)]
  rcases hz with hz | hz
  · omega
  · exact hz
theorem fr_T_put {m s t v w : Nat} (hn : n ≤ 5) (ht : t < n) (hT : fr_T n e sl sw m (5 * s + t)) (hv : fr_sl e (m + 1) s t = v) (hw : fr_sw e (m + 1) s t = w) : fr_T n e (upd sl (5 * s + t) (nI v)) (upd sw (5 * s + t) (nI w)) m (5 * s + t + 1) := by
  intro p q hp hq
  by_cases h : 5 * p + q = 5 * s + t
  · have : p = s := by omega
    have : q = t := by omega
    subst p q
    rw [pk_us, pk_us, if_pos (by omega), hv, hw]
    exact ⟨rfl, rfl⟩
  · rw [pk_un h, pk_un h]
    obtain ⟨t1, t2⟩ := hT p q hp hq
    by_cases h2 : 5 * p + q < 5 * s + t
    · rw [if_pos h2] at t1 t2
      rw [if_pos (by omega)]
      exact ⟨t1, t2⟩
    · rw [if_neg h2] at t1 t2
      rw [if_neg (by omega)]
      exact ⟨t1, t2⟩
theorem fr_T_same {m s t : Nat} (hn : n ≤ 5) (ht : t < n) (hT : fr_T n e sl sw m (5 * s + t)) (hv : fr_sl e (m + 1) s t = fr_sl e m s t) (hw : fr_sw e (m + 1) s t = fr_sw e m s t) : fr_T n e sl sw m (5 * s + t + 1) := by
  intro p q hp hq
  obtain ⟨t1, t2⟩ := hT p q hp hq
  by_cases h : 5 * p + q = 5 * s + t
  · have : p = s := by omega
    have : q = t := by omega
    subst p q
    rw [if_neg (by omega)] at t1 t2
    rw [if_pos (by omega), hv, hw]
    exact ⟨t1, t2⟩
  · by_cases h2 : 5 * p + q < 5 * s + t
    · rw [if_pos h2] at t1 t2
      rw [if_pos (by omega)]
      exact ⟨t1, t2⟩
    · rw [if_neg h2] at t1 t2
      rw [if_neg (by omega)]
      exact ⟨t1, t2⟩
theorem fr_xsol {post : SX → Prop} {m s t : Nat} (hn : n ≤ 5) (he : ∀ i, e i < 3 * (n + 1)) (hs : s < n) (ht : t < n) (hm : m < 10) (hT : fr_T n e sl sw m (5 * s + t))
    (h : ∀ sl' sw', fr_T n e sl' sw' m (5 * s + t + 1) → post ((nI n), (nI (2 ^ n - 1)), fc, fm, fo, fr, (fun i => nI (e i)), sl', sw', im, ic, cd, mx, ch, cv, ak)) :
    wpX_findSplitOfLength post ((nI n), (nI (2 ^ n - 1)), fc, fm, fo, fr, (fun i => nI (e i)), sl, sw, im, ic, cd, mx, ch, cv, ak) (nI s) (nI t) (nI (m + 1)) := by
  unfold wpX_findSplitOfLength
  dsimp only
  refine nm_r (fr_ix5 s t) ⟨4, ?_⟩
  have hb : fr_sl e m s t < 2 ^ 31 := by have := fr_sl_le e m s t; omega
  have hnz : ∀ {x : Nat}, x ≠ 0 → x < 2 ^ 31 → ¬ nI x = 0 := fun h0 h1 => nI_ne0 (by omega) h1
  by_cases h0 : fr_sl e m s t = 0
  · have hL := fr_lw_st e m s t
    have hS : fr_sl e (m + 1) s t = if (fr_lw e m s t).isSome = true then m + 1 else 0 := by rw [fr_sl_s, if_pos h0]
    refine fr_xs1 (a := 0) (N := 3) hn he hs ht (by omega) hm hT h0 (fun w hw => ?_) (fun hw => ?_)
    · refine fr_xs_end (N := 2) (a := 1) hn hs ht (by omega) (Or.inr (by rw [pk_us]; exact hnz (by omega) (by omega))) (h _ _ ?_)
      rw [hw] at hL
      have hL' : fr_lw e m s t = some w := hL
      have hv : fr_sl e (m + 1) s t = m + 1 := by rw [hS, hL']; rfl
      refine fr_T_put hn ht hT hv ?_
      unfold fr_sw
      rw [hv, if_neg (by omega), Nat.add_sub_cancel, hL']
      show w = 0 * 2 ^ m + w
      omega
    · refine fr_xs1 (a := 1) (N := 2) hn he hs ht (by omega) hm hT h0 (fun w hw1 => ?_) (fun hw1 => ?_)
      · refine fr_xs_end (N := 1) (a := 2) hn hs ht (by omega) (Or.inl rfl) (h _ _ ?_)
        rw [hw, hw1] at hL
        have hL' : fr_lw e m s t = some (2 ^ m + w) := hL
        have hv : fr_sl e (m + 1) s t = m + 1 := by rw [hS, hL']; rfl
        refine fr_T_put hn ht hT hv ?_
        unfold fr_sw
        rw [hv, if_neg (by omega), Nat.add_sub_cancel, hL']
        show 2 ^ m + w = 1 * 2 ^ m + w
        omega
      · refine fr_xs_end (N := 1) (a := 2) hn hs ht (by omega) (Or.inl rfl) (h _ _ ?_)
        rw [hw, hw1] at hL
        have hL' : fr_lw e m s t = none := hL
        have hv : fr_sl e (m + 1) s t = 0 := by rw [hS, hL']; rfl
        refine fr_T_same hn ht hT (by rw [hv, h0]) ?_
        unfold fr_sw
        rw [hv, h0]
  · refine fr_xs_end (N := 3) (a := 0) hn hs ht (by omega) (Or.inr ?_) (h _ _ (fr_T_same hn ht hT (fr_sl_keep h0 rfl) (fr_sw_keep h0)))
    rw [(hT s t hs ht).1, if_neg (by omega)]
    exact hnz h0 hb
theorem fr_xfs48 {post : SX → Prop} {J30 J38 : Int32 → Int32 → Int32 → Int32 → Int32 → Int32 → Int32 → (Nat → Int32) → (Nat → Int32) → (Nat → Int32) → (Nat → Int32) → (Nat → Int32) → (Nat → Int32) → (Nat → Int32) → (Nat → Int32) → (Nat → Int32) → (Nat → Int32) → Prop} {m s : Nat} (hn : n ≤ 5) (he : ∀ i, e i < 3 * (n + 1)) (hs : s < n) (hm : m < 10) (hT : fr_T n e sl sw m (5 * s))
    (h : ∀ sl' sw', fr_T n e sl' sw' m (5 * (s + 1)) → J38 (nI (s + 1)) (nI n) (nI (2 ^ n - 1)) fc fm fo fr (fun i => nI (e i)) sl' sw' im ic cd mx ch cv ak) :
    ∃ N, wX_findSplits_48 post J30 J38 (nI (m + 1)) (nI s) N 0 (nI n) (nI (2 ^ n - 1)) fc fm fo fr (fun i => nI (e i)) sl sw im ic cd mx ch cv ak := by
  refine pk_loop (fun N t (z : (Nat → Int32) × (Nat → Int32)) => wX_findSplits_48 post J30 J38 (nI (m + 1)) (nI s) N (nI t) (nI n) (nI (2 ^ n - 1)) fc fm fo fr (fun i => nI (e i)) z.1 z.2 im ic cd mx ch cv ak) (fun t z => fr_T n e z.1 z.2 m (5 * s + t)) n 0 (sl, sw) (by omega) hT ?_ ?_
  · rintro N ⟨sl, sw⟩ hI
    refine br_t (nI_le (Nat.le_refl n) (by omega)) (nm_r (nI_1 s) (h _ _ ?_))
    intro p q hp hq
    have := hI p q hp hq
    dsimp only at this
    by_cases h2 : 5 * p + q < 5 * s + n
    · rw [if_pos h2] at this
      rw [if_pos (by omega)]
      exact this
    · rw [if_neg h2] at this
      rw [if_neg (by omega)]
      exact this
  · rintro N t ⟨sl, sw⟩ ht hI hk
    refine br_f (nI_ge ht (by omega)) ?_
    refine fr_xsol hn he hs ht hm hI (fun sl' sw' hT' => ?_)
    refine nm_r (nI_1 t) ?_
    exact hk (sl', sw') hT'
theorem fr_xfs38 {post : SX → Prop} {J30 : Int32 → Int32 → Int32 → Int32 → Int32 → Int32 → Int32 → (Nat → Int32) → (Nat → Int32) → (Nat → Int32) → (Nat → Int32) → (Nat → Int32) → (Nat → Int32) → (Nat → Int32) → (Nat → Int32) → (Nat → Int32) → (Nat → Int32) → Prop} {m : Nat} (hn : n ≤ 5) (he : ∀ i, e i < 3 * (n + 1)) (hm : m < 10) (hT : fr_T n e sl sw m 0)
    (h : ∀ sl' sw', fr_T n e sl' sw' (m + 1) 0 → J30 (nI (m + 1 + 1)) (nI n) (nI (2 ^ n - 1)) fc fm fo fr (fun i => nI (e i)) sl' sw' im ic cd mx ch cv ak) :
    ∃ N, wX_findSplits_38 post J30 (nI (m + 1)) N 0 (nI n) (nI (2 ^ n - 1)) fc fm fo fr (fun i => nI (e i)) sl sw im ic cd mx ch cv ak := by
  refine pk_loop (fun N s (z : (Nat → Int32) × (Nat → Int32)) => wX_findSplits_38 post J30 (nI (m + 1)) N (nI s) (nI n) (nI (2 ^ n - 1)) fc fm fo fr (fun i => nI (e i)) z.1 z.2 im ic cd mx ch cv ak) (fun s z => fr_T n e z.1 z.2 m (5 * s)) n 0 (sl, sw) (by omega) hT ?_ ?_
  · rintro N ⟨sl, sw⟩ hI
    refine br_t (nI_le (Nat.le_refl n) (by omega)) (nm_r (nI_1 (m + 1)) (h _ _ ?_))
    intro p q hp hq
    have := hI p q hp hq
    dsimp only at this
    rw [if_pos (by omega)] at this
    rw [if_neg (by omega)]
    exact this
  · rintro N s ⟨sl, sw⟩ hs hI hk
    refine br_f (nI_ge hs (by omega)) ?_
    exact fr_xfs48 hn he hs hm hI (fun sl' sw' hT' => hk (sl', sw') hT')
theorem fr_xfs {post : SX → Prop} (hn : n ≤ 5) (he : ∀ i, e i < 3 * (n + 1)) (h : ∀ sl' sw', fr_T n e sl' sw' 10 0 → post ((nI n), (nI (2 ^ n - 1)), fc, fm, fo, fr, (fun i => nI (e i)), sl', sw', im, ic, cd, mx, ch, cv, ak)) : wpX_findSplits post ((nI n), (nI (2 ^ n - 1)), fc, fm, fo, fr, (fun i => nI (e i)), sl, sw, im, ic, cd, mx, ch, cv, ak) := by
  unfold wpX_findSplits
  dsimp only
  refine pk_loop (fun N i (z : (Nat → Int32) × (Nat → Int32)) => wX_findSplits_2 post (nI n) (nI (2 ^ n - 1)) fc fm fo fr N (nI i) (fun i => nI (e i)) z.1 z.2 im ic cd mx ch cv ak) (fun i z => ∀ j, j < i → z.1 j = 0 ∧ z.2 j = 0) 25 0 (sl, sw) (by omega) (fun j hj => absurd hj (Nat.not_lt_zero j)) ?_ ?_
  · rintro N ⟨sl, sw⟩ hI
    refine br_t (nI_le (Nat.le_refl 25) (by omega)) ?_
    have hT : fr_T n e sl sw 0 0 := by
      intro p q hp hq
      have := hI (5 * p + q) (by omega)
      rw [if_neg (by omega)]
      exact this
    refine pk_loop (fun N m (z : (Nat → Int32) × (Nat → Int32)) => wX_findSplits_30 post N (nI (m + 1)) (nI n) (nI (2 ^ n - 1)) fc fm fo fr (fun i => nI (e i)) z.1 z.2 im ic cd mx ch cv ak) (fun m z => fr_T n e z.1 z.2 m 0) 10 0 (sl, sw) (by omega) hT ?_ ?_
    · rintro N ⟨sl, sw⟩ hI
      exact br_t (nI_lt (a := 10) (b := 11) (by omega) (by omega)) (h _ _ hI)
    · rintro N m ⟨sl, sw⟩ hm hI hk
      refine br_f (nI_nlt (a := 10) (by omega) (by omega)) ?_
      exact fr_xfs38 hn he hm hI (fun sl' sw' hT' => hk (sl', sw') hT')
  · rintro N i ⟨sl, sw⟩ hi hI hk
    have hin : vp_in (nI i) 25 := vp_in_nI hi (by omega)
    refine br_f (nI_ge (b := 25) hi (by omega)) ⟨hin, nm_e ⟨hin, nm_e (nm_r (nI_1 i) ?_)⟩⟩
    rw [nI_clamp (by omega)]
    refine hk (upd sl i 0, upd sw i 0) (fun j hj => ?_)
    dsimp only
    by_cases hji : j = i
    · subst hji
      rw [pk_us, pk_us]
      exact ⟨rfl, rfl⟩
    · rw [pk_un hji, pk_un hji]
      exact hI j (by omega)
end FRX
end
section
section FRX2
variable {n : Nat} {e : Nat → Nat} {fc fm fo fr : Int32} {sl sw im ic cd mx ch cv ak : Nat → Int32}
theorem fr_im_lt32 {c a k : Nat} (hn : n ≤ 5) (he : ∀ i, e i < 3 * (n + 1)) : fr_im e c a k < 32 := Nat.lt_of_lt_of_le (fr_im_lt he c a k) (fr_2n hn)
theorem fr_xns {post : Int32 → Prop} {c a : Nat} (hn : n ≤ 5) (he : ∀ i, e i < 3 * (n + 1)) (hc : c < 2 ^ n) (ha : a < 2) (h : post (nI (fr_im e c a n))) : wpX_nextStatesOf post ((nI n), (nI (2 ^ n - 1)), fc, fm, fo, fr, (fun i => nI (e i)), sl, sw, im, ic, cd, mx, ch, cv, ak) (nI c) (nI a) := by
  have hc2 : c < 32 := Nat.lt_of_lt_of_le hc (fr_2n hn)
  unfold wpX_nextStatesOf
  dsimp only
  refine pk_loop (fun N s (z : Int32) => wX_nextStatesOf_5 post (nI c) (nI a) (nI n) (nI (2 ^ n - 1)) fc fm fo fr (fun i => nI (e i)) sl sw im ic cd mx ch cv ak N z (nI s)) (fun s z => z = nI (fr_im e c a s)) n 0 0 (by omega) rfl ?_ ?_
  · rintro N z rfl
    exact br_t (nI_le (Nat.le_refl n) (by omega)) h
  · rintro N s z hs rfl hk
    refine br_f (nI_ge hs (by omega)) ?_
    refine fr_xnx hn he (by omega) ha ?_
    have b := fr_nx_le he s a
    rw [fr_bit (by omega) (by omega), fr_dn_m (by omega)]
    by_cases h1 : c.testBit s = true
    · refine br_t h1 ?_
      by_cases h2 : fr_nx e s a = 0
      · refine br_t h2 (nm_r (nI_1 s) (hk _ ?_))
        rw [fr_im_s, if_neg (fun z => z.2 h2)]
      · refine br_f h2 ?_
        rw [fr_dn_p h2, fr_shl (by omega), fr_or32]
        refine nm_e (nm_r (nI_1 s) (hk _ ?_))
        rw [fr_im_s, if_pos ⟨h1, h2⟩]
    · refine br_f h1 (nm_r (nI_1 s) (hk _ ?_))
      rw [fr_im_s, if_neg (fun z => h1 z.1)]
def fr_I (n : Nat) (e : Nat → Nat) (im : Nat → Int32) (k : Nat) : Prop := ∀ c a, c < k → a < 2 → im (2 * c + a) = nI (fr_im e c a n)
theorem fr_xfi {post : SX → Prop} (hn2 : 2 ≤ n) (hn : n ≤ 5) (he : ∀ i, e i < 3 * (n + 1)) (h0 : im 0 = 0) (h1 : im 1 = 0) (h : ∀ im', fr_I n e im' (2 ^ n) → post ((nI n), (nI (2 ^ n - 1)), fc, fm, fo, fr, (fun i => nI (e i)), sl, sw, im', ic, cd, mx, ch, cv, ak)) : wpX_findImpliedSets post ((nI n), (nI (2 ^ n - 1)), fc, fm, fo, fr, (fun i => nI (e i)), sl, sw, im, ic, cd, mx, ch, cv, ak) := by
  have hp := fr_2n hn
  have hp4 := fr_2n4 hn2
  unfold wpX_findImpliedSets
  dsimp only
  have hI0 : fr_I n e im 1 := by
    intro c a hc ha
    obtain rfl : c = 0 := by omega
    rw [fr_im_0]
    rcases (show a = 0 ∨ a = 1 by omega) with rfl | rfl
    · exact h0
    · exact h1
  refine pk_loop (fun N i (z : Nat → Int32) => wX_findImpliedSets_2 post (nI n) (nI (2 ^ n - 1)) fc fm fo fr N (nI i) (fun i => nI (e i)) sl sw z ic cd mx ch cv ak) (fun i z => fr_I n e z i) (2 ^ n) 1 im (by omega) hI0 ?_ ?_
  · rintro N z hz
    exact br_t (nI_lt (by omega) (by omega)) (h _ hz)
  · rintro N i z hi hz hk
    refine br_f (nI_nlt (by omega) (by omega)) ?_
    refine pk_loop (fun N2 a (y : Nat → Int32) => wX_findImpliedSets_12 post (wX_findImpliedSets_2 post (nI n) (nI (2 ^ n - 1)) fc fm fo fr N) (nI i) (nI n) (nI (2 ^ n - 1)) fc fm fo fr N2 (nI a) (fun i => nI (e i)) sl sw y ic cd mx ch cv ak) (fun a y => fr_I n e y i ∧ ∀ b, b < a → y (2 * i + b) = nI (fr_im e i b n)) 2 0 z (by omega) ⟨hz, fun b hb => absurd hb (Nat.not_lt_zero b)⟩ ?_ ?_
    · rintro N2 y ⟨hy, hy2⟩
      refine br_t (nI_le (Nat.le_refl 2) (by omega)) (nm_r (nI_1 i) (hk y ?_))
      intro c b hc hb
      by_cases hci : c = i
      · subst hci; exact hy2 b hb
      · exact hy c b (by omega) hb
    · rintro N2 a y ha ⟨hy, hy2⟩ hk2
      refine br_f (nI_ge (b := 2) ha (by omega)) ?_
      refine fr_xns hn he hi ha ?_
      rw [fr_ix2 i a]
      refine ⟨vp_in_nI (by omega) (by omega), ?_⟩
      rw [nI_clamp (by omega)]
      refine nm_e (nm_r (nI_1 a) (hk2 _ ⟨?_, ?_⟩))
      · intro c b hc hb
        rw [pk_un (by omega)]
        exact hy c b hc hb
      · intro b hb
        by_cases hba : b = a
        · subst hba; exact pk_us
        · rw [pk_un (by omega)]; exact hy2 b (by omega)
/-! compatible sets -/
theorem fr_xnt {post : Int32 → Prop} {c : Nat} (hn : n ≤ 5) (hc : c < 2 ^ n) (hT : fr_T n e sl sw 10 0) (h : post (if fr_cs e n c = true then 1 else 0)) : wpX_noTwoSplit post ((nI n), (nI (2 ^ n - 1)), fc, fm, fo, fr, (fun i => nI (e i)), sl, sw, im, ic, cd, mx, ch, cv, ak) (nI c) := by
  have hc2 : c < 32 := Nat.lt_of_lt_of_le hc (fr_2n hn)
  unfold wpX_noTwoSplit
  dsimp only
  refine pk_loop (fun N s (_ : Unit) => wX_noTwoSplit_2 post (nI c) (nI n) (nI (2 ^ n - 1)) fc fm fo fr (fun i => nI (e i)) sl sw im ic cd mx ch cv ak N (nI s)) (fun s _ => ∀ p q, p < s → q < p → c.testBit p = true → c.testBit q = true → fr_sl e 10 p q = 0) n 0 () (by omega) (fun p q hp => absurd hp (Nat.not_lt_zero p)) ?_ ?_
  · rintro N _ hI
    have : fr_cs e n c = true := fr_cs_iff.mpr fun s t hs ht a b => by
      rcases Nat.lt_trichotomy s t with hl | hl | hl
      · rw [fr_sl_sy]; exact hI t s ht hl b a
      · rw [hl]; exact fr_sl_re e 10 t
      · exact hI s t hs hl a b
    rw [if_pos this] at h
    exact br_t (nI_le (Nat.le_refl n) (by omega)) h
  · rintro N s _ hs hI hk
    refine br_f (nI_ge hs (by omega)) ?_
    refine pk_loop (fun N2 t (_ : Unit) => wX_noTwoSplit_12 post (wX_noTwoSplit_2 post (nI c) (nI n) (nI (2 ^ n - 1)) fc fm fo fr (fun i => nI (e i)) sl sw im ic cd mx ch cv ak N) (nI c) (nI s) (nI n) (nI (2 ^ n - 1)) fc fm fo fr (fun i => nI (e i)) sl sw im ic cd mx ch cv ak N2 (nI t)) (fun t _ => ∀ q, q < t → c.testBit s = true → c.testBit q = true → fr_sl e 10 s q = 0) s 0 () (by omega) (fun q hq => absurd hq (Nat.not_lt_zero q)) ?_ ?_
    · rintro N2 _ hJ
      refine br_t (nI_le (Nat.le_refl s) (by omega)) (nm_r (nI_1 s) (hk () ?_))
      intro p q hp hq a b
      by_cases hps : p = s
      · subst hps; exact hJ q hq a b
      · exact hI p q (by omega) hq a b
    · rintro N2 t _ ht hJ hk2
      refine br_f (nI_ge ht (by omega)) ?_
      rw [fr_bit (by omega) (by omega), fr_bit (by omega) (by omega)]
      by_cases b1 : c.testBit s = true
      · refine br_t b1 ?_
        by_cases b2 : c.testBit t = true
        · refine br_t b2 ?_
          refine br_f (by decide) ?_
          rw [fr_ix5]
          refine ⟨vp_in_nI (by omega) (by omega), ?_⟩
          have hb := fr_sl_le e 10 s t
          rw [nI_clamp (by omega), (hT s t hs (by omega)).1, if_neg (by omega)]
          refine pk_eq (fr_sl e 10 s t) 0 (fun z => ?_) (fun z => ?_)
          · refine nm_r (nI_1 t) (hk2 () ?_)
            intro q hq a b
            by_cases hqt : q = t
            · subst hqt; exact z
            · exact hJ q (by omega) a b
          · rw [if_neg (by rw [fr_cs_f hs (by omega) b1 b2 z]; decide)] at h
            exact h
        · refine br_f b2 ?_
          refine br_t rfl (nm_r (nI_1 t) (hk2 () ?_))
          intro q hq a b
          by_cases hqt : q = t
          · subst hqt; exact absurd b b2
          · exact hJ q (by omega) a b
      · refine br_f b1 ?_
        refine br_t rfl (nm_r (nI_1 t) (hk2 () ?_))
        intro q hq a b
        exact absurd a b1
def fr_b (b : Bool) : Int32 := if b = true then 1 else 0
theorem fr_b_0 {b : Bool} : fr_b b = 0 ↔ ¬ b = true := by
  cases b <;> decide
theorem fr_nb (b : Bool) : vp_nar .boolean (if b = true then 1 else 0) = fr_b b := by
  cases b
  · exact fr_nb0
  · exact fr_nb1
def fr_C (n : Nat) (e : Nat → Nat) (ic cd : Nat → Int32) (fc : Int32) (k : Nat) : Prop := (∀ c, c < k + 1 → ic c = fr_b (fr_cs e n c)) ∧ (∀ j, j ≤ fr_ct e n k → cd j = nI (fr_cd e n j)) ∧ fc = nI (fr_ct e n k)
theorem fr_xfc {post : SX → Prop} (hn2 : 2 ≤ n) (hn : n ≤ 5) (hT : fr_T n e sl sw 10 0) (h0 : cd 0 = 0) (h : ∀ ic' cd' fc', fr_C n e ic' cd' fc' (2 ^ n - 1) → post ((nI n), (nI (2 ^ n - 1)), fc', fm, fo, fr, (fun i => nI (e i)), sl, sw, im, ic', cd', mx, ch, cv, ak)) : wpX_findCompatibleSets post ((nI n), (nI (2 ^ n - 1)), fc, fm, fo, fr, (fun i => nI (e i)), sl, sw, im, ic, cd, mx, ch, cv, ak) := by
  have hp := fr_2n hn
  have hp4 := fr_2n4 hn2
  unfold wpX_findCompatibleSets
  dsimp only
  rw [fr_nb1]
  refine nm_e ?_
  refine pk_loop (fun N k (z : Int32 × (Nat → Int32) × (Nat → Int32)) => wX_findCompatibleSets_14 post (nI n) (nI (2 ^ n - 1)) fm fo fr N (nI (k + 1)) z.1 (fun i => nI (e i)) sl sw im z.2.1 z.2.2 mx ch cv ak) (fun k z => fr_C n e z.2.1 z.2.2 z.1 k) (2 ^ n - 1) 0 (0, upd ic 0 1, cd) (by omega) ?_ ?_ ?_
  · refine ⟨fun c hc => ?_, fun j hj => ?_, rfl⟩
    · obtain rfl : c = 0 := by omega
      show upd ic 0 1 0 = _
      rw [pk_us, fr_cs_0]
      rfl
    · have hj' : j ≤ 0 := hj
      obtain rfl : j = 0 := by omega
      rw [fr_cd_0]
      exact h0
  · rintro N ⟨fc, ic, cd⟩ hI
    exact br_t (nI_lt (by omega) (by omega)) (h _ _ _ hI)
  · rintro N k ⟨fc, ic, cd⟩ hk1 ⟨hI1, hI2, hI3⟩ hk
    dsimp only at hI1 hI2 hI3
    refine br_f (nI_nlt (by omega) (by omega)) ?_
    refine fr_xnt hn (by omega) hT ?_
    have hin : vp_in (nI (k + 1)) 32 := vp_in_nI (by omega) (by omega)
    rw [fr_nb]
    refine ⟨hin, nm_e ⟨hin, ?_⟩⟩
    rw [nI_clamp (by omega), pk_us, fr_b_0]
    have hcl := fr_ct_le e n k
    have A : ∀ c, c < k + 1 + 1 → upd ic (k + 1) (fr_b (fr_cs e n (k + 1))) c = fr_b (fr_cs e n c) := by
      intro c hc
      by_cases hck : c = k + 1
      · subst hck; exact pk_us
      · rw [pk_un hck]; exact hI1 c (by omega)
    by_cases hcs : fr_cs e n (k + 1) = true
    · refine br_f (fun z => z hcs) ?_
      have hct : fr_ct e n (k + 1) = fr_ct e n k + 1 := by rw [fr_ct_s, if_pos hcs]
      rw [hI3, nI_1]
      refine nm_e ⟨vp_in_nI (by omega) (by omega), ?_⟩
      rw [nI_clamp (by omega)]
      refine nm_e (nm_r (nI_1 (k + 1)) (hk (nI (fr_ct e n k + 1), upd ic (k + 1) (fr_b (fr_cs e n (k + 1))), upd cd (fr_ct e n k + 1) (nI (k + 1))) ⟨A, fun j hj => ?_, ?_⟩))
      · dsimp only
        by_cases hjk : j = fr_ct e n k + 1
        · subst hjk
          rw [pk_us, ← hct, (fr_cd_ct (by omega) (by omega) hcs).2.2]
        · rw [pk_un hjk]
          exact hI2 j (by omega)
      · dsimp only
        rw [hct]
    · refine br_t hcs (nm_r (nI_1 (k + 1)) (hk (_, _, _) ⟨A, fun j hj => ?_, ?_⟩))
      · have hct : fr_ct e n (k + 1) = fr_ct e n k := by rw [fr_ct_s, if_neg hcs]; rfl
        exact hI2 j (by omega)
      · have hct : fr_ct e n (k + 1) = fr_ct e n k := by rw [fr_ct_s, if_neg hcs]; rfl
        dsimp only
        rw [hct]
        exact hI3
/-! maximal sets -/
theorem fr_or_eq {c s : Nat} : c ||| 2 ^ s = c ↔ c.testBit s = true := by
  constructor
  · intro h
    rw [← h, Nat.testBit_or, Nat.testBit_two_pow, decide_eq_true rfl, Bool.or_true]
  · intro h
    apply Nat.eq_of_testBit_eq
    intro r
    rw [Nat.testBit_or, Nat.testBit_two_pow]
    by_cases hr : s = r
    · subst hr; rw [h]; rfl
    · rw [decide_eq_false hr, Bool.or_false]
theorem fr_xcg {post : Int32 → Prop} {c : Nat} (hn : n ≤ 5) (hc : c < 2 ^ n) (hC : ∀ c, c < 2 ^ n → ic c = fr_b (fr_cs e n c)) (hcs : fr_cs e n c = true) (h : post (if fr_mx e n c = true then 0 else 1)) : wpX_canGrow post ((nI n), (nI (2 ^ n - 1)), fc, fm, fo, fr, (fun i => nI (e i)), sl, sw, im, ic, cd, mx, ch, cv, ak) (nI c) := by
  have hp := fr_2n hn
  unfold wpX_canGrow
  dsimp only
  refine pk_loop (fun N s (_ : Unit) => wX_canGrow_2 post (nI c) (nI n) (nI (2 ^ n - 1)) fc fm fo fr (fun i => nI (e i)) sl sw im ic cd mx ch cv ak N (nI s)) (fun s _ => ∀ r, r < s → c.testBit r = false → fr_cs e n (c ||| 2 ^ r) = false) n 0 () (by omega) (fun r hr => absurd hr (Nat.not_lt_zero r)) ?_ ?_
  · rintro N _ hI
    rw [if_pos (fr_mx_iff.mpr ⟨hcs, hI⟩)] at h
    exact br_t (nI_le (Nat.le_refl n) (by omega)) h
  · rintro N s _ hs hI hk
    refine br_f (nI_ge hs (by omega)) ?_
    have hlt : c ||| 2 ^ s < 2 ^ n := Nat.or_lt_two_pow hc (Nat.pow_lt_pow_right (by decide) hs)
    rw [fr_shl (by omega), fr_or32]
    refine nm_e ?_
    rw [nI_eq (by omega) (by omega), fr_or_eq]
    by_cases hb : c.testBit s = true
    · refine br_t hb (nm_r (nI_1 s) (hk () ?_))
      intro r hr hrb
      by_cases hrs : r = s
      · subst hrs; rw [hb] at hrb; cases hrb
      · exact hI r (by omega) hrb
    · refine br_f hb ⟨vp_in_nI (by omega) (by omega), ?_⟩
      rw [nI_clamp (by omega), hC _ hlt, fr_b_0]
      by_cases hg : fr_cs e n (c ||| 2 ^ s) = true
      · refine br_f (fun z => z hg) ?_
        rw [if_neg] at h
        · exact h
        · intro z
          have := (fr_mx_iff.mp z).2 s hs (fr_bf hb)
          rw [hg] at this
          cases this
      · refine br_t hg (nm_r (nI_1 s) (hk () ?_))
        intro r hr hrb
        by_cases hrs : r = s
        · subst hrs; exact fr_bf hg
        · exact hI r (by omega) hrb
def fr_M (n : Nat) (e : Nat → Nat) (mx : Nat → Int32) (fm : Int32) (k : Nat) : Prop := (∀ c, c < k → fr_mx e n (c + 1) = true → mx (fr_mc e n c) = nI (c + 1)) ∧ fm = nI (fr_mc e n k)
theorem fr_xfm {post : SX → Prop} (hn2 : 2 ≤ n) (hn : n ≤ 5) (hC : ∀ c, c < 2 ^ n → ic c = fr_b (fr_cs e n c)) (h : ∀ mx' fm', fr_M n e mx' fm' (2 ^ n - 1) → post ((nI n), (nI (2 ^ n - 1)), fc, fm', fo, fr, (fun i => nI (e i)), sl, sw, im, ic, cd, mx', ch, cv, ak)) : wpX_findMaximalSets post ((nI n), (nI (2 ^ n - 1)), fc, fm, fo, fr, (fun i => nI (e i)), sl, sw, im, ic, cd, mx, ch, cv, ak) := by
  have hp := fr_2n hn
  have hp4 := fr_2n4 hn2
  unfold wpX_findMaximalSets
  dsimp only
  refine pk_loop (fun N k (z : Int32 × (Nat → Int32)) => wX_findMaximalSets_7 post (nI n) (nI (2 ^ n - 1)) fc fo fr N (nI (k + 1)) z.1 (fun i => nI (e i)) sl sw im ic cd z.2 ch cv ak) (fun k z => fr_M n e z.2 z.1 k) (2 ^ n - 1) 0 (0, mx) (by omega) ⟨fun c hc => absurd hc (Nat.not_lt_zero c), rfl⟩ ?_ ?_
  · rintro N ⟨fm, mx⟩ hI
    exact br_t (nI_lt (by omega) (by omega)) (h _ _ hI)
  · rintro N k ⟨fm, mx⟩ hk1 ⟨hI1, hI2⟩ hk
    dsimp only at hI1 hI2
    have hin : vp_in (nI (k + 1)) 32 := vp_in_nI (by omega) (by omega)
    have hml := fr_mc_le e n k
    refine br_f (nI_nlt (by omega) (by omega)) ⟨hin, ?_⟩
    rw [nI_clamp (by omega), hC _ (by omega), fr_b_0]
    have K : ∀ (hm : ¬ fr_mx e n (k + 1) = true), fr_M n e mx fm (k + 1) := by
      intro hm
      have e1 : fr_mc e n (k + 1) = fr_mc e n k := by rw [fr_mc_s, if_neg hm]; rfl
      refine ⟨fun c hc hcm => ?_, by rw [e1]; exact hI2⟩
      by_cases hck : c = k
      · subst hck; exact absurd hcm hm
      · exact hI1 c (by omega) hcm
    by_cases hcs : fr_cs e n (k + 1) = true
    · refine br_f (fun z => z hcs) ?_
      refine fr_xcg hn (by omega) hC hcs ?_
      by_cases hm : fr_mx e n (k + 1) = true
      · rw [if_pos hm]
        have e1 : fr_mc e n (k + 1) = fr_mc e n k + 1 := by rw [fr_mc_s, if_pos hm]
        rw [hI2]
        refine br_t rfl ⟨vp_in_nI (by omega) (by omega), ?_⟩
        rw [nI_clamp (by omega)]
        refine nm_e (nm_r (nI_1 _) (nm_r (nI_1 (k + 1)) (hk (nI (fr_mc e n k + 1), upd mx (fr_mc e n k) (nI (k + 1))) ⟨fun c hc hcm => ?_, ?_⟩)))
        · dsimp only
          by_cases hck : c = k
          · subst hck; exact pk_us
          · rw [pk_un]
            · exact hI1 c (by omega) hcm
            · have e2 : fr_mc e n (c + 1) = fr_mc e n c + 1 := by rw [fr_mc_s, if_pos hcm]
              have := fr_mc_mono e n (c + 1) (k - (c + 1))
              rw [show c + 1 + (k - (c + 1)) = k by omega] at this
              omega
        · dsimp only
          rw [e1]
      · rw [if_neg hm]
        refine br_f (by decide) (nm_r (nI_1 (k + 1)) (hk (_, _) (K hm)))
    · exact br_t hcs (nm_r (nI_1 (k + 1)) (hk (_, _) (K (fun z => hcs (fr_mx_iff.mp z).1))))
end FRX2
end
section
section FRV
/-! lists of sets: K places; zeros in it stand for no set -/
def fr_lm (K : Nat) (L : Nat → Nat) (d : Nat) : Prop := d ≠ 0 ∧ ∃ p, p < K ∧ L p = d
def fr_un (L : Nat → Nat) : Nat → Nat
  | 0 => 0
  | i + 1 => fr_un L i ||| L i
theorem fr_un_s (L : Nat → Nat) (i : Nat) : fr_un L (i + 1) = fr_un L i ||| L i := rfl
theorem fr_un_tb {L : Nat → Nat} {s : Nat} : ∀ i, (fr_un L i).testBit s = true ↔ ∃ p, p < i ∧ (L p).testBit s = true := by
  intro i
  induction i with
  | zero =>
    constructor
    · intro h
      have : (0 : Nat).testBit s = true := h
      rw [Nat.zero_testBit] at this
      cases this
    · rintro ⟨p, hp, _⟩
      exact absurd hp (Nat.not_lt_zero p)
  | succ i ih =>
    rw [fr_un_s, Nat.testBit_or, Bool.or_eq_true, ih]
    constructor
    · rintro (⟨p, hp, h⟩ | h)
      · exact ⟨p, by omega, h⟩
      · exact ⟨i, by omega, h⟩
    · rintro ⟨p, hp, h⟩
      by_cases hpi : p = i
      · subst hpi; exact Or.inr h
      · exact Or.inl ⟨p, by omega, h⟩
theorem fr_un_lt {L : Nat → Nat} {n K : Nat} (hL : ∀ p, p < K → L p < 2 ^ n) : ∀ i, i ≤ K → fr_un L i < 2 ^ n := by
  intro i
  induction i with
  | zero => intro _; exact Nat.two_pow_pos n
  | succ i ih => intro hi; exact Nat.or_lt_two_pow (ih (by omega)) (hL i (by omega))
theorem fr_cov_lm {e : Nat → Nat} {n K : Nat} {L : Nat → Nat} (hK : 0 < K) (hL : ∀ p, p < K → L p < 2 ^ n) : fr_cov e n (fr_lm K L) ↔ (∀ p, p < K → fr_cs e n (L p) = true) ∧ fr_un L K = 2 ^ n - 1 ∧ ∀ i, i < K → ∀ a, a < 2 → ∃ p, p < K ∧ L p &&& fr_im e (L i) a n = fr_im e (L i) a n := by
  rw [fr_all (fr_un_lt hL K (Nat.le_refl K))]
  constructor
  · rintro ⟨h1, h2, h3⟩
    refine ⟨fun p hp => ?_, fun s hs => ?_, fun i hi a ha => ?_⟩
    · by_cases h0 : L p = 0
      · rw [h0]; exact fr_cs_0 e n
      · exact h1 (L p) ⟨h0, p, hp, rfl⟩
    · obtain ⟨d, ⟨_, p, hp, rfl⟩, hd⟩ := h2 s hs
      exact (fr_un_tb K).mpr ⟨p, hp, hd⟩
    · by_cases h0 : L i = 0
      · rw [h0, fr_im_0]
        exact ⟨0, hK, Nat.and_zero _⟩
      · rcases h3 (L i) ⟨h0, i, hi, rfl⟩ a ha with hz | ⟨d, ⟨_, p, hp, rfl⟩, hd⟩
        · rw [hz]
          exact ⟨0, hK, Nat.and_zero _⟩
        · exact ⟨p, hp, hd⟩
  · rintro ⟨h1, h2, h3⟩
    refine ⟨?_, fun s hs => ?_, ?_⟩
    · rintro d ⟨_, p, hp, rfl⟩
      exact h1 p hp
    · obtain ⟨p, hp, hb⟩ := (fr_un_tb K).mp (h2 s hs)
      refine ⟨L p, ⟨?_, p, hp, rfl⟩, hb⟩
      intro h0
      rw [h0, Nat.zero_testBit] at hb
      cases hb
    · rintro d ⟨_, i, hi, rfl⟩ a ha
      obtain ⟨p, hp, hb⟩ := h3 i hi a ha
      by_cases h0 : L p = 0
      · rw [h0, Nat.zero_and] at hb
        exact Or.inl hb.symm
      · exact Or.inr ⟨L p, ⟨h0, p, hp, rfl⟩, hb⟩
/-! how many places of a list hold a set -/
def fr_nz (c : Nat → Nat) : Nat → Nat
  | 0 => 0
  | i + 1 => fr_nz c i + (if c i = 0 then 0 else 1)
theorem fr_nz_s (c : Nat → Nat) (i : Nat) : fr_nz c (i + 1) = fr_nz c i + (if c i = 0 then 0 else 1) := rfl
theorem fr_nz_le (c : Nat → Nat) : ∀ i, fr_nz c i ≤ i := by
  intro i
  induction i with
  | zero => exact Nat.le_refl 0
  | succ i ih => rw [fr_nz_s]; split <;> omega
theorem fr_nz_v {m : Nat} {c : Nat → Nat} (hv : fr_val m c) : ∀ p, p < 5 → (c p = 0 ↔ p + fr_nz c 5 < 5) := by
  obtain ⟨_, _, _, _, _, r0, r1, r2, r3⟩ := fr_val_b hv
  have e5 : fr_nz c 5 = 0 + (if c 0 = 0 then 0 else 1) + (if c 1 = 0 then 0 else 1) + (if c 2 = 0 then 0 else 1) + (if c 3 = 0 then 0 else 1) + (if c 4 = 0 then 0 else 1) := rfl
  have Z : ∀ q, (c q = 0 ∧ (if c q = 0 then (0 : Nat) else 1) = 0) ∨ (c q ≠ 0 ∧ (if c q = 0 then (0 : Nat) else 1) = 1) := by
    intro q
    by_cases h : c q = 0
    · exact Or.inl ⟨h, if_pos h⟩
    · exact Or.inr ⟨h, if_neg h⟩
  have z0 := Z 0
  have z1 := Z 1
  have z2 := Z 2
  have z3 := Z 3
  have z4 := Z 4
  intro p hp
  rw [e5]
  clear Z e5
  generalize (if c 0 = 0 then (0 : Nat) else 1) = x0 at z0 ⊢
  generalize (if c 1 = 0 then (0 : Nat) else 1) = x1 at z1 ⊢
  generalize (if c 2 = 0 then (0 : Nat) else 1) = x2 at z2 ⊢
  generalize (if c 3 = 0 then (0 : Nat) else 1) = x3 at z3 ⊢
  generalize (if c 4 = 0 then (0 : Nat) else 1) = x4 at z4 ⊢
  rcases (show p = 0 ∨ p = 1 ∨ p = 2 ∨ p = 3 ∨ p = 4 by omega) with rfl | rfl | rfl | rfl | rfl <;> omega
theorem fr_cmp {m k c : Nat} (hm : m < 1000) (hk : k < 1000) (hc : c < 1000) : nI m - nI k ≤ nI c ↔ m ≤ c + k := by
  rw [Int32.le_iff_toInt_le, pk_sub_toInt (by omega) (by omega), nI_toInt (by omega)]
  omega
theorem fr_lt_next {e : Nat → Nat} {n p : Nat} {c : Nat → Nat} (hlt : ∀ t, fr_ok e n t → fr_lt c t) (hp : p < 5) (hr : c p + (4 - p) < fr_m e n) (hq : ∀ q, p < q → q < 5 → fr_m e n ≤ c q + (4 - q)) (hv : fr_val (fr_m e n) c) : fr_val (fr_m e n) (fr_nt c p) ∧ (fr_cov e n (fr_mem e n (fr_nt c p)) → fr_best e n (fr_nt c p)) ∧ (¬ fr_cov e n (fr_mem e n (fr_nt c p)) → ∀ t, fr_ok e n t → fr_lt (fr_nt c p) t) := by
  have hle : ∀ t, fr_ok e n t → fr_le (fr_nt c p) t := fun t ht => fr_nt_le ht.1 (hlt t ht) hp hr hq
  have hv' := fr_val_nt hv hp hr
  refine ⟨hv', fun h => ⟨⟨hv', h⟩, hle⟩, fun h t ht => fr_le_lt (hle t ht) ?_⟩
  rintro ⟨q0, q1, q2, q3, q4⟩
  apply h
  have : ∀ d, fr_mem e n (fr_nt c p) d ↔ fr_mem e n t d := by
    intro d
    have K : ∀ q, q < 5 → fr_nt c p q = t q := by
      intro q hq5
      rcases (show q = 0 ∨ q = 1 ∨ q = 2 ∨ q = 3 ∨ q = 4 by omega) with rfl | rfl | rfl | rfl | rfl <;> assumption
    constructor
    · rintro ⟨hd, q, hq5, hx⟩
      exact ⟨hd, q, hq5, by rw [← K q hq5]; exact hx⟩
    · rintro ⟨hd, q, hq5, hx⟩
      exact ⟨hd, q, hq5, by rw [K q hq5]; exact hx⟩
  rw [fr_cov_eq this]
  exact ht.2
end FRV
end
section
section FRX3
variable {n : Nat} {e : Nat → Nat} {fc fm fo fr : Int32} {sl sw im ic cd mx ch cv ak : Nat → Int32}
theorem fr_xpo_cover {post : Int32 → Prop} {r : Nat} {L : Nat → Nat} (hr : r < 1000) (hL : ∀ p, p < 5 → cv p = nI (L p)) (h1 : (∃ p, p < 5 ∧ L p &&& r = r) → post 1) (h0 : (¬ ∃ p, p < 5 ∧ L p &&& r = r) → post 0) : wpX_isPartOfOne__cover post ((nI n), (nI (2 ^ n - 1)), fc, fm, fo, fr, (fun i => nI (e i)), sl, sw, im, ic, cd, mx, ch, cv, ak) (nI r) := by
  unfold wpX_isPartOfOne__cover
  dsimp only
  refine pk_loop (fun N i (_ : Unit) => wX_isPartOfOne__cover_2 post (nI r) (nI n) (nI (2 ^ n - 1)) fc fm fo fr (fun i => nI (e i)) sl sw im ic cd mx ch cv ak N (nI i)) (fun i _ => ∀ p, p < i → ¬ L p &&& r = r) 5 0 () (by omega) (fun p hp => absurd hp (Nat.not_lt_zero p)) ?_ ?_
  · rintro N _ hI
    refine br_t (nI_le (Nat.le_refl 5) (by omega)) (h0 ?_)
    rintro ⟨p, hp, h⟩
    exact hI p hp h
  · rintro N i _ hi hI hk
    refine br_f (nI_ge (b := 5) hi (by omega)) ⟨vp_in_nI hi (by omega), ?_⟩
    rw [nI_clamp (by omega), hL i hi, fr_part (by omega)]
    by_cases h : L i &&& r = r
    · exact br_t h (h1 ⟨i, hi, h⟩)
    · refine br_f h (nm_r (nI_1 i) (hk () ?_))
      intro p hp
      by_cases hpi : p = i
      · subst hpi; exact h
      · exact hI p (by omega)
theorem fr_xmc_cover {post : Int32 → Prop} {L : Nat → Nat} (hn : n ≤ 5) (he : ∀ i, e i < 3 * (n + 1)) (hI : fr_I n e im (2 ^ n)) (hC : ∀ c, c < 2 ^ n → ic c = fr_b (fr_cs e n c)) (hL : ∀ p, p < 5 → cv p = nI (L p)) (hLn : ∀ p, p < 5 → L p < 2 ^ n) (h1 : fr_cov e n (fr_lm 5 L) → post 1) (h0 : ¬ fr_cov e n (fr_lm 5 L) → post 0) : wpX_makesCover__cover post ((nI n), (nI (2 ^ n - 1)), fc, fm, fo, fr, (fun i => nI (e i)), sl, sw, im, ic, cd, mx, ch, cv, ak) := by
  have hp := fr_2n hn
  rw [fr_cov_lm (by omega) hLn] at h1 h0
  unfold wpX_makesCover__cover
  dsimp only
  refine pk_loop (fun N i (z : Int32) => wX_makesCover__cover_4 post (nI n) (nI (2 ^ n - 1)) fc fm fo fr (fun i => nI (e i)) sl sw im ic cd mx ch cv ak N z (nI i)) (fun i z => z = nI (fr_un L i) ∧ ∀ p, p < i → fr_cs e n (L p) = true) 5 0 0 (by omega) ⟨rfl, fun p hp => absurd hp (Nat.not_lt_zero p)⟩ ?_ ?_
  · rintro N z ⟨rfl, hcs⟩
    refine br_t (nI_le (Nat.le_refl 5) (by omega)) ?_
    have hu := fr_un_lt hLn 5 (Nat.le_refl 5)
    refine pk_eq (fr_un L 5) (2 ^ n - 1) (fun hall => ?_) (fun hall => h0 (fun z => hall z.2.1))
    refine pk_loop (fun N i (_ : Unit) => wX_makesCover__cover_46 post (nI n) (nI (2 ^ n - 1)) fc fm fo fr (fun i => nI (e i)) sl sw im ic cd mx ch cv ak N (nI i)) (fun i _ => ∀ q, q < i → ∀ a, a < 2 → ∃ p, p < 5 ∧ L p &&& fr_im e (L q) a n = fr_im e (L q) a n) 5 0 () (by omega) (fun p hp => absurd hp (Nat.not_lt_zero p)) ?_ ?_
    · rintro N2 _ hJ
      exact br_t (nI_le (Nat.le_refl 5) (by omega)) (h1 ⟨hcs, hall, hJ⟩)
    · rintro N2 i _ hi hJ hk
      refine br_f (nI_ge (b := 5) hi (by omega)) ?_
      refine pk_loop (fun N3 a (_ : Unit) => wX_makesCover__cover_54 post (wX_makesCover__cover_46 post (nI n) (nI (2 ^ n - 1)) fc fm fo fr (fun i => nI (e i)) sl sw im ic cd mx ch cv ak N2) (nI i) (nI n) (nI (2 ^ n - 1)) fc fm fo fr (fun i => nI (e i)) sl sw im ic cd mx ch cv ak N3 (nI a)) (fun a _ => ∀ b, b < a → ∃ p, p < 5 ∧ L p &&& fr_im e (L i) b n = fr_im e (L i) b n) 2 0 () (by omega) (fun p hp => absurd hp (Nat.not_lt_zero p)) ?_ ?_
      · rintro N3 _ hK
        refine br_t (nI_le (Nat.le_refl 2) (by omega)) (nm_r (nI_1 i) (hk () ?_))
        intro q hq a ha
        by_cases hqi : q = i
        · subst hqi; exact hK a ha
        · exact hJ q (by omega) a ha
      · rintro N3 a _ ha hK hk3
        refine br_f (nI_ge (b := 2) ha (by omega)) ⟨vp_in_nI hi (by omega), ?_⟩
        have hb := hLn i hi
        have him := fr_im_lt he (L i) a n
        rw [nI_clamp (by omega), hL i hi, fr_ix2]
        refine ⟨vp_in_nI (by omega) (by omega), ?_⟩
        rw [nI_clamp (by omega), hI (L i) a hb ha]
        refine nm_e ?_
        refine fr_xpo_cover (by omega) hL (fun hx => ?_) (fun hx => ?_)
        · refine br_f (by decide) (nm_r (nI_1 a) (hk3 () ?_))
          intro b hb
          by_cases hba : b = a
          · subst hba; exact hx
          · exact hK b (by omega)
        · exact br_t rfl (h0 (fun z => hx (z.2.2 i hi a ha)))
  · rintro N i z hi ⟨rfl, hcs⟩ hk
    have hb := hLn i hi
    refine br_f (nI_ge (b := 5) hi (by omega)) ⟨vp_in_nI hi (by omega), ?_⟩
    rw [nI_clamp (by omega), hL i hi]
    refine ⟨vp_in_nI (by omega) (by omega), ?_⟩
    rw [nI_clamp (by omega), hC _ hb, fr_b_0]
    by_cases hx : fr_cs e n (L i) = true
    · refine br_f (fun z => z hx) ⟨vp_in_nI hi (by omega), ?_⟩
      rw [fr_or32]
      refine nm_e (nm_r (nI_1 i) (hk _ ⟨rfl, ?_⟩))
      intro p hp
      by_cases hpi : p = i
      · subst hpi; exact hx
      · exact hcs p (by omega)
    · exact br_t hx (h0 (fun z => hx (z.1 i hi)))
theorem fr_xpo_asked {post : Int32 → Prop} {r : Nat} {L : Nat → Nat} (hr : r < 1000) (hL : ∀ p, p < 5 → ak p = nI (L p)) (h1 : (∃ p, p < 5 ∧ L p &&& r = r) → post 1) (h0 : (¬ ∃ p, p < 5 ∧ L p &&& r = r) → post 0) : wpX_isPartOfOne__asked post ((nI n), (nI (2 ^ n - 1)), fc, fm, fo, fr, (fun i => nI (e i)), sl, sw, im, ic, cd, mx, ch, cv, ak) (nI r) := by
  unfold wpX_isPartOfOne__asked
  dsimp only
  refine pk_loop (fun N i (_ : Unit) => wX_isPartOfOne__asked_2 post (nI r) (nI n) (nI (2 ^ n - 1)) fc fm fo fr (fun i => nI (e i)) sl sw im ic cd mx ch cv ak N (nI i)) (fun i _ => ∀ p, p < i → ¬ L p &&& r = r) 5 0 () (by omega) (fun p hp => absurd hp (Nat.not_lt_zero p)) ?_ ?_
  · rintro N _ hI
    refine br_t (nI_le (Nat.le_refl 5) (by omega)) (h0 ?_)
    rintro ⟨p, hp, h⟩
    exact hI p hp h
  · rintro N i _ hi hI hk
    refine br_f (nI_ge (b := 5) hi (by omega)) ⟨vp_in_nI hi (by omega), ?_⟩
    rw [nI_clamp (by omega), hL i hi, fr_part (by omega)]
    by_cases h : L i &&& r = r
    · exact br_t h (h1 ⟨i, hi, h⟩)
    · refine br_f h (nm_r (nI_1 i) (hk () ?_))
      intro p hp
      by_cases hpi : p = i
      · subst hpi; exact h
      · exact hI p (by omega)
theorem fr_xmc_asked {post : Int32 → Prop} {L : Nat → Nat} (hn : n ≤ 5) (he : ∀ i, e i < 3 * (n + 1)) (hI : fr_I n e im (2 ^ n)) (hC : ∀ c, c < 2 ^ n → ic c = fr_b (fr_cs e n c)) (hL : ∀ p, p < 5 → ak p = nI (L p)) (hLn : ∀ p, p < 5 → L p < 2 ^ n) (h1 : fr_cov e n (fr_lm 5 L) → post 1) (h0 : ¬ fr_cov e n (fr_lm 5 L) → post 0) : wpX_makesCover__asked post ((nI n), (nI (2 ^ n - 1)), fc, fm, fo, fr, (fun i => nI (e i)), sl, sw, im, ic, cd, mx, ch, cv, ak) := by
  have hp := fr_2n hn
  rw [fr_cov_lm (by omega) hLn] at h1 h0
  unfold wpX_makesCover__asked
  dsimp only
  refine pk_loop (fun N i (z : Int32) => wX_makesCover__asked_4 post (nI n) (nI (2 ^ n - 1)) fc fm fo fr (fun i => nI (e i)) sl sw im ic cd mx ch cv ak N z (nI i)) (fun i z => z = nI (fr_un L i) ∧ ∀ p, p < i → fr_cs e n (L p) = true) 5 0 0 (by omega) ⟨rfl, fun p hp => absurd hp (Nat.not_lt_zero p)⟩ ?_ ?_
  · rintro N z ⟨rfl, hcs⟩
    refine br_t (nI_le (Nat.le_refl 5) (by omega)) ?_
    have hu := fr_un_lt hLn 5 (Nat.le_refl 5)
    refine pk_eq (fr_un L 5) (2 ^ n - 1) (fun hall => ?_) (fun hall => h0 (fun z => hall z.2.1))
    refine pk_loop (fun N i (_ : Unit) => wX_makesCover__asked_46 post (nI n) (nI (2 ^ n - 1)) fc fm fo fr (fun i => nI (e i)) sl sw im ic cd mx ch cv ak N (nI i)) (fun i _ => ∀ q, q < i → ∀ a, a < 2 → ∃ p, p < 5 ∧ L p &&& fr_im e (L q) a n = fr_im e (L q) a n) 5 0 () (by omega) (fun p hp => absurd hp (Nat.not_lt_zero p)) ?_ ?_
    · rintro N2 _ hJ
      exact br_t (nI_le (Nat.le_refl 5) (by omega)) (h1 ⟨hcs, hall, hJ⟩)
    · rintro N2 i _ hi hJ hk
      refine br_f (nI_ge (b := 5) hi (by omega)) ?_
      refine pk_loop (fun N3 a (_ : Unit) => wX_makesCover__asked_54 post (wX_makesCover__asked_46 post (nI n) (nI (2 ^ n - 1)) fc fm fo fr (fun i => nI (e i)) sl sw im ic cd mx ch cv ak N2) (nI i) (nI n) (nI (2 ^ n - 1)) fc fm fo fr (fun i => nI (e i)) sl sw im ic cd mx ch cv ak N3 (nI a)) (fun a _ => ∀ b, b < a → ∃ p, p < 5 ∧ L p &&& fr_im e (L i) b n = fr_im e (L i) b n) 2 0 () (by omega) (fun p hp => absurd hp (Nat.not_lt_zero p)) ?_ ?_
      · rintro N3 _ hK
        refine br_t (nI_le (Nat.le_refl 2) (by omega)) (nm_r (nI_1 i) (hk () ?_))
        intro q hq a ha
        by_cases hqi : q = i
        · subst hqi; exact hK a ha
        · exact hJ q (by omega) a ha
      · rintro N3 a _ ha hK hk3
        refine br_f (nI_ge (b := 2) ha (by omega)) ⟨vp_in_nI hi (by omega), ?_⟩
        have hb := hLn i hi
        have him := fr_im_lt he (L i) a n
        rw [nI_clamp (by omega), hL i hi, fr_ix2]
        refine ⟨vp_in_nI (by omega) (by omega), ?_⟩
        rw [nI_clamp (by omega), hI (L i) a hb ha]
        refine nm_e ?_
        refine fr_xpo_asked (by omega) hL (fun hx => ?_) (fun hx => ?_)
        · refine br_f (by decide) (nm_r (nI_1 a) (hk3 () ?_))
          intro b hb
          by_cases hba : b = a
          · subst hba; exact hx
          · exact hK b (by omega)
        · exact br_t rfl (h0 (fun z => hx (z.2.2 i hi a ha)))
  · rintro N i z hi ⟨rfl, hcs⟩ hk
    have hb := hLn i hi
    refine br_f (nI_ge (b := 5) hi (by omega)) ⟨vp_in_nI hi (by omega), ?_⟩
    rw [nI_clamp (by omega), hL i hi]
    refine ⟨vp_in_nI (by omega) (by omega), ?_⟩
    rw [nI_clamp (by omega), hC _ hb, fr_b_0]
    by_cases hx : fr_cs e n (L i) = true
    · refine br_f (fun z => z hx) ⟨vp_in_nI hi (by omega), ?_⟩
      rw [fr_or32]
      refine nm_e (nm_r (nI_1 i) (hk _ ⟨rfl, ?_⟩))
      intro p hp
      by_cases hpi : p = i
      · subst hpi; exact hx
      · exact hcs p (by omega)
    · exact br_t hx (h0 (fun z => hx (z.1 i hi)))
theorem fr_xtn {post : SX → Prop} {c : Nat → Nat} (hn : n ≤ 5) (hcd : ∀ j, j ≤ fr_m e n → cd j = nI (fr_cd e n j)) (hch : ∀ q, q < 5 → ch q = nI (c q)) (hcv : ∀ q, q < 5 → cv q = nI (fr_cd e n (c q))) (hv : fr_val (fr_m e n) c) (hr : ∃ q, q < 5 ∧ c q + (4 - q) < fr_m e n)
    (h : ∀ p, p < 5 → c p + (4 - p) < fr_m e n → (∀ q, p < q → q < 5 → fr_m e n ≤ c q + (4 - q)) → ∀ ch' cv', (∀ q, q < 5 → ch' q = nI (fr_nt c p q)) → (∀ q, q < 5 → cv' q = nI (fr_cd e n (fr_nt c p q))) → post ((nI n), (nI (2 ^ n - 1)), (nI (fr_m e n)), fm, fo, fr, (fun i => nI (e i)), sl, sw, im, ic, cd, mx, ch', cv', ak)) :
    wpX_takeNextList post ((nI n), (nI (2 ^ n - 1)), (nI (fr_m e n)), fm, fo, fr, (fun i => nI (e i)), sl, sw, im, ic, cd, mx, ch, cv, ak) := by
  have hp := fr_2n hn
  have hm := fr_m_lt e n
  unfold wpX_takeNextList
  dsimp only
  refine ⟨6, ?_⟩
  refine pk_loopD (fun N i (_ : Unit) => wX_takeNextList_2 post (nI n) (nI (2 ^ n - 1)) (nI (fr_m e n)) fm fo fr (fun i => nI (e i)) sl sw im ic cd mx ch cv ak N (fr_dn i)) (fun i _ => i ≤ 5 ∧ ∀ q, i ≤ q → q < 5 → fr_m e n ≤ c q + (4 - q)) ?_ ?_ 5 () ⟨Nat.le_refl 5, fun q h1 h2 => absurd h1 (by omega)⟩
  · rintro N _ ⟨_, hI⟩
    obtain ⟨q, hq, hx⟩ := hr
    have := hI q (by omega) hq
    omega
  · rintro N i _ ⟨hi5, hI⟩ hk
    have hi : i < 5 := by omega
    have hdn : fr_dn (i + 1) = nI i := nI_pred i
    have hcm := fr_val_m hv hi
    rw [hdn]
    refine br_f (nI_pos (by omega)) ⟨vp_in_nI hi (by omega), ?_⟩
    have e4 : (4 : Int32) - nI i = nI (4 - i) := pk_sub (a := 4) (by omega)
    rw [nI_clamp (by omega), hch i hi, e4, fr_cmp (by omega) (by omega) (by omega)]
    by_cases hx : fr_m e n ≤ c i + (4 - i)
    · refine br_t hx (nm_r (Int32.sub_eq_add_neg _ _).symm (hk () ⟨by omega, ?_⟩))
      intro q h1 h2
      by_cases hqi : q = i
      · subst hqi; exact hx
      · exact hI q (by omega) h2
    · refine br_f hx ⟨vp_in_nI hi (by omega), ?_⟩
      rw [nI_1]
      refine nm_e ?_
      have hntm : ∀ q, q < 5 → fr_nt c i q ≤ fr_m e n := fun q hq => fr_val_m (fr_val_nt hv hi (by omega)) hq
      refine pk_loop (fun N l (z : (Nat → Int32) × (Nat → Int32)) => wX_takeNextList_34 post (nI i) (nI (c i + 1)) (nI n) (nI (2 ^ n - 1)) (nI (fr_m e n)) fm fo fr N (nI l) (fun i => nI (e i)) sl sw im ic cd mx z.1 z.2 ak) (fun l z => i ≤ l ∧ (∀ q, q < 5 → z.1 q = nI (if q < l then fr_nt c i q else c q)) ∧ (∀ q, q < 5 → z.2 q = nI (fr_cd e n (if q < l then fr_nt c i q else c q)))) 5 i (ch, cv) (by omega) ?_ ?_ ?_
      · have : ∀ q, (if q < i then fr_nt c i q else c q) = c q := by
          intro q
          by_cases hq : q < i
          · rw [if_pos hq]
            unfold fr_nt
            rw [if_pos hq]
          · rw [if_neg hq]
        refine ⟨Nat.le_refl i, fun q hq => ?_, fun q hq => ?_⟩
        · rw [this]; exact hch q hq
        · rw [this]; exact hcv q hq
      · rintro N2 ⟨ch, cv⟩ ⟨_, hz1, hz2⟩
        refine br_t (nI_lt (a := 4) (b := 5) (by omega) (by omega)) (h i hi (by omega) (fun q h1 h2 => hI q (by omega) h2) _ _ (fun q hq => ?_) (fun q hq => ?_))
        · have := hz1 q hq
          rw [if_pos hq] at this
          exact this
        · have := hz2 q hq
          rw [if_pos hq] at this
          exact this
      · rintro N2 l ⟨ch, cv⟩ hl ⟨hil, hz1, hz2⟩ hk2
        dsimp only at hz1 hz2
        have hnl := hntm l hl
        have hval : nI (c i + 1) + nI l - nI i = nI (fr_nt c i l) := by
          rw [nI_add, pk_sub (by omega)]
          unfold fr_nt
          rw [if_neg (by omega)]
          exact congrArg nI (by omega)
        have hin : vp_in (nI l) 5 := vp_in_nI hl (by omega)
        refine br_f (nI_nlt (a := 4) (by omega) (by omega)) ⟨hin, ?_⟩
        rw [nI_clamp (by omega), hval]
        refine nm_e ⟨hin, ?_⟩
        rw [pk_us]
        refine ⟨vp_in_nI (by omega) (by omega), hin, ?_⟩
        rw [nI_clamp (by omega), hcd _ hnl]
        refine nm_e (nm_r (nI_1 l) (hk2 (upd ch l (nI (fr_nt c i l)), upd cv l (nI (fr_cd e n (fr_nt c i l)))) ⟨by omega, fun q hq => ?_, fun q hq => ?_⟩))
        · dsimp only
          by_cases hql : q = l
          · subst hql
            rw [pk_us, if_pos (by omega)]
          · rw [pk_un hql, hz1 q hq]
            by_cases hq2 : q < l
            · rw [if_pos hq2, if_pos (by omega)]
            · rw [if_neg hq2, if_neg (by omega)]
        · dsimp only
          by_cases hql : q = l
          · subst hql
            rw [pk_us, if_pos (by omega)]
          · rw [pk_un hql, hz2 q hq]
            by_cases hq2 : q < l
            · rw [if_pos hq2, if_pos (by omega)]
            · rw [if_neg hq2, if_neg (by omega)]
/-! the best cover -/
theorem fr_xcount {post : SX → Prop} {c : Nat → Nat} (hn : n ≤ 5) (hv : fr_val (fr_m e n) c) (hcv : ∀ q, q < 5 → cv q = nI (fr_cd e n (c q))) (h : post ((nI n), (nI (2 ^ n - 1)), fc, fm, (nI (fr_nz c 5)), fr, (fun i => nI (e i)), sl, sw, im, ic, cd, mx, ch, cv, ak)) : ∃ N, wX_findBestCover_67 post (nI n) (nI (2 ^ n - 1)) fc fm fr (fun i => nI (e i)) sl sw im ic cd mx ch cv ak N 0 0 := by
  have hp := fr_2n hn
  refine pk_loop (fun N i (z : Int32) => wX_findBestCover_67 post (nI n) (nI (2 ^ n - 1)) fc fm fr (fun i => nI (e i)) sl sw im ic cd mx ch cv ak N (nI i) z) (fun i z => z = nI (fr_nz c i)) 5 0 0 (by omega) rfl ?_ ?_
  · rintro N z rfl
    exact br_t (nI_lt (a := 4) (b := 5) (by omega) (by omega)) h
  · rintro N i z hi rfl hk
    refine br_f (nI_nlt (a := 4) (by omega) (by omega)) ⟨vp_in_nI hi (by omega), ?_⟩
    have hcm := fr_val_m hv hi
    have hlt := fr_cd_lt hcm
    rw [nI_clamp (by omega), hcv i hi]
    refine pk_eq (fr_cd e n (c i)) 0 (fun z => ?_) (fun z => ?_)
    · have hc0 : c i = 0 := by
        apply Classical.byContradiction
        intro hne
        have := (fr_cd_p hne hcm).1
        omega
      refine nm_r (nI_1 i) (hk _ ?_)
      rw [fr_nz_s, if_pos hc0]
      rfl
    · have hc0 : ¬ c i = 0 := by
        intro hz
        rw [hz, fr_cd_0] at z
        exact z rfl
      rw [nI_1]
      refine nm_e (nm_r (nI_1 i) (hk _ ?_))
      rw [fr_nz_s, if_neg hc0]
theorem fr_rem_0 {m : Nat} (hm : m ≤ 31) : fr_rem m (fun _ => 0) ≤ 206367 := by
  obtain ⟨a1, a2, a3, a4, a5⟩ := fr_ch31
  have b1 := fr_ch_le 1 hm
  have b2 := fr_ch_le 2 hm
  have b3 := fr_ch_le 3 hm
  have b4 := fr_ch_le 4 hm
  have b5 := fr_ch_le 5 hm
  show fr_ch m 5 + fr_ch m 4 + fr_ch m 3 + fr_ch m 2 + fr_ch m 1 ≤ 206367
  omega
theorem fr_zero_lt {n : Nat} {e : Nat → Nat} (hn : 0 < n) {t : Nat → Nat} (h : fr_ok e n t) : fr_lt (fun _ => 0) t := by
  have := fr_ok_4 hn h
  unfold fr_lt
  dsimp only
  omega
theorem fr_xfb {post : SX → Prop} (hn2 : 2 ≤ n) (hn : n ≤ 5) (he : ∀ i, e i < 3 * (n + 1)) (hI : fr_I n e im (2 ^ n)) (hC : fr_C n e ic cd fc (2 ^ n - 1)) (h : ∀ ch' cv' c, fr_best e n c → (∀ q, q < 5 → cv' q = nI (fr_cd e n (c q))) → post ((nI n), (nI (2 ^ n - 1)), fc, fm, (nI (fr_nz c 5)), fr, (fun i => nI (e i)), sl, sw, im, ic, cd, mx, ch', cv', ak)) : wpX_findBestCover post ((nI n), (nI (2 ^ n - 1)), fc, fm, fo, fr, (fun i => nI (e i)), sl, sw, im, ic, cd, mx, ch, cv, ak) := by
  have hp := fr_2n hn
  have hp4 := fr_2n4 hn2
  have hm := fr_m_lt e n
  obtain ⟨hC1, hC2, rfl⟩ := hC
  have hC1' : ∀ c, c < 2 ^ n → ic c = fr_b (fr_cs e n c) := fun c hc => hC1 c (by omega)
  have hC2' : ∀ j, j ≤ fr_m e n → cd j = nI (fr_cd e n j) := hC2
  unfold wpX_findBestCover
  dsimp only
  refine pk_loop (fun N i (z : (Nat → Int32) × (Nat → Int32)) => wX_findBestCover_2 post (nI n) (nI (2 ^ n - 1)) (nI (fr_m e n)) fm fo fr N (nI i) (fun i => nI (e i)) sl sw im ic cd mx z.1 z.2 ak) (fun i z => ∀ q, q < i → z.1 q = 0 ∧ z.2 q = 0) 5 0 (ch, cv) (by omega) (fun q hq => absurd hq (Nat.not_lt_zero q)) ?_ ?_
  · rintro N ⟨ch, cv⟩ hz
    dsimp only at hz
    refine br_t (nI_lt (a := 4) (b := 5) (by omega) (by omega)) ?_
    refine loop_m (fun N (z : Int32 × Nat × (Nat → Int32) × (Nat → Int32)) => wX_findBestCover_31 post N z.1 (nI z.2.1) (nI n) (nI (2 ^ n - 1)) (nI (fr_m e n)) fm fo fr (fun i => nI (e i)) sl sw im ic cd mx z.2.2.1 z.2.2.2 ak) (fun z => ∃ c, fr_val (fr_m e n) c ∧ (∀ q, q < 5 → z.2.2.1 q = nI (c q)) ∧ (∀ q, q < 5 → z.2.2.2 q = nI (fr_cd e n (c q))) ∧ z.2.1 ≤ 206367 ∧ ((z.1 = 0 ∧ (∀ t, fr_ok e n t → fr_lt c t) ∧ z.2.1 + fr_rem (fr_m e n) c ≤ 206367) ∨ (z.1 = 1 ∧ fr_best e n c))) (fun z => 206367 - z.2.1) ?_ (0, 0, ch, cv) ?_
    · rintro N ⟨fo1, tn, ch, cv⟩ ⟨c, hv, hz1, hz2, htn, hz3⟩ hk
      dsimp only at hz1 hz2 htn hz3
      rcases hz3 with ⟨rfl, hlt, hrem⟩ | ⟨rfl, hb⟩
      · have hex := fr_lt_ex (fr_si_ok he hn2 hn).1 (hlt _ (fr_si_ok he hn2 hn))
        have hpos : 1 ≤ fr_rem (fr_m e n) c := by
          obtain ⟨q, hq, hx⟩ := hex
          have := fr_rem_lt hq hx
          omega
        have htn2 : tn < 206367 := by omega
        refine br_f (nI_ge (b := 206367) htn2 (by omega)) (br_t rfl ?_)
        refine fr_xtn hn hC2' hz1 hz2 hv hex ?_
        intro p hp5 hr hq ch' cv' hz1' hz2'
        obtain ⟨hv', hb1, hb0⟩ := fr_lt_next hlt hp5 hr hq hv
        have hr2 := fr_rem_lt hp5 hr
        refine fr_xmc_cover (L := fun q => fr_cd e n (fr_nt c p q)) hn he hI hC1' hz2' (fun q hq5 => fr_cd_lt (fr_val_m hv' hq5)) (fun hcov => ?_) (fun hcov => ?_)
        · refine nm_r (nI_1 tn) (hk (1, tn + 1, ch', cv') ⟨fr_nt c p, hv', hz1', hz2', (show tn + 1 ≤ 206367 by omega), Or.inr ⟨rfl, hb1 hcov⟩⟩ ?_)
          show 206367 - (tn + 1) < 206367 - tn
          omega
        · refine nm_r (nI_1 tn) (hk (0, tn + 1, ch', cv') ⟨fr_nt c p, hv', hz1', hz2', (show tn + 1 ≤ 206367 by omega), Or.inl ⟨rfl, hb0 hcov, ?_⟩⟩ ?_)
          · show tn + 1 + fr_rem (fr_m e n) (fr_nt c p) ≤ 206367
            omega
          · show 206367 - (tn + 1) < 206367 - tn
            omega
      · have hE := fr_xcount (fc := nI (fr_m e n)) (fm := fm) (fr := fr) (sl := sl) (sw := sw) (im := im) (ic := ic) (cd := cd) (mx := mx) (ch := ch) (cv := cv) (ak := ak) (post := post) hn hv hz2 (h ch cv c hb hz2)
        exact pk_le 206367 tn (fun _ => hE) (fun _ => br_f (show ¬ (1 : Int32) = 0 by decide) hE)
    · refine ⟨fun _ => 0, ⟨Or.inl rfl, Or.inl rfl, Or.inl rfl, Or.inl rfl, Nat.zero_le _⟩, fun q hq => (hz q hq).1, fun q hq => ?_, Nat.zero_le _, Or.inl ⟨rfl, fun t ht => fr_zero_lt (by omega) ht, ?_⟩⟩
      · show cv q = nI (fr_cd e n 0)
        rw [fr_cd_0]
        exact (hz q hq).2
      · show 0 + fr_rem (fr_m e n) (fun _ => 0) ≤ 206367
        have := fr_rem_0 (m := fr_m e n) (by omega)
        omega
  · rintro N i ⟨ch, cv⟩ hi hz hk
    dsimp only at hz
    have hin : vp_in (nI i) 5 := vp_in_nI hi (by omega)
    refine br_f (nI_nlt (a := 4) (by omega) (by omega)) ⟨hin, nm_e ⟨hin, nm_e (nm_r (nI_1 i) ?_)⟩⟩
    rw [nI_clamp (by omega)]
    refine hk (upd ch i 0, upd cv i 0) (fun q hq => ?_)
    dsimp only
    by_cases hqi : q = i
    · subst hqi
      rw [pk_us, pk_us]
      exact ⟨rfl, rfl⟩
    · rw [pk_un hqi, pk_un hqi]
      exact hz q (by omega)
/-! all of it -/
def fr_W (n : Nat) (e : Nat → Nat) (fc fm fo : Int32) (sl sw im ic cd mx cv : Nat → Int32) : Prop := fr_T n e sl sw 10 0 ∧ fr_I n e im (2 ^ n) ∧ fr_C n e ic cd fc (2 ^ n - 1) ∧ fr_M n e mx fm (2 ^ n - 1) ∧ ∃ c, fr_best e n c ∧ (∀ q, q < 5 → cv q = nI (fr_cd e n (c q))) ∧ fo = nI (fr_nz c 5)
theorem fr_xwo {post : SX → Prop} (hn2 : 2 ≤ n) (hn : n ≤ 5) (he : ∀ i, e i < 3 * (n + 1)) (i0 : im 0 = 0) (i1 : im 1 = 0) (c0 : cd 0 = 0) (h : ∀ fc' fm' fo' sl' sw' im' ic' cd' mx' ch' cv', fr_W n e fc' fm' fo' sl' sw' im' ic' cd' mx' cv' → post ((nI n), (nI (2 ^ n - 1)), fc', fm', fo', fr, (fun i => nI (e i)), sl', sw', im', ic', cd', mx', ch', cv', ak)) : wpX_workOut post ((nI n), (nI (2 ^ n - 1)), fc, fm, fo, fr, (fun i => nI (e i)), sl, sw, im, ic, cd, mx, ch, cv, ak) := by
  have hp := fr_2n hn
  have hp4 := fr_2n4 hn2
  unfold wpX_workOut
  dsimp only
  refine fr_xfs hn he (fun sl' sw' hT => ?_)
  refine fr_xfi hn2 hn he i0 i1 (fun im' hI => ?_)
  refine fr_xfc hn2 hn hT c0 (fun ic' cd' fc' hC => ?_)
  refine fr_xfm hn2 hn (fun c hc => hC.1 c (by omega)) (fun mx' fm' hM => ?_)
  refine fr_xfb hn2 hn he hI hC (fun ch' cv' c hb hcv => ?_)
  exact h _ _ _ _ _ _ _ _ _ _ _ ⟨hT, hI, hC, hM, c, hb, hcv, rfl⟩
end FRX3
end
section
section FRY
variable {n : Nat} {e : Nat → Nat} {ft fz : Int32} {fi cz : Nat → Int32}
theorem fr_you {post : Int32 → Prop} {s a : Nat} (hn : n ≤ 5) (he : ∀ i, e i < 3 * (n + 1)) (hs : s < 5) (ha : a < 2) (h : post (fr_dn (fr_ou e s a))) : wpY_output post ((nI n), ft, fz, (fun i => nI (e i)), fi, cz) (nI s) (nI a) := by
  have h2 := he (2 * s + a)
  unfold wpY_output
  dsimp only
  rw [fr_ix2' s a, nI_clamp (by omega), fr_r3 (by omega)]
  exact ⟨vp_in_nI (by omega) (by decide), by decide, h⟩
theorem fr_ynx {post : Int32 → Prop} {s a : Nat} (hn : n ≤ 5) (he : ∀ i, e i < 3 * (n + 1)) (hs : s < 5) (ha : a < 2) (h : post (fr_dn (fr_nx e s a))) : wpY_next post ((nI n), ft, fz, (fun i => nI (e i)), fi, cz) (nI s) (nI a) := by
  have h2 := he (2 * s + a)
  unfold wpY_next
  dsimp only
  rw [fr_ix2' s a, nI_clamp (by omega), fr_d3 (by omega)]
  exact ⟨vp_in_nI (by omega) (by decide), by decide, h⟩
theorem fr_bita {c s : Nat} (hc : c < 2 ^ 31) (hs : s < 32) : (nI c >>> (nI s &&& 31)) &&& 1 = nI (c / 2 ^ s % 2) := by
  rw [pk_shrN hc _ s (s_l s hs)]
  show nI (c / 2 ^ s) &&& nI 1 = _
  rw [nx_and, Nat.and_one_is_mod]
theorem fr_and1 (w : Nat) : nI w &&& 1 = nI (w % 2) := by
  show nI w &&& nI 1 = _
  rw [nx_and, Nat.and_one_is_mod]
theorem fr_ysp1 {post : Int32 → Prop} {w : Nat} (hn : n ≤ 5) (he : ∀ i, e i < 3 * (n + 1)) (hw : w < 2 ^ 31) : ∀ k s t, k < 20 → s < n → t < n → post (fr_b (fr_sp e k s t w)) → wY_splits_11 post (nI w) (nI n) ft fz (fun i => nI (e i)) fi cz (k + 1) (nI s) (nI t) (nI k) := by
  intro k
  induction k with
  | zero =>
    intro s t _ hs ht h
    refine br_t (nI_le (a := 0) (b := 0) (by omega) (by omega)) ?_
    rw [fr_and1]
    refine fr_you hn he (by omega) (by omega) ?_
    refine fr_you hn he (by omega) (by omega) ?_
    exact fr_od_b (P := post) h
  | succ k ih =>
    intro s t hk hs ht h
    refine br_f (nI_nle (by omega) (by omega)) ?_
    rw [fr_bita hw (by omega)]
    rw [fr_sp_s] at h
    generalize hA : w / 2 ^ (k + 1) % 2 = a at h ⊢
    have ha : a < 2 := by omega
    have b1 := fr_nx_le he s a
    have b2 := fr_nx_le he t a
    refine nm_e ?_
    refine fr_ynx hn he (by omega) ha ?_
    refine fr_ynx hn he (by omega) ha ?_
    rw [fr_dn_m (by omega), fr_dn_m (by omega)]
    by_cases h1 : fr_nx e s a = 0
    · refine br_t h1 ?_
      have hg : fr_go e s t a = false := fr_bf (fun z => (fr_go_iff.mp z).1 h1)
      rw [hg] at h
      exact h
    · refine br_f h1 ?_
      by_cases h2 : fr_nx e t a = 0
      · refine br_t h2 ?_
        have hg : fr_go e s t a = false := fr_bf (fun z => (fr_go_iff.mp z).2 h2)
        rw [hg] at h
        exact h
      · refine br_f h2 (nm_r (pk_m1 k) ?_)
        rw [fr_dn_p h1, fr_dn_p h2]
        rw [fr_go_iff.mpr ⟨h1, h2⟩, Bool.true_and] at h
        exact ih _ _ (by omega) (by omega) (by omega) h
theorem fr_ysp {post : Int32 → Prop} {k s t w : Nat} (hn : n ≤ 5) (he : ∀ i, e i < 3 * (n + 1)) (hk : k < 20) (hs : s < n) (ht : t < n) (hw : w < 2 ^ 31) (h : post (fr_b (fr_sp e k s t w))) : wpY_splits post ((nI n), ft, fz, (fun i => nI (e i)), fi, cz) (nI s) (nI t) (nI (k + 1)) (nI w) := by
  unfold wpY_splits
  dsimp only
  refine nm_r (nI_pred k) ⟨k + 1, ?_⟩
  exact fr_ysp1 hn he hw k s t hk hs ht h
theorem fr_yspl {post : Int32 → Prop} {k s t : Nat} (hn : n ≤ 5) (he : ∀ i, e i < 3 * (n + 1)) (hk : k < 20) (hs : s < n) (ht : t < n) (h1 : ∀ w, fr_lw e k s t = some w → post (nI w)) (h0 : fr_lw e k s t = none → post (-1)) : wpY_splitter post ((nI n), ft, fz, (fun i => nI (e i)), fi, cz) (nI s) (nI t) (nI (k + 1)) := by
  have hp : 2 ^ (k + 1) ≤ 2 ^ 20 := Nat.pow_le_pow_right (by decide) (by omega)
  obtain ⟨S1, S0⟩ := fr_lw_spec e k s t
  unfold wpY_splitter
  dsimp only
  refine pk_loop (fun N v (_ : Unit) => wY_splitter_3 post (nI s) (nI t) (nI (k + 1)) (nI n) ft fz (fun i => nI (e i)) fi cz N (nI v)) (fun v _ => ∀ u, u < v → fr_sp e k s t u = false) (2 ^ (k + 1)) 0 () (Nat.zero_le _) (fun u hu => absurd hu (Nat.not_lt_zero u)) ?_ ?_
  · rintro N _ hI
    have hnone : fr_lw e k s t = none := by
      cases hx : fr_lw e k s t with
      | none => rfl
      | some w =>
        obtain ⟨a, b, _⟩ := S1 w hx
        rw [hI w a] at b
        cases b
    have h0' := h0 hnone
    have hc : (1 : Int32) <<< (nI (k + 1) &&& 31) ≤ nI (2 ^ (k + 1)) := by
      rw [fr_shl (by omega)]
      exact nI_le (Nat.le_refl _) (by omega)
    exact br_t hc h0'
  · rintro N v _ hv hI hk2
    have hc : ¬ (1 : Int32) <<< (nI (k + 1) &&& 31) ≤ nI v := by
      rw [fr_shl (by omega)]
      exact nI_ge hv (by omega)
    refine br_f hc ?_
    refine fr_ysp hn he hk hs ht (by omega) ?_
    rw [fr_b_0]
    by_cases hx : fr_sp e k s t v = true
    · refine br_f (fun z => z hx) (h1 v ?_)
      cases hy : fr_lw e k s t with
      | none =>
        rw [S0 hy v hv] at hx
        cases hx
      | some w =>
        obtain ⟨a, b, c⟩ := S1 w hy
        rcases Nat.lt_trichotomy w v with hl | hl | hl
        · rw [hI w hl] at b; cases b
        · rw [hl]
        · rw [c v hl] at hx; cases hx
    · refine br_t hx (nm_r (nI_1 v) (hk2 () ?_))
      intro u hu
      by_cases huv : u = v
      · subst huv; exact fr_bf hx
      · exact hI u (by omega)
theorem fr_pairs {n : Nat} (hn2 : 2 ≤ n) (hn : n ≤ 5) : (nI n * (nI n - 1)) / 2 = nI (n * (n - 1) / 2) ∧ n * (n - 1) / 2 ≤ 10 := by
  rcases (show n = 2 ∨ n = 3 ∨ n = 4 ∨ n = 5 by omega) with rfl | rfl | rfl | rfl <;> decide
theorem fr_m1neg : (-1 : Int32) < 0 := by decide
theorem fr_ysh {post : Int32 → Prop} {s t : Nat} (hn2 : 2 ≤ n) (hn : n ≤ 5) (he : ∀ i, e i < 3 * (n + 1)) (hs : s < n) (ht : t < n) (h : post (nI (fr_sl e 10 s t))) : wpY_shortest post ((nI n), ft, fz, (fun i => nI (e i)), fi, cz) (nI s) (nI t) := by
  obtain ⟨hP, hP10⟩ := fr_pairs hn2 hn
  have hbd := fr_sl_bd he hn2 hn (Nat.le_refl 10) hs ht
  unfold wpY_shortest
  dsimp only
  refine ⟨by decide, nm_r hP ?_⟩
  generalize n * (n - 1) / 2 = P at hP10 hbd ⊢
  refine pk_loop (fun N m (_ : Unit) => wY_shortest_17 post (nI s) (nI t) (nI P) (nI n) ft fz (fun i => nI (e i)) fi cz N (nI (m + 1))) (fun m _ => fr_sl e m s t = 0) P 0 () (by omega) rfl ?_ ?_
  · rintro N _ hI
    have hc := fr_sl_cap hP10 hbd
    rw [← hc, hI] at h
    exact br_t (nI_lt (by omega) (by omega)) h
  · rintro N m _ hm hI hk
    refine br_f (nI_nlt (by omega) (by omega)) (br_f (nI_nlt (a := 10) (by omega) (by omega)) ?_)
    refine fr_yspl hn he (by omega) hs ht (fun w hw => ?_) (fun hw => ?_)
    · have hwl := ((fr_lw_spec e m s t).1 w hw).1
      have hp : 2 ^ (m + 1) ≤ 2 ^ 20 := Nat.pow_le_pow_right (by decide) (by omega)
      refine br_f (nI_pos (by omega)) ?_
      rw [fr_sl_of (m := 10) (by omega) (by rw [hw]; rfl) ((fr_sl_spec e s t m).1 hI)] at h
      exact h
    · refine br_t fr_m1neg (nm_r (nI_1 (m + 1)) (hk () ?_))
      rw [fr_sl_s, if_pos hI, hw]
      rfl
end FRY
end
section
section FRY2
variable {n : Nat} {e : Nat → Nat} {ft fz : Int32} {fi cz : Nat → Int32}
def fr_F (n : Nat) (e : Nat → Nat) (fi : Nat → Int32) (k : Nat) : Prop := ∀ p q, p < n → q < n → 8 * p + q < k → fi (8 * p + q) = fr_b (decide (fr_sl e 10 p q = 0))
theorem fr_F_put {s t : Nat} (ht : t < n) (hn : n ≤ 5) (hF : fr_F n e fi (8 * s + t)) : fr_F n e (upd fi (8 * s + t) (fr_b (decide (fr_sl e 10 s t = 0)))) (8 * s + t + 1) := by
  intro p q hp hq hk
  by_cases h : 8 * p + q = 8 * s + t
  · have : p = s := by omega
    have : q = t := by omega
    subst p q
    exact pk_us
  · rw [pk_un h]
    exact hF p q hp hq (by omega)
theorem fr_yta {post : SY → Prop} (hn2 : 2 ≤ n) (hn : n ≤ 5) (he : ∀ i, e i < 3 * (n + 1)) (h : ∀ fi', fr_F n e fi' 64 → post ((nI n), ft, fz, (fun i => nI (e i)), fi', cz)) : wpY_tabulate post ((nI n), ft, fz, (fun i => nI (e i)), fi, cz) := by
  unfold wpY_tabulate
  dsimp only
  refine pk_loop (fun N s (z : Nat → Int32) => wY_tabulate_2 post (nI n) ft fz N (nI s) (fun i => nI (e i)) z cz) (fun s z => fr_F n e z (8 * s)) n 0 fi (by omega) (fun p q _ _ hk => absurd hk (Nat.not_lt_zero _)) ?_ ?_
  · rintro N z hz
    refine br_t (nI_le (Nat.le_refl n) (by omega)) (h z ?_)
    intro p q hp hq _
    exact hz p q hp hq (by omega)
  · rintro N s z hs hz hk
    refine br_f (nI_ge hs (by omega)) (br_f (nI_ge (b := 5) (by omega) (by omega)) ?_)
    refine pk_loop (fun N2 t (y : Nat → Int32) => wY_tabulate_17 post (wY_tabulate_2 post (nI n) ft fz N) (nI s) (nI n) ft fz N2 (nI t) (fun i => nI (e i)) y cz) (fun t y => fr_F n e y (8 * s + t)) n 0 z (by omega) hz ?_ ?_
    · rintro N2 y hy
      refine br_t (nI_le (Nat.le_refl n) (by omega)) (nm_r (nI_1 s) (hk y ?_))
      intro p q hp hq hx
      exact hy p q hp hq (by omega)
    · rintro N2 t y ht hy hk2
      have hput := fr_F_put ht hn hy
      have hin : vp_in (nI (8 * s + t)) 64 := vp_in_nI (by omega) (by omega)
      refine br_f (nI_ge ht (by omega)) (br_f (nI_ge (b := 5) (by omega) (by omega)) ?_)
      rw [fr_ix8, nI_eq (by omega) (by omega), fr_nb1, fr_nb0]
      by_cases hst : s = t
      · refine br_t hst ⟨hin, nm_e (nm_r (nI_1 t) (hk2 _ ?_))⟩
        rw [nI_clamp (by omega)]
        have hd : fr_sl e 10 s t = 0 := by rw [hst]; exact fr_sl_re e 10 t
        rw [decide_eq_true hd] at hput
        exact hput
      · refine br_f hst ?_
        refine fr_ysh hn2 hn he hs ht ?_
        have hl := fr_sl_le e 10 s t
        refine pk_eq (fr_sl e 10 s t) 0 (fun hd => ⟨hin, nm_e (nm_r (nI_1 t) (hk2 _ ?_))⟩) (fun hd => ⟨hin, nm_e (nm_r (nI_1 t) (hk2 _ ?_))⟩)
        · rw [nI_clamp (by omega)]
          rw [decide_eq_true hd] at hput
          exact hput
        · rw [nI_clamp (by omega)]
          rw [decide_eq_false hd] at hput
          exact hput
theorem fr_yin {post : Int32 → Prop} {c s : Nat} (hc : c < 2 ^ 31) (hs : s < 32) (h : post (fr_b (c.testBit s))) : wpY_in post ((nI n), ft, fz, (fun i => nI (e i)), fi, cz) (nI c) (nI s) := by
  unfold wpY_in
  dsimp only
  rw [fr_bit hc hs]
  by_cases hb : c.testBit s = true
  · rw [hb] at h
    exact br_t hb h
  · rw [fr_bf hb] at h
    exact br_f hb h
theorem fr_yag {post : Int32 → Prop} {c : Nat} (hn : n ≤ 5) (hc : c < 2 ^ 31) (hF : fr_F n e fi 64) (h : post (fr_b (fr_cs e n c))) : wpY_agreeing post ((nI n), ft, fz, (fun i => nI (e i)), fi, cz) (nI c) := by
  unfold wpY_agreeing
  dsimp only
  refine pk_loop (fun N s (_ : Unit) => wY_agreeing_2 post (nI c) (nI n) ft fz (fun i => nI (e i)) fi cz N (nI s)) (fun s _ => ∀ p q, p < s → q < n → c.testBit p = true → c.testBit q = true → fr_sl e 10 p q = 0) n 0 () (by omega) (fun p q hp => absurd hp (Nat.not_lt_zero p)) ?_ ?_
  · rintro N _ hI
    rw [fr_cs_iff.mpr (fun s t hs ht a b => hI s t hs ht a b)] at h
    exact br_t (nI_le (Nat.le_refl n) (by omega)) h
  · rintro N s _ hs hI hk
    refine br_f (nI_ge hs (by omega)) (br_f (nI_ge (b := 5) (by omega) (by omega)) ?_)
    refine pk_loop (fun N2 t (_ : Unit) => wY_agreeing_17 post (wY_agreeing_2 post (nI c) (nI n) ft fz (fun i => nI (e i)) fi cz N) (nI c) (nI s) (nI n) ft fz (fun i => nI (e i)) fi cz N2 (nI t)) (fun t _ => ∀ q, q < t → c.testBit s = true → c.testBit q = true → fr_sl e 10 s q = 0) n 0 () (by omega) (fun q hq => absurd hq (Nat.not_lt_zero q)) ?_ ?_
    · rintro N2 _ hJ
      refine br_t (nI_le (Nat.le_refl n) (by omega)) (nm_r (nI_1 s) (hk () ?_))
      intro p q hp hq a b
      by_cases hps : p = s
      · subst hps; exact hJ q hq a b
      · exact hI p q (by omega) hq a b
    · rintro N2 t _ ht hJ hk2
      refine br_f (nI_ge ht (by omega)) (br_f (nI_ge (b := 5) (by omega) (by omega)) ?_)
      refine fr_yin hc (by omega) ?_
      rw [fr_b_0]
      by_cases b1 : c.testBit s = true
      · refine br_f (fun z => z b1) ?_
        refine fr_yin hc (by omega) ?_
        rw [fr_b_0]
        by_cases b2 : c.testBit t = true
        · refine br_f (fun z => z b2) ?_
          rw [fr_ix8]
          refine ⟨vp_in_nI (by omega) (by omega), ?_⟩
          rw [nI_clamp (by omega), hF s t hs ht (by omega), fr_b_0, decide_eq_true_iff]
          by_cases hz : fr_sl e 10 s t = 0
          · refine br_f (fun z => z hz) (nm_r (nI_1 t) (hk2 () ?_))
            intro q hq a b
            by_cases hqt : q = t
            · subst hqt; exact hz
            · exact hJ q (by omega) a b
          · rw [fr_cs_f hs ht b1 b2 hz] at h
            exact br_t hz h
        · refine br_t b2 (nm_r (nI_1 t) (hk2 () ?_))
          intro q hq a b
          by_cases hqt : q = t
          · subst hqt; exact absurd b b2
          · exact hJ q (by omega) a b
      · refine br_t b1 (nm_r (nI_1 t) (hk2 () ?_))
        intro q hq a b
        exact absurd a b1
theorem fr_yla {post : Int32 → Prop} {c : Nat} (hn2 : 2 ≤ n) (hn : n ≤ 5) (hc : c < 2 ^ n) (hF : fr_F n e fi 64) (h : post (fr_b (fr_mx e n c))) : wpY_largest post ((nI n), ft, fz, (fun i => nI (e i)), fi, cz) (nI c) := by
  have hp := fr_2n hn
  have hp4 := fr_2n4 hn2
  unfold wpY_largest
  dsimp only
  refine fr_yag hn (by omega) hF ?_
  rw [fr_b_0]
  by_cases hcs : fr_cs e n c = true
  · refine br_f (fun z => z hcs) ?_
    refine pk_loop (fun N d (_ : Unit) => wY_largest_12 post (nI c) (nI n) ft fz (fun i => nI (e i)) fi cz N (nI d)) (fun d _ => 1 ≤ d ∧ ∀ x, 1 ≤ x → x < d → x ≠ c → x &&& c = c → fr_cs e n x = false) (2 ^ n) 1 () (by omega) ⟨Nat.le_refl 1, fun x h1 h2 => absurd h2 (by omega)⟩ ?_ ?_
    · rintro N _ ⟨_, hI⟩
      have hc2 : (1 : Int32) <<< (nI n &&& 31) ≤ nI (2 ^ n) := by
        rw [fr_shl (by omega)]
        exact nI_le (Nat.le_refl _) (by omega)
      rw [(fr_mx_big hc).mpr ⟨hcs, hI⟩] at h
      exact br_t hc2 h
    · rintro N d _ hd ⟨hd1, hI⟩ hk
      have hc2 : ¬ (1 : Int32) <<< (nI n &&& 31) ≤ nI d := by
        rw [fr_shl (by omega)]
        exact nI_ge hd (by omega)
      refine br_f hc2 ?_
      have hle : d &&& c ≤ c := Nat.and_le_right
      rw [nx_and, nI_eq (by omega) (by omega), nI_eq (by omega) (by omega)]
      have K : (d ≠ c → d &&& c = c → fr_cs e n d = false) → 1 ≤ d + 1 ∧ ∀ x, 1 ≤ x → x < d + 1 → x ≠ c → x &&& c = c → fr_cs e n x = false := by
        intro hK
        refine ⟨by omega, fun x h1 h2 h3 h4 => ?_⟩
        by_cases hxd : x = d
        · subst hxd; exact hK h3 h4
        · exact hI x h1 (by omega) h3 h4
      by_cases h1 : d = c
      · exact br_t h1 (nm_r (nI_1 d) (hk () (K (fun z => absurd h1 z))))
      · refine br_f h1 ?_
        by_cases h2 : d &&& c = c
        · refine br_t h2 ?_
          refine fr_yag hn (by omega) hF ?_
          rw [fr_b_0]
          by_cases h3 : fr_cs e n d = true
          · refine br_f (fun z => z h3) ?_
            have : fr_mx e n c = false := fr_bf (fun z => by
              have := ((fr_mx_big hc).mp z).2 d hd1 hd h1 h2
              rw [h3] at this
              cases this)
            rw [this] at h
            exact h
          · exact br_t h3 (nm_r (nI_1 d) (hk () (K (fun _ _ => fr_bf h3))))
        · exact br_f h2 (nm_r (nI_1 d) (hk () (K (fun _ z => absurd z h2))))
  · have : fr_mx e n c = false := fr_bf (fun z => hcs (fr_mx_iff.mp z).1)
    rw [this] at h
    exact br_t hcs h
theorem fr_c_t {n : Nat} (hn : n ≤ 5) : (1 : Int32) <<< (nI n &&& 31) ≤ nI (2 ^ n - 1 + 1) := by
  have hp := fr_2n hn
  have := Nat.two_pow_pos n
  rw [fr_shl (by omega)]
  exact nI_le (by omega) (by omega)
theorem fr_c_f {n d : Nat} (hn : n ≤ 5) (hd : d < 2 ^ n) : ¬ (1 : Int32) <<< (nI n &&& 31) ≤ nI d := by
  have hp := fr_2n hn
  rw [fr_shl (by omega)]
  exact nI_ge hd (by omega)
theorem fr_yms {post : Int32 → SY → Prop} (hn2 : 2 ≤ n) (hn : n ≤ 5) (he : ∀ i, e i < 3 * (n + 1)) (h : ∀ fi', post (nI (fr_mc e n (2 ^ n - 1))) ((nI n), ft, fz, (fun i => nI (e i)), fi', cz)) : wpY_maximals post ((nI n), ft, fz, (fun i => nI (e i)), fi, cz) := by
  have hp := fr_2n hn
  have hp4 := fr_2n4 hn2
  unfold wpY_maximals
  dsimp only
  refine fr_yta hn2 hn he (fun fi' hF => ?_)
  refine pk_loop (fun N k (z : Int32) => wY_maximals_8 post (nI n) ft fz (fun i => nI (e i)) fi' cz N z (nI (k + 1))) (fun k z => z = nI (fr_mc e n k)) (2 ^ n - 1) 0 0 (by omega) rfl ?_ ?_
  · rintro N z rfl
    exact br_t (fr_c_t hn) (h fi')
  · rintro N k z hk1 rfl hk
    refine br_f (fr_c_f hn (by omega)) ?_
    refine fr_yla hn2 hn (by omega) hF ?_
    rw [fr_b_0]
    by_cases hm : fr_mx e n (k + 1) = true
    · refine br_f (fun z => z hm) ?_
      rw [nI_1]
      refine nm_e (nm_r (nI_1 (k + 1)) (hk _ ?_))
      rw [fr_mc_s, if_pos hm]
    · refine br_t hm (nm_r (nI_1 (k + 1)) (hk _ ?_))
      rw [fr_mc_s, if_neg hm]
      rfl
theorem fr_ymx {post : Int32 → SY → Prop} {x : Int32} (hn2 : 2 ≤ n) (hn : n ≤ 5) (he : ∀ i, e i < 3 * (n + 1)) (h1 : ∀ fi' c, c < 2 ^ n - 1 → fr_mx e n (c + 1) = true → nI (fr_mc e n c) = x → post (nI (c + 1)) ((nI n), ft, fz, (fun i => nI (e i)), fi', cz)) (h0 : ∀ fi', (∀ c, c < 2 ^ n - 1 → fr_mx e n (c + 1) = true → ¬ nI (fr_mc e n c) = x) → post (-1) ((nI n), ft, fz, (fun i => nI (e i)), fi', cz)) : wpY_maximal post ((nI n), ft, fz, (fun i => nI (e i)), fi, cz) x := by
  have hp := fr_2n hn
  have hp4 := fr_2n4 hn2
  unfold wpY_maximal
  dsimp only
  refine fr_yta hn2 hn he (fun fi' hF => ?_)
  refine pk_loop (fun N k (z : Int32) => wY_maximal_8 post x (nI n) ft fz (fun i => nI (e i)) fi' cz N z (nI (k + 1))) (fun k z => z = nI (fr_mc e n k) ∧ ∀ c, c < k → fr_mx e n (c + 1) = true → ¬ nI (fr_mc e n c) = x) (2 ^ n - 1) 0 0 (by omega) ⟨rfl, fun c hc => absurd hc (Nat.not_lt_zero c)⟩ ?_ ?_
  · rintro N z ⟨rfl, hI⟩
    exact br_t (fr_c_t hn) (h0 fi' hI)
  · rintro N k z hk1 ⟨rfl, hI⟩ hk
    refine br_f (fr_c_f hn (by omega)) ?_
    refine fr_yla hn2 hn (by omega) hF ?_
    rw [fr_b_0]
    by_cases hm : fr_mx e n (k + 1) = true
    · refine br_f (fun z => z hm) ?_
      by_cases hx : nI (fr_mc e n k) = x
      · exact br_t hx (h1 fi' k hk1 hm hx)
      · refine br_f hx ?_
        rw [nI_1]
        refine nm_e (nm_r (nI_1 (k + 1)) (hk _ ⟨?_, fun c hc hcm => ?_⟩))
        · rw [fr_mc_s, if_pos hm]
        · by_cases hck : c = k
          · subst hck; exact hx
          · exact hI c (by omega) hcm
    · refine br_t hm (nm_r (nI_1 (k + 1)) (hk _ ⟨?_, fun c hc hcm => ?_⟩))
      · rw [fr_mc_s, if_neg hm]
        rfl
      · by_cases hck : c = k
        · subst hck; exact absurd hcm hm
        · exact hI c (by omega) hcm
theorem fr_yim {post : Int32 → Prop} {c a : Nat} (hn : n ≤ 5) (he : ∀ i, e i < 3 * (n + 1)) (hc : c < 2 ^ 31) (ha : a < 2) (h : post (nI (fr_im e c a n))) : wpY_image post ((nI n), ft, fz, (fun i => nI (e i)), fi, cz) (nI c) (nI a) := by
  unfold wpY_image
  dsimp only
  refine pk_loop (fun N s (z : Int32) => wY_image_5 post (nI c) (nI a) (nI n) ft fz (fun i => nI (e i)) fi cz N z (nI s)) (fun s z => z = nI (fr_im e c a s)) n 0 0 (by omega) rfl ?_ ?_
  · rintro N z rfl
    exact br_t (nI_le (Nat.le_refl n) (by omega)) h
  · rintro N s z hs rfl hk
    refine br_f (nI_ge hs (by omega)) (br_f (nI_ge (b := 5) (by omega) (by omega)) ?_)
    refine fr_ynx hn he (by omega) ha ?_
    have b := fr_nx_le he s a
    refine fr_yin hc (by omega) ?_
    rw [fr_b_0, fr_dn_m (by omega)]
    by_cases h1 : c.testBit s = true
    · refine br_f (fun z => z h1) ?_
      by_cases h2 : fr_nx e s a = 0
      · refine br_t h2 (nm_r (nI_1 s) (hk _ ?_))
        rw [fr_im_s, if_neg (fun z => z.2 h2)]
      · refine br_f h2 ?_
        rw [fr_dn_p h2, fr_shl (by omega), fr_or32]
        refine nm_e (nm_r (nI_1 s) (hk _ ?_))
        rw [fr_im_s, if_pos ⟨h1, h2⟩]
    · refine br_t h1 (nm_r (nI_1 s) (hk _ ?_))
      rw [fr_im_s, if_neg (fun z => h1 z.1)]
end FRY2
end
section
section FRY3
variable {n : Nat} {e : Nat → Nat} {ft fz : Int32} {fi cz : Nat → Int32}
theorem fr_ywi {post : Int32 → Prop} {K r : Nat} {L : Nat → Nat} (hK : K ≤ 5) (hr : r < 2 ^ 31) (hL : ∀ p, p < K → cz p = nI (L p)) (h1 : (∃ p, p < K ∧ L p &&& r = r) → post 1) (h0 : (¬ ∃ p, p < K ∧ L p &&& r = r) → post 0) : wpY_within post ((nI n), ft, (nI K), (fun i => nI (e i)), fi, cz) (nI r) := by
  unfold wpY_within
  dsimp only
  refine pk_loop (fun N i (_ : Unit) => wY_within_2 post (nI r) (nI n) ft (nI K) (fun i => nI (e i)) fi cz N (nI i)) (fun i _ => ∀ p, p < i → ¬ L p &&& r = r) K 0 () (by omega) (fun p hp => absurd hp (Nat.not_lt_zero p)) ?_ ?_
  · rintro N _ hI
    refine br_t (nI_le (Nat.le_refl K) (by omega)) (h0 ?_)
    rintro ⟨p, hp, h⟩
    exact hI p hp h
  · rintro N i _ hi hI hk
    refine br_f (nI_ge hi (by omega)) (br_f (nI_ge (b := 5) (by omega) (by omega)) ⟨vp_in_nI (by omega) (by omega), ?_⟩)
    have hle : L i &&& r ≤ r := Nat.and_le_right
    rw [nI_clamp (by omega), hL i hi, nx_and, nI_eq (by omega) (by omega)]
    by_cases h : L i &&& r = r
    · exact br_t h (h1 ⟨i, hi, h⟩)
    · refine br_f h (nm_r (nI_1 i) (hk () ?_))
      intro p hp
      by_cases hpi : p = i
      · subst hpi; exact h
      · exact hI p (by omega)
theorem fr_yco {post : Int32 → Prop} {K : Nat} {L : Nat → Nat} (hn : n ≤ 5) (he : ∀ i, e i < 3 * (n + 1)) (hF : fr_F n e fi 64) (hK0 : 0 < K) (hK : K ≤ 5) (hL : ∀ p, p < K → cz p = nI (L p)) (hLn : ∀ p, p < K → L p < 2 ^ n) (h1 : fr_cov e n (fr_lm K L) → post 1) (h0 : ¬ fr_cov e n (fr_lm K L) → post 0) : wpY_covers post ((nI n), ft, (nI K), (fun i => nI (e i)), fi, cz) := by
  have hp := fr_2n hn
  rw [fr_cov_lm hK0 hLn] at h1 h0
  unfold wpY_covers
  dsimp only
  refine pk_loop (fun N i (z : Int32) => wY_covers_4 post (nI n) ft (nI K) (fun i => nI (e i)) fi cz N z (nI i)) (fun i z => z = nI (fr_un L i) ∧ (∀ p, p < i → fr_cs e n (L p) = true) ∧ ∀ q, q < i → ∀ a, a < 2 → ∃ p, p < K ∧ L p &&& fr_im e (L q) a n = fr_im e (L q) a n) K 0 0 (by omega) ⟨rfl, fun p hp => absurd hp (Nat.not_lt_zero p), fun p hp => absurd hp (Nat.not_lt_zero p)⟩ ?_ ?_
  · rintro N z ⟨rfl, hcs, him⟩
    refine br_t (nI_le (Nat.le_refl K) (by omega)) ?_
    have hu := fr_un_lt hLn K (Nat.le_refl K)
    exact pk_eq (fr_un L K) (2 ^ n - 1) (fun hall => h1 ⟨hcs, hall, him⟩) (fun hall => h0 (fun z => hall z.2.1)) rfl (fr_all1 (by omega))
  · rintro N i z hi ⟨rfl, hcs, him⟩ hk
    have hb := hLn i hi
    have hin : vp_in (nI i) 5 := vp_in_nI (by omega) (by omega)
    refine br_f (nI_ge hi (by omega)) (br_f (nI_ge (b := 5) (by omega) (by omega)) ⟨hin, ?_⟩)
    rw [nI_clamp (by omega), hL i hi]
    refine fr_yag hn (by omega) hF ?_
    rw [fr_b_0]
    by_cases hx : fr_cs e n (L i) = true
    · refine br_f (fun z => z hx) ⟨hin, ?_⟩
      rw [fr_or32]
      refine nm_e ?_
      refine pk_loop (fun N2 a (_ : Unit) => wY_covers_43 post (wY_covers_4 post (nI n) ft (nI K) (fun i => nI (e i)) fi cz N) (nI (fr_un L (i + 1))) (nI i) (nI n) ft (nI K) (fun i => nI (e i)) fi cz N2 (nI a)) (fun a _ => ∀ b, b < a → ∃ p, p < K ∧ L p &&& fr_im e (L i) b n = fr_im e (L i) b n) 2 0 () (by omega) (fun p hp => absurd hp (Nat.not_lt_zero p)) ?_ ?_
      · rintro N2 _ hJ
        refine br_t (nI_le (Nat.le_refl 2) (by omega)) (nm_r (nI_1 i) (hk _ ⟨rfl, ?_, ?_⟩))
        · intro p hp
          by_cases hpi : p = i
          · subst hpi; exact hx
          · exact hcs p (by omega)
        · intro q hq a ha
          by_cases hqi : q = i
          · subst hqi; exact hJ a ha
          · exact him q (by omega) a ha
      · rintro N2 a _ ha hJ hk2
        refine br_f (nI_ge (b := 2) ha (by omega)) ⟨hin, ?_⟩
        rw [nI_clamp (by omega), hL i hi]
        refine fr_yim hn he (by omega) ha ?_
        have himl := fr_im_lt he (L i) a n
        refine fr_ywi hK (by omega) hL (fun hy => ?_) (fun hy => ?_)
        · refine br_f (by decide) (nm_r (nI_1 a) (hk2 () ?_))
          intro b hb
          by_cases hba : b = a
          · subst hba; exact hy
          · exact hJ b (by omega)
        · exact br_t rfl (h0 (fun z => hy (z.2.2 i hi a ha)))
    · exact br_t hx (h0 (fun z => hx (z.1 i hi)))
theorem fr_yro {post : Int32 → Prop} {c w : Nat} (hn : n ≤ 5) (hF : fr_F n e fi 64) (hc : c < 2 ^ n) (hw : w < 1000) (h1 : w + fr_ct e n c ≤ fr_m e n → post 1) (h0 : ¬ w + fr_ct e n c ≤ fr_m e n → post 0) : wpY_room post ((nI n), ft, fz, (fun i => nI (e i)), fi, cz) (nI c) (nI w) := by
  have hp := fr_2n hn
  unfold wpY_room
  dsimp only
  refine nm_r (nI_1 c) ?_
  refine pk_loop (fun N k (z : Int32) => wY_room_7 post (nI w) (nI n) ft fz (fun i => nI (e i)) fi cz N z (nI (k + 1))) (fun k z => c ≤ k ∧ z = nI (fr_ct e n k - fr_ct e n c)) (2 ^ n - 1) c 0 (by omega) ⟨Nat.le_refl c, by rw [Nat.sub_self]; rfl⟩ ?_ ?_
  · rintro N z ⟨_, rfl⟩
    refine br_t (fr_c_t hn) ?_
    have hml := fr_m_lt e n
    have hmono := fr_ct_mono e n c (2 ^ n - 1 - c)
    rw [show c + (2 ^ n - 1 - c) = 2 ^ n - 1 by omega] at hmono
    have hme : fr_ct e n (2 ^ n - 1) = fr_m e n := rfl
    rw [hme] at hmono ⊢
    exact pk_lt (fr_m e n - fr_ct e n c) w (fun z => h0 (by omega)) (fun z => h1 (by omega))
  · rintro N k z hk1 ⟨hck, rfl⟩ hk
    refine br_f (fr_c_f hn (by omega)) ?_
    refine fr_yag hn (by omega) hF ?_
    rw [fr_b_0]
    have hmono := fr_ct_mono e n c (k - c)
    rw [show c + (k - c) = k by omega] at hmono
    by_cases hx : fr_cs e n (k + 1) = true
    · refine br_f (fun z => z hx) ?_
      rw [nI_1]
      refine nm_e (nm_r (nI_1 (k + 1)) (hk _ ⟨by omega, ?_⟩))
      rw [fr_ct_s, if_pos hx]
      exact congrArg nI (by omega)
    · refine br_t hx (nm_r (nI_1 (k + 1)) (hk _ ⟨by omega, ?_⟩))
      rw [fr_ct_s, if_neg hx]
      rfl
theorem fr_ypl {post : SY → Prop} {K i g : Nat} {b : Nat → Nat} (hn : n ≤ 5) (hF : fr_F n e fi 64) (hi : i < K) (hK : K ≤ 5) (hg : g ≠ 0) (hgm : g + (K - 1 - i) ≤ fr_m e n) (hb : ∀ q, q < i → cz q = nI (fr_cd e n (b q))) (h : ∀ cz', (∀ q, q < K → cz' q = nI (fr_cd e n (if q < i then b q else g + (q - i)))) → post ((nI n), ft, (nI K), (fun i => nI (e i)), fi, cz')) : wpY_place post ((nI n), ft, (nI K), (fun i => nI (e i)), fi, cz) (nI i) (nI (fr_cd e n g)) := by
  have hp := fr_2n hn
  obtain ⟨g1, g2, g3, g4⟩ := fr_cd_p (e := e) (n := n) hg (by omega)
  generalize hG : fr_cd e n g = c at g1 g2 g3 g4 ⊢
  obtain ⟨k0, rfl⟩ : ∃ k0, c = k0 + 1 := ⟨c - 1, by omega⟩
  rw [fr_ct_s, if_pos g3] at g4
  unfold wpY_place
  dsimp only
  refine pk_loop (fun N k (z : Int32 × (Nat → Int32)) => wY_place_5 post (nI n) ft (nI K) N z.1 (nI (k + 1)) (fun i => nI (e i)) fi z.2) (fun k z => ∃ a, z.1 = nI a ∧ i ≤ a ∧ a ≤ K ∧ (a < K → a + g = i + fr_ct e n k + 1) ∧ ∀ q, q < a → z.2 q = nI (fr_cd e n (if q < i then b q else g + (q - i)))) (2 ^ n - 1) k0 (nI i, cz) (by omega) ⟨i, rfl, Nat.le_refl i, by omega, fun _ => by omega, fun q hq => by rw [if_pos hq]; exact hb q hq⟩ ?_ ?_
  · rintro N ⟨z, cz⟩ ⟨a, hz, hia, haK, ha, hcz⟩
    refine br_t (fr_c_t hn) (h cz ?_)
    intro q hq
    refine hcz q ?_
    by_cases haK2 : a < K
    · have := ha haK2
      have hme : fr_ct e n (2 ^ n - 1) = fr_m e n := rfl
      omega
    · omega
  · rintro N k ⟨z, cz⟩ hk1 ⟨a, hz, hia, haK, ha, hcz⟩ hk
    dsimp only at hz hcz
    subst hz
    refine br_f (fr_c_f hn (by omega)) ?_
    refine pk_le K a (fun hKa => ?_) (fun hKa => ?_)
    · refine nm_r (nI_1 (k + 1)) (hk (nI a, cz) ⟨a, rfl, hia, haK, fun z => absurd z (by omega), hcz⟩)
    · have hae := ha hKa
      refine br_f (nI_ge (b := 5) (by omega) (by omega)) ?_
      refine fr_yag hn (by omega) hF ?_
      rw [fr_b_0]
      by_cases hx : fr_cs e n (k + 1) = true
      · have hct : fr_ct e n (k + 1) = fr_ct e n k + 1 := by rw [fr_ct_s, if_pos hx]
        refine br_f (fun z => z hx) ⟨vp_in_nI (by omega) (by omega), ?_⟩
        rw [nI_clamp (by omega)]
        refine nm_e (nm_r (nI_1 a) (nm_r (nI_1 (k + 1)) (hk (nI (a + 1), upd cz a (nI (k + 1))) ⟨a + 1, rfl, by omega, by omega, fun _ => by omega, fun q hq => ?_⟩)))
        dsimp only
        by_cases hqa : q = a
        · subst hqa
          rw [pk_us, if_neg (by omega), show g + (q - i) = fr_ct e n (k + 1) by omega, (fr_cd_ct (by omega) (by omega) hx).2.2]
        · rw [pk_un hqa]
          exact hcz q (by omega)
      · have hct : fr_ct e n (k + 1) = fr_ct e n k := by rw [fr_ct_s, if_neg hx]; rfl
        exact br_t hx (nm_r (nI_1 (k + 1)) (hk (nI a, cz) ⟨a, rfl, hia, haK, fun _ => by omega, hcz⟩))
/-- from one place on: the sets between two neighbours of the list -/
theorem fr_yad1 {post : Int32 → SY → Prop} {J7 : Int32 → Prop} {K i u g : Nat} {b : Nat → Nat} (hn : n ≤ 5) (hF : fr_F n e fi 64) (hi : i < K) (hK : K ≤ 5) (hg : g ≤ fr_m e n) (hb : ∀ q, q < i → cz q = nI (fr_cd e n (b q))) (hci : cz i = nI (fr_cd e n g)) (hu : u ≤ 2 ^ n) (hgu : fr_cd e n g < u)
    (h1 : g + (K - 1 - i) < fr_m e n → fr_cd e n (g + 1) < u ∧ ∀ cz', (∀ q, q < K → cz' q = nI (fr_cd e n (if q < i then b q else g + 1 + (q - i)))) → post 1 ((nI n), ft, (nI K), (fun i => nI (e i)), fi, cz'))
    (h0 : fr_m e n ≤ g + (K - 1 - i) → J7 (fr_dn i)) : wY_advance_40 post J7 (nI i) (nI u) (nI n) ft (nI K) (fun i => nI (e i)) fi cz := by
  have hp := fr_2n hn
  have hgl := fr_cd_lt hg
  refine ⟨vp_in_nI (by omega) (by omega), ?_⟩
  rw [nI_clamp (by omega), hci]
  refine nm_r (nI_1 _) ?_
  have hK1 : nI K - 1 - nI i = nI (K - 1 - i) := by
    have e1 : nI K - 1 = nI (K - 1) := pk_sub (b := 1) (by omega)
    rw [e1, pk_sub (by omega)]
  refine pk_loop (fun N k (_ : Unit) => wY_advance_50 post J7 (nI i) (nI u) (nI n) ft (nI K) (fun i => nI (e i)) fi cz N (nI k)) (fun k _ => fr_cd e n g < k ∧ (g + (K - 1 - i) < fr_m e n → k ≤ fr_cd e n (g + 1))) u (fr_cd e n g + 1) () (by omega) ⟨by omega, fun hx => fr_cd_mono (i := g) (j := g + 1) (by omega) (by omega)⟩ ?_ ?_
  · rintro N _ ⟨_, hI⟩
    refine br_t (nI_le (Nat.le_refl u) (by omega)) (nm_r (Int32.sub_eq_add_neg _ _).symm (h0 ?_))
    apply Classical.byContradiction
    intro hx
    have a1 := hI (by omega)
    have a2 := (h1 (by omega)).1
    omega
  · rintro N k _ hk1 ⟨hk0, hI⟩ hk
    refine br_f (nI_ge hk1 (by omega)) ?_
    refine fr_yag hn (by omega) hF ?_
    rw [fr_b_0]
    by_cases hx : fr_cs e n k = true
    · refine br_f (fun z => z hx) ?_
      have hct : g < fr_ct e n k := by
        have := fr_ct_lt hk0 hx
        rw [fr_cd_tc hg] at this
        exact this
      rw [hK1]
      refine fr_yro hn hF (by omega) (by omega) (fun hy => ?_) (fun hy => ?_)
      · refine br_f (by decide) ?_
        have hr : g + (K - 1 - i) < fr_m e n := by omega
        have hkg : k = fr_cd e n (g + 1) := by
          have a1 := hI hr
          rcases Nat.lt_or_ge k (fr_cd e n (g + 1)) with hl | hl
          · have := fr_ct_lt hl (fr_cd_cs (i := g + 1) (by omega))
            rw [fr_cd_tc (by omega)] at this
            omega
          · omega
        rw [hkg]
        refine fr_ypl (b := b) hn hF hi hK (by omega) (by omega) hb (fun cz' hcz' => ?_)
        exact (h1 hr).2 cz' hcz'
      · refine br_t rfl (nm_r (nI_1 k) (hk () ⟨by omega, fun hr => ?_⟩))
        have a1 := hI hr
        rcases Nat.lt_or_ge k (fr_cd e n (g + 1)) with hl | hl
        · omega
        · have hkg : k = fr_cd e n (g + 1) := by omega
          rw [hkg, fr_cd_tc (by omega)] at hy
          omega
    · refine br_t hx (nm_r (nI_1 k) (hk () ⟨by omega, fun hr => ?_⟩))
      have a1 := hI hr
      rcases Nat.lt_or_ge k (fr_cd e n (g + 1)) with hl | hl
      · omega
      · have hkg : k = fr_cd e n (g + 1) := by omega
        rw [hkg, fr_cd_cs (by omega)] at hx
        exact absurd rfl hx
theorem fr_val_up {m p : Nat} {c : Nat → Nat} (hv : fr_val m c) (hp : p < 4) (h0 : c p ≠ 0) : c p < c (p + 1) := by
  obtain ⟨v0, v1, v2, v3, _⟩ := hv
  rcases (show p = 0 ∨ p = 1 ∨ p = 2 ∨ p = 3 by omega) with rfl | rfl | rfl | rfl
  · exact v0.resolve_left h0
  · exact v1.resolve_left h0
  · exact v2.resolve_left h0
  · exact v3.resolve_left h0
theorem fr_yad {post : Int32 → SY → Prop} {K : Nat} {c : Nat → Nat} (hn : n ≤ 5) (hF : fr_F n e fi 64) (hK0 : 0 < K) (hK : K ≤ 5) (hv : fr_val (fr_m e n) c) (hnz : ∀ p, 5 - K ≤ p → p < 5 → c p ≠ 0) (hcz : ∀ q, q < K → cz q = nI (fr_cd e n (c (5 - K + q))))
    (h1 : ∀ p, 5 - K ≤ p → p < 5 → c p + (4 - p) < fr_m e n → (∀ q, p < q → q < 5 → fr_m e n ≤ c q + (4 - q)) → ∀ cz', (∀ q, q < K → cz' q = nI (fr_cd e n (fr_nt c p (5 - K + q)))) → post 1 ((nI n), ft, (nI K), (fun i => nI (e i)), fi, cz'))
    (h0 : (∀ p, 5 - K ≤ p → p < 5 → fr_m e n ≤ c p + (4 - p)) → post 0 ((nI n), ft, (nI K), (fun i => nI (e i)), fi, cz)) : wpY_advance post ((nI n), ft, (nI K), (fun i => nI (e i)), fi, cz) := by
  have hp := fr_2n hn
  unfold wpY_advance
  dsimp only
  refine nm_r (show nI K - 1 = fr_dn K from rfl) ⟨K + 1, ?_⟩
  refine pk_loopD (fun N i (_ : Unit) => wY_advance_7 post (nI n) ft (nI K) (fun i => nI (e i)) fi cz N (fr_dn i)) (fun i _ => i ≤ K ∧ ∀ q, i ≤ q → q < K → fr_m e n ≤ c (5 - K + q) + (K - 1 - q)) ?_ ?_ K () ⟨Nat.le_refl K, fun q z1 z2 => absurd z1 (by omega)⟩
  · rintro N _ ⟨_, hI⟩
    refine br_t fr_m1neg (h0 ?_)
    intro p hp1 hp2
    have := hI (p - (5 - K)) (by omega) (by omega)
    rw [show 5 - K + (p - (5 - K)) = p by omega] at this
    omega
  · rintro N i _ ⟨hiK, hI⟩ hk
    have hi : i < K := by omega
    have hdn : fr_dn (i + 1) = nI i := nI_pred i
    have hgm := fr_val_m hv (p := 5 - K + i) (by omega)
    have hg0 := hnz (5 - K + i) (by omega) (by omega)
    rw [hdn]
    refine br_f (nI_pos (by omega)) ?_
    have e1 : nI K - 1 = nI (K - 1) := pk_sub (b := 1) (by omega)
    have hnt : ∀ q, (if 5 - K + q < 5 - K + i then c (5 - K + q) else c (5 - K + i) + 1 + (5 - K + q - (5 - K + i))) = if q < i then c (5 - K + q) else c (5 - K + i) + 1 + (q - i) := by
      intro q
      by_cases hq : q < i
      · rw [if_pos hq, if_pos (by omega)]
      · rw [if_neg hq, if_neg (by omega), show 5 - K + q - (5 - K + i) = q - i by omega]
    have S1 : c (5 - K + i) + (K - 1 - i) < fr_m e n → ∀ cz', (∀ q, q < K → cz' q = nI (fr_cd e n (if q < i then c (5 - K + q) else c (5 - K + i) + 1 + (q - i)))) → post 1 ((nI n), ft, (nI K), (fun i => nI (e i)), fi, cz') := by
      intro hr cz' hcz'
      refine h1 (5 - K + i) (by omega) (by omega) (by omega) ?_ cz' ?_
      · intro q hq1 hq2
        have := hI (q - (5 - K)) (by omega) (by omega)
        rw [show 5 - K + (q - (5 - K)) = q by omega] at this
        omega
      · intro q hq
        unfold fr_nt
        rw [hnt q]
        exact hcz' q hq
    have S0 : fr_m e n ≤ c (5 - K + i) + (K - 1 - i) → wY_advance_7 post (nI n) ft (nI K) (fun i => nI (e i)) fi cz N (fr_dn i) := by
      intro hr
      refine hk () ⟨by omega, fun q hq1 hq2 => ?_⟩
      by_cases hqi : q = i
      · subst hqi; exact hr
      · exact hI q (by omega) hq2
    refine pk_le (K - 1) i (fun hle => ?_) (fun hle => ?_) e1
    · rw [fr_shl (by omega)]
      refine fr_yad1 (b := fun q => c (5 - K + q)) (g := c (5 - K + i)) hn hF hi hK hgm (fun q hq => hcz q (by omega)) (hcz i hi) (Nat.le_refl _) (fr_cd_lt hgm) (fun hr => ⟨fr_cd_lt (by omega), S1 hr⟩) S0
    · have hrem : nI i + 1 - (nI i + 1) / 5 * 5 = nI (i + 1) := by
        rw [nI_1]
        show nI (i + 1) - nI (i + 1) / nI 5 * nI 5 = _
        rw [pk_rem (by omega) (by omega) (by omega), Nat.mod_eq_of_lt (by omega)]
      rw [hrem]
      refine ⟨by decide, vp_in_nI (by omega) (by omega), ?_⟩
      rw [nI_clamp (by omega), hcz (i + 1) (by omega)]
      have hgm2 := fr_val_m hv (p := 5 - K + (i + 1)) (by omega)
      have hlt : c (5 - K + i) < c (5 - K + (i + 1)) := by
        rw [show 5 - K + (i + 1) = 5 - K + i + 1 by omega]
        exact fr_val_up hv (by omega) hg0
      refine fr_yad1 (b := fun q => c (5 - K + q)) (g := c (5 - K + i)) hn hF hi hK hgm (fun q hq => hcz q (by omega)) (hcz i hi) (Nat.le_of_lt (fr_cd_lt hgm2)) (fr_cd_mono hlt hgm2) (fun hr => ⟨fr_cd_mono ?_ hgm2, S1 hr⟩) S0
      have := hI (i + 1) (by omega) (by omega)
      omega
end FRY3
end
section
section FRY4
variable {n : Nat} {e : Nat → Nat} {ft fz : Int32} {fi cz : Nat → Int32}
/-! the first list of K sets -/
def fr_c0 (K p : Nat) : Nat := if p + K < 5 then 0 else p + K - 4
theorem fr_c0_val {m K : Nat} (h1 : 1 ≤ K) (h5 : K ≤ 5) (hm : K ≤ m) : fr_val m (fr_c0 K) := by
  unfold fr_val
  rcases (show K = 1 ∨ K = 2 ∨ K = 3 ∨ K = 4 ∨ K = 5 by omega) with rfl | rfl | rfl | rfl | rfl
  · show (0 = 0 ∨ 0 < 0) ∧ (0 = 0 ∨ 0 < 0) ∧ (0 = 0 ∨ 0 < 0) ∧ (0 = 0 ∨ 0 < 1) ∧ 1 ≤ m
    omega
  · show (0 = 0 ∨ 0 < 0) ∧ (0 = 0 ∨ 0 < 0) ∧ (0 = 0 ∨ 0 < 1) ∧ (1 = 0 ∨ 1 < 2) ∧ 2 ≤ m
    omega
  · show (0 = 0 ∨ 0 < 0) ∧ (0 = 0 ∨ 0 < 1) ∧ (1 = 0 ∨ 1 < 2) ∧ (2 = 0 ∨ 2 < 3) ∧ 3 ≤ m
    omega
  · show (0 = 0 ∨ 0 < 1) ∧ (1 = 0 ∨ 1 < 2) ∧ (2 = 0 ∨ 2 < 3) ∧ (3 = 0 ∨ 3 < 4) ∧ 4 ≤ m
    omega
  · show (1 = 0 ∨ 1 < 2) ∧ (2 = 0 ∨ 2 < 3) ∧ (3 = 0 ∨ 3 < 4) ∧ (4 = 0 ∨ 4 < 5) ∧ 5 ≤ m
    omega
theorem fr_c0_le {m K : Nat} {t : Nat → Nat} (h1 : 1 ≤ K) (h5 : K ≤ 5) (hv : fr_val m t) (ht : t (5 - K) ≠ 0) : fr_le (fr_c0 K) t := by
  obtain ⟨_, _, _, _, _, r0, r1, r2, r3⟩ := fr_val_b hv
  unfold fr_le
  rcases (show K = 1 ∨ K = 2 ∨ K = 3 ∨ K = 4 ∨ K = 5 by omega) with rfl | rfl | rfl | rfl | rfl
  · have ht' : t 4 ≠ 0 := ht
    show 0 < t 0 ∨ (0 = t 0 ∧ (0 < t 1 ∨ (0 = t 1 ∧ (0 < t 2 ∨ (0 = t 2 ∧ (0 < t 3 ∨ (0 = t 3 ∧ 1 ≤ t 4)))))))
    omega
  · have ht' : t 3 ≠ 0 := ht
    show 0 < t 0 ∨ (0 = t 0 ∧ (0 < t 1 ∨ (0 = t 1 ∧ (0 < t 2 ∨ (0 = t 2 ∧ (1 < t 3 ∨ (1 = t 3 ∧ 2 ≤ t 4)))))))
    omega
  · have ht' : t 2 ≠ 0 := ht
    show 0 < t 0 ∨ (0 = t 0 ∧ (0 < t 1 ∨ (0 = t 1 ∧ (1 < t 2 ∨ (1 = t 2 ∧ (2 < t 3 ∨ (2 = t 3 ∧ 3 ≤ t 4)))))))
    omega
  · have ht' : t 1 ≠ 0 := ht
    show 0 < t 0 ∨ (0 = t 0 ∧ (1 < t 1 ∨ (1 = t 1 ∧ (2 < t 2 ∨ (2 = t 2 ∧ (3 < t 3 ∨ (3 = t 3 ∧ 4 ≤ t 4)))))))
    omega
  · have ht' : t 0 ≠ 0 := ht
    show 1 < t 0 ∨ (1 = t 0 ∧ (2 < t 1 ∨ (2 = t 1 ∧ (3 < t 2 ∨ (3 = t 2 ∧ (4 < t 3 ∨ (4 = t 3 ∧ 5 ≤ t 4)))))))
    omega
def fr_zs (m K : Nat) : Nat := (if K < 5 then fr_ch m 5 else 0) + (if K < 4 then fr_ch m 4 else 0) + (if K < 3 then fr_ch m 3 else 0) + (if K < 2 then fr_ch m 2 else 0)
theorem fr_zs_le {m K : Nat} {c : Nat → Nat} (h1 : 1 ≤ K) (h5 : K ≤ 5) (hc : ∀ p, p < 5 - K → c p = 0) : fr_zs m K ≤ fr_rem m c := by
  unfold fr_rem
  rcases (show K = 1 ∨ K = 2 ∨ K = 3 ∨ K = 4 ∨ K = 5 by omega) with rfl | rfl | rfl | rfl | rfl
  · rw [hc 0 (by omega), hc 1 (by omega), hc 2 (by omega), hc 3 (by omega), Nat.sub_zero]
    show fr_ch m 5 + fr_ch m 4 + fr_ch m 3 + fr_ch m 2 ≤ _
    omega
  · rw [hc 0 (by omega), hc 1 (by omega), hc 2 (by omega), Nat.sub_zero]
    show fr_ch m 5 + fr_ch m 4 + fr_ch m 3 + 0 ≤ _
    omega
  · rw [hc 0 (by omega), hc 1 (by omega), Nat.sub_zero]
    show fr_ch m 5 + fr_ch m 4 + 0 + 0 ≤ _
    omega
  · rw [hc 0 (by omega), Nat.sub_zero]
    show fr_ch m 5 + 0 + 0 + 0 ≤ _
    omega
  · exact Nat.zero_le _
theorem fr_zs_0 {m K : Nat} (h1 : 1 ≤ K) (h5 : K ≤ 5) (hKm : K ≤ m) (hm : m ≤ 31) : fr_rem m (fr_c0 K) + 1 ≤ fr_zs m K + 169911 := by
  obtain ⟨a1, a2, a3, a4, a5⟩ := fr_ch31
  rcases (show K = 1 ∨ K = 2 ∨ K = 3 ∨ K = 4 ∨ K = 5 by omega) with rfl | rfl | rfl | rfl | rfl
  · have b := fr_ch_le 1 hm
    have p := fr_p1 hKm
    show fr_ch m 5 + fr_ch m 4 + fr_ch m 3 + fr_ch m 2 + fr_ch (m - 1) 1 + 1 ≤ fr_ch m 5 + fr_ch m 4 + fr_ch m 3 + fr_ch m 2 + 169911
    omega
  · have b := fr_ch_le 2 hm
    have p := fr_p2 hKm
    show fr_ch m 5 + fr_ch m 4 + fr_ch m 3 + fr_ch (m - 1) 2 + fr_ch (m - 2) 1 + 1 ≤ fr_ch m 5 + fr_ch m 4 + fr_ch m 3 + 0 + 169911
    omega
  · have b := fr_ch_le 3 hm
    have p := fr_p3 hKm
    show fr_ch m 5 + fr_ch m 4 + fr_ch (m - 1) 3 + fr_ch (m - 2) 2 + fr_ch (m - 3) 1 + 1 ≤ fr_ch m 5 + fr_ch m 4 + 0 + 0 + 169911
    omega
  · have b := fr_ch_le 4 hm
    have p := fr_p4 hKm
    show fr_ch m 5 + fr_ch (m - 1) 4 + fr_ch (m - 2) 3 + fr_ch (m - 3) 2 + fr_ch (m - 4) 1 + 1 ≤ fr_ch m 5 + 0 + 0 + 0 + 169911
    omega
  · have b := fr_ch_le 5 hm
    have p := fr_p5 hKm
    show fr_ch (m - 1) 5 + fr_ch (m - 2) 4 + fr_ch (m - 3) 3 + fr_ch (m - 4) 2 + fr_ch (m - 5) 1 + 1 ≤ 0 + 0 + 0 + 0 + 169911
    omega
theorem fr_lt_cov {c t : Nat → Nat} (hle : fr_le c t) (ht : fr_ok e n t) (h : ¬ fr_cov e n (fr_mem e n c)) : fr_lt c t := by
  refine fr_le_lt hle ?_
  rintro ⟨q0, q1, q2, q3, q4⟩
  apply h
  have : ∀ d, fr_mem e n c d ↔ fr_mem e n t d := by
    intro d
    have K : ∀ q, q < 5 → c q = t q := by
      intro q hq5
      rcases (show q = 0 ∨ q = 1 ∨ q = 2 ∨ q = 3 ∨ q = 4 by omega) with rfl | rfl | rfl | rfl | rfl <;> assumption
    constructor
    · rintro ⟨hd, q, hq5, hx⟩
      exact ⟨hd, q, hq5, by rw [← K q hq5]; exact hx⟩
    · rintro ⟨hd, q, hq5, hx⟩
      exact ⟨hd, q, hq5, by rw [K q hq5]; exact hx⟩
  rw [fr_cov_eq this]
  exact ht.2
/-- behind the last list of K sets come those with more -/
theorem fr_end {m K : Nat} {c t : Nat → Nat} (h1 : 1 ≤ K) (h5 : K ≤ 5) (hv : fr_val m t) (hlt : fr_lt c t) (hc : ∀ p, p < 5 - K → c p = 0) (hx : ∀ p, 5 - K ≤ p → p < 5 → m ≤ c p + (4 - p)) : K < 5 ∧ t (4 - K) ≠ 0 := by
  obtain ⟨b0, b1, b2, b3, b4, r0, r1, r2, r3⟩ := fr_val_b hv
  unfold fr_lt at hlt
  rcases (show K = 1 ∨ K = 2 ∨ K = 3 ∨ K = 4 ∨ K = 5 by omega) with rfl | rfl | rfl | rfl | rfl
  · have x4 := hx 4 (by omega) (by omega)
    refine ⟨by omega, ?_⟩
    show t 3 ≠ 0
    have c0 := hc 0 (by omega)
    have c1 := hc 1 (by omega)
    have c2 := hc 2 (by omega)
    have c3 := hc 3 (by omega)
    omega
  · have x4 := hx 4 (by omega) (by omega)
    have x3 := hx 3 (by omega) (by omega)
    refine ⟨by omega, ?_⟩
    show t 2 ≠ 0
    have c0 := hc 0 (by omega)
    have c1 := hc 1 (by omega)
    have c2 := hc 2 (by omega)
    omega
  · have x4 := hx 4 (by omega) (by omega)
    have x3 := hx 3 (by omega) (by omega)
    have x2 := hx 2 (by omega) (by omega)
    refine ⟨by omega, ?_⟩
    show t 1 ≠ 0
    have c0 := hc 0 (by omega)
    have c1 := hc 1 (by omega)
    omega
  · have x4 := hx 4 (by omega) (by omega)
    have x3 := hx 3 (by omega) (by omega)
    have x2 := hx 2 (by omega) (by omega)
    have x1 := hx 1 (by omega) (by omega)
    refine ⟨by omega, ?_⟩
    show t 0 ≠ 0
    have c0 := hc 0 (by omega)
    omega
  · have x4 := hx 4 (by omega) (by omega)
    have x3 := hx 3 (by omega) (by omega)
    have x2 := hx 2 (by omega) (by omega)
    have x1 := hx 1 (by omega) (by omega)
    have x0 := hx 0 (by omega) (by omega)
    exfalso
    omega
theorem fr_nz_K {m K : Nat} {c : Nat → Nat} (h1 : 1 ≤ K) (h5 : K ≤ 5) (hv : fr_val m c) (hc : ∀ p, p < 5 - K → c p = 0) (hnz : ∀ p, 5 - K ≤ p → p < 5 → c p ≠ 0) : fr_nz c 5 = K := by
  have hz := fr_nz_le c 5
  have a := fr_nz_v hv
  have a1 : ¬ (5 - K + fr_nz c 5 < 5) := fun z => hnz (5 - K) (Nat.le_refl _) (by omega) ((a (5 - K) (by omega)).mpr z)
  by_cases hK : K = 5
  · omega
  · have a2 := (a (4 - K) (by omega)).mp (hc (4 - K) (by omega))
    omega
theorem fr_mem_K {K : Nat} {c : Nat → Nat} (h5 : K ≤ 5) (hc : ∀ p, p < 5 - K → c p = 0) (d : Nat) : fr_lm K (fun q => fr_cd e n (c (5 - K + q))) d ↔ fr_mem e n c d := by
  constructor
  · rintro ⟨hd, q, hq, hx⟩
    exact ⟨hd, 5 - K + q, by omega, hx⟩
  · rintro ⟨hd, p, hp, hx⟩
    by_cases hpK : p < 5 - K
    · rw [hc p hpK, fr_cd_0] at hx
      exact absurd hx.symm hd
    · refine ⟨hd, p - (5 - K), by omega, ?_⟩
      show fr_cd e n (c (5 - K + (p - (5 - K)))) = d
      rw [show 5 - K + (p - (5 - K)) = p by omega]
      exact hx
theorem fr_cd_one (e : Nat → Nat) {n : Nat} (hn2 : 2 ≤ n) : fr_cd e n 1 = 1 := by
  have h1 : fr_cs e n 1 = true := fr_cs_1 e n 0
  have hp4 := fr_2n4 hn2
  have h2 := (fr_cd_ct (e := e) (n := n) (d := 1) (by omega) (by omega) h1).2.2
  have h3 : fr_ct e n 1 = 1 := by
    rw [fr_ct_s, if_pos h1]
    rfl
  rw [h3] at h2
  exact h2
theorem fr_ypl0 {post : SY → Prop} {K : Nat} (hn2 : 2 ≤ n) (hn : n ≤ 5) (hF : fr_F n e fi 64) (hK1 : 1 ≤ K) (hK : K ≤ 5) (hKm : K ≤ fr_m e n) (h : ∀ cz', (∀ q, q < K → cz' q = nI (fr_cd e n (fr_c0 K (5 - K + q)))) → post ((nI n), ft, (nI K), (fun i => nI (e i)), fi, cz')) : wpY_place post ((nI n), ft, (nI K), (fun i => nI (e i)), fi, cz) 0 1 := by
  have H := fr_ypl (post := post) (ft := ft) (cz := cz) (K := K) (i := 0) (g := 1) (b := fun _ => 0) hn hF (by omega) hK (by omega) (by omega) (fun q hq => absurd hq (Nat.not_lt_zero q)) (fun cz' hcz' => h cz' (fun q hq => by
    rw [hcz' q hq, if_neg (Nat.not_lt_zero q)]
    unfold fr_c0
    rw [if_neg (by omega)]
    exact congrArg (fun x => nI (fr_cd e n x)) (by omega)))
  rw [fr_cd_one e hn2] at H
  exact H
theorem fr_ybe43 {post : SY → Prop} {J6 : Int32 → Int32 → Int32 → Int32 → (Nat → Int32) → (Nat → Int32) → (Nat → Int32) → Prop} {K : Nat} (hn2 : 2 ≤ n) (hn : n ≤ 5) (he : ∀ i, e i < 3 * (n + 1)) (hF : fr_F n e fi 64) (hK1 : 1 ≤ K) (hKn : K ≤ n) (hKm : K ≤ fr_m e n) (hok : ∀ t, fr_ok e n t → t (5 - K) ≠ 0)
    (hcz : ∀ q, q < K → cz q = nI (fr_cd e n (fr_c0 K (5 - K + q))))
    (h : ∀ cz' c, fr_best e n c → (∀ q, q < fr_nz c 5 → cz' q = nI (fr_cd e n (c (5 - fr_nz c 5 + q)))) → post ((nI n), ft, (nI (fr_nz c 5)), (fun i => nI (e i)), fi, cz'))
    (hJ : ∀ cz', K < n → (∀ t, fr_ok e n t → t (4 - K) ≠ 0) → J6 (nI (K + 1)) (nI n) ft (nI K) (fun i => nI (e i)) fi cz') : ∃ N, wY_best_43 post J6 (nI K) N 1 0 (nI n) ft (nI K) (fun i => nI (e i)) fi cz := by
  have hp := fr_2n hn
  have hm := fr_m_lt e n
  refine loop_m (fun N (z : Int32 × Nat × (Nat → Int32)) => wY_best_43 post J6 (nI K) N z.1 (nI z.2.1) (nI n) ft (nI K) (fun i => nI (e i)) fi z.2.2) (fun z => z.2.1 ≤ 200000 ∧ ((z.1 = 1 ∧ ∃ c, fr_val (fr_m e n) c ∧ (∀ p, p < 5 - K → c p = 0) ∧ (∀ p, 5 - K ≤ p → p < 5 → c p ≠ 0) ∧ (∀ q, q < K → z.2.2 q = nI (fr_cd e n (c (5 - K + q)))) ∧ (∀ t, fr_ok e n t → fr_le c t) ∧ z.2.1 + fr_rem (fr_m e n) c + 1 ≤ fr_zs (fr_m e n) K + 169911) ∨ (z.1 = 0 ∧ K < n ∧ ∀ t, fr_ok e n t → t (4 - K) ≠ 0))) (fun z => 200000 - z.2.1) ?_ (1, 0, cz) ?_
  · rintro N ⟨mo, rd, cz⟩ ⟨hrd, hz⟩ hk
    dsimp only at hrd hz
    rcases hz with ⟨rfl, c, hv, hc0, hnz, hcz, hle, hrem⟩ | ⟨rfl, hKn2, hok2⟩
    · have hzl := fr_zs_le (m := fr_m e n) hK1 (by omega) hc0
      have hrd2 : rd < 200000 := by omega
      refine br_f (nI_ge (b := 200000) hrd2 (by omega)) (br_f (show ¬ (1 : Int32) = 0 by decide) ?_)
      refine fr_yco (L := fun q => fr_cd e n (c (5 - K + q))) hn he hF (by omega) (by omega) hcz (fun q hq => fr_cd_lt (fr_val_m hv (by omega))) (fun hcov => ?_) (fun hcov => ?_)
      · rw [fr_cov_eq (fr_mem_K (by omega) hc0)] at hcov
        refine br_f (by decide) ?_
        have hz := fr_nz_K hK1 (by omega) hv hc0 hnz
        have := h cz c ⟨⟨hv, hcov⟩, hle⟩ (by rw [hz]; exact hcz)
        rw [hz] at this
        exact this
      · rw [fr_cov_eq (fr_mem_K (by omega) hc0)] at hcov
        have hlt : ∀ t, fr_ok e n t → fr_lt c t := fun t ht => fr_lt_cov (hle t ht) ht hcov
        refine br_t rfl ?_
        refine fr_yad hn hF (by omega) (by omega) hv hnz hcz ?_ ?_
        · intro p hp1 hp2 hr hq cz' hcz'
          have hr2 := fr_rem_lt hp2 hr
          refine nm_r (nI_1 rd) (hk (1, rd + 1, cz') ⟨show rd + 1 ≤ 200000 by omega, Or.inl ⟨rfl, fr_nt c p, fr_val_nt hv hp2 hr, ?_, ?_, hcz', fun t ht => fr_nt_le ht.1 (hlt t ht) hp2 hr hq, ?_⟩⟩ ?_)
          · intro q hq5
            unfold fr_nt
            rw [if_pos (by omega)]
            exact hc0 q hq5
          · intro q hq1 hq2
            unfold fr_nt
            by_cases hqp : q < p
            · rw [if_pos hqp]
              exact hnz q hq1 hq2
            · rw [if_neg hqp]
              omega
          · show rd + 1 + fr_rem (fr_m e n) (fr_nt c p) + 1 ≤ _
            omega
          · show 200000 - (rd + 1) < 200000 - rd
            omega
        · intro hx
          have hE : ∀ t, fr_ok e n t → K < 5 ∧ t (4 - K) ≠ 0 := fun t ht => fr_end hK1 (by omega) ht.1 (hlt t ht) hc0 hx
          have hKn2 : K < n := by
            obtain ⟨z1, z2⟩ := hE _ (fr_si_ok he hn2 hn)
            unfold fr_si at z2
            by_cases hy : 4 - K + n < 5
            · rw [if_pos hy] at z2
              exact absurd rfl z2
            · omega
          refine nm_r (nI_1 rd) (hk (0, rd + 1, cz) ⟨show rd + 1 ≤ 200000 by omega, Or.inr ⟨rfl, hKn2, fun t ht => (hE t ht).2⟩⟩ ?_)
          show 200000 - (rd + 1) < 200000 - rd
          omega
    · have hJ' := hJ cz hKn2 hok2
      exact pk_le 200000 rd (fun _ => nm_r (nI_1 K) hJ') (fun _ => br_t (show (0 : Int32) = 0 from rfl) (nm_r (nI_1 K) hJ'))
  · refine ⟨Nat.zero_le _, Or.inl ⟨rfl, fr_c0 K, fr_c0_val hK1 (by omega) hKm, ?_, ?_, hcz, fun t ht => fr_c0_le hK1 (by omega) ht.1 (hok t ht), ?_⟩⟩
    · intro p hp5
      unfold fr_c0
      rw [if_pos (by omega)]
    · intro p hp1 hp2
      unfold fr_c0
      rw [if_neg (by omega)]
      omega
    · show 0 + fr_rem (fr_m e n) (fr_c0 K) + 1 ≤ _
      have := fr_zs_0 (m := fr_m e n) hK1 (by omega) hKm (by omega)
      omega
theorem fr_ybe {post : SY → Prop} (hn2 : 2 ≤ n) (hn : n ≤ 5) (he : ∀ i, e i < 3 * (n + 1)) (h : ∀ fi' cz' c, fr_best e n c → (∀ q, q < fr_nz c 5 → cz' q = nI (fr_cd e n (c (5 - fr_nz c 5 + q)))) → post ((nI n), ft, (nI (fr_nz c 5)), (fun i => nI (e i)), fi', cz')) : wpY_best post ((nI n), ft, fz, (fun i => nI (e i)), fi, cz) := by
  have hp := fr_2n hn
  have hm := fr_m_lt e n
  have hsi := fr_si_ok he hn2 hn
  unfold wpY_best
  dsimp only
  refine fr_yta hn2 hn he (fun fi' hF => ?_)
  refine pk_loop (fun N K (z : Int32 × (Nat → Int32)) => wY_best_6 post N (nI K) (nI n) ft z.1 (fun i => nI (e i)) fi' z.2) (fun K _ => 1 ≤ K ∧ K ≤ n ∧ ∀ t, fr_ok e n t → t (5 - K) ≠ 0) (n + 1) 1 (fz, cz) (by omega) ⟨Nat.le_refl 1, by omega, fun t ht => fr_ok_4 (by omega) ht⟩ ?_ ?_
  · rintro N z ⟨_, hx, _⟩
    omega
  · rintro N K ⟨fz, cz⟩ _ ⟨hK1, hKn, hok⟩ hk
    have hKm : K ≤ fr_m e n := by
      have h1 := hok _ hsi
      obtain ⟨b0, b1, b2, b3, b4, _⟩ := fr_val_b hsi.1
      rcases (show K = 1 ∨ K = 2 ∨ K = 3 ∨ K = 4 ∨ K = 5 by omega) with rfl | rfl | rfl | rfl | rfl
      · have h1' : fr_si e n 4 ≠ 0 := h1
        omega
      · have h1' : fr_si e n 3 ≠ 0 := h1
        omega
      · have h1' : fr_si e n 2 ≠ 0 := h1
        omega
      · have h1' : fr_si e n 1 ≠ 0 := h1
        omega
      · have h1' : fr_si e n 0 ≠ 0 := h1
        omega
    refine br_f (nI_nlt hKn (by omega)) (br_f (nI_nlt (a := 5) (by omega) (by omega)) ?_)
    refine fr_yro (c := 0) (w := K) hn hF (Nat.two_pow_pos n) (by omega) (fun _ => ?_) (fun hx => ?_)
    · refine br_f (by decide) ?_
      refine fr_ypl0 hn2 hn hF hK1 (by omega) hKm (fun cz' hcz' => ?_)
      refine fr_ybe43 hn2 hn he hF hK1 hKn hKm hok hcz' (fun cz2 c hb hc => h fi' cz2 c hb hc) (fun cz2 hKn2 hok2 => ?_)
      exact hk (nI K, cz2) ⟨by omega, by omega, fun t ht => by
        have := hok2 t ht
        rw [show 4 - K = 5 - (K + 1) by omega] at this
        exact this⟩
    · exact absurd (show K + 0 ≤ fr_m e n by omega) hx
/-! isCover -/
def fr_dl (k x : Nat) : Nat := if k < x then 1 else 0
theorem fr_dl_le (k x : Nat) : fr_dl k x ≤ 1 ∧ fr_dl (k + 1) x ≤ fr_dl k x := by
  unfold fr_dl
  by_cases h : k + 1 < x
  · rw [if_pos h, if_pos (by omega)]; omega
  · rw [if_neg h]
    by_cases h2 : k < x
    · rw [if_pos h2]; omega
    · rw [if_neg h2]; omega
theorem fr_dl_eq {k x : Nat} (h : k + 1 = x) : fr_dl k x = 1 ∧ fr_dl (k + 1) x = 0 := ⟨if_pos (by omega), if_neg (by omega)⟩
theorem fr_yic {post : Int32 → SY → Prop} {a b c : Nat} (hn2 : 2 ≤ n) (hn : n ≤ 5) (he : ∀ i, e i < 3 * (n + 1)) (ha : a < 2 ^ n) (hb : b < 2 ^ n) (hc : c < 2 ^ n) (hnz : ¬ (a = 0 ∧ b = 0 ∧ c = 0)) (h1 : ∀ fz' fi' cz', fr_cov e n (fun d => d ≠ 0 ∧ (d = a ∨ d = b ∨ d = c)) → post 1 ((nI n), ft, fz', (fun i => nI (e i)), fi', cz')) (h0 : ∀ fz' fi' cz', ¬ fr_cov e n (fun d => d ≠ 0 ∧ (d = a ∨ d = b ∨ d = c)) → post 0 ((nI n), ft, fz', (fun i => nI (e i)), fi', cz')) : wY_isCover_40 post (nI a) (nI b) (nI c) (nI n) ft fz (fun i => nI (e i)) fi cz := by
  have hp := fr_2n hn
  have hp4 := fr_2n4 hn2
  unfold wY_isCover_40
  refine fr_yta hn2 hn he (fun fi' hF => ?_)
  refine pk_loop (fun N k (z : Int32 × (Nat → Int32)) => wY_isCover_52 post (nI a) (nI b) (nI c) (nI n) ft N (nI (k + 1)) z.1 (fun i => nI (e i)) fi' z.2) (fun k z => ∃ (K : Nat) (L : Nat → Nat), z.1 = nI K ∧ (∀ p, p < K → z.2 p = nI (L p)) ∧ (∀ d, (∃ p, p < K ∧ L p = d) ↔ 1 ≤ d ∧ d ≤ k ∧ (d = a ∨ d = b ∨ d = c)) ∧ K + fr_dl k a + fr_dl k b + fr_dl k c ≤ 3) (2 ^ n - 1) 0 (0, cz) (by omega) ?_ ?_ ?_
  · have d1 := (fr_dl_le 0 a).1
    have d2 := (fr_dl_le 0 b).1
    have d3 := (fr_dl_le 0 c).1
    refine ⟨0, fun _ => 0, rfl, fun p hp => absurd hp (Nat.not_lt_zero p), fun d => ⟨?_, ?_⟩, by omega⟩
    · rintro ⟨p, hp, _⟩
      exact absurd hp (Nat.not_lt_zero p)
    · rintro ⟨z1, z2, _⟩
      omega
  · rintro N ⟨z, cz⟩ ⟨K, L, hz, hL, hM, hK⟩
    dsimp only at hz hL
    subst hz
    refine br_t (fr_c_t hn) ?_
    have hK0 : 0 < K := by
      have : ∃ d, 1 ≤ d ∧ d ≤ 2 ^ n - 1 ∧ (d = a ∨ d = b ∨ d = c) := by
        by_cases ha0 : a = 0
        · by_cases hb0 : b = 0
          · by_cases hc0 : c = 0
            · exact absurd ⟨ha0, hb0, hc0⟩ hnz
            · exact ⟨c, by omega, by omega, Or.inr (Or.inr rfl)⟩
          · exact ⟨b, by omega, by omega, Or.inr (Or.inl rfl)⟩
        · exact ⟨a, by omega, by omega, Or.inl rfl⟩
      obtain ⟨d, hd⟩ := this
      obtain ⟨p, hp, _⟩ := (hM d).mpr hd
      omega
    have hE : ∀ d, fr_lm K L d ↔ (d ≠ 0 ∧ (d = a ∨ d = b ∨ d = c)) := by
      intro d
      constructor
      · rintro ⟨hd, hx⟩
        exact ⟨hd, ((hM d).mp hx).2.2⟩
      · rintro ⟨hd, hx⟩
        refine ⟨hd, (hM d).mpr ⟨by omega, ?_, hx⟩⟩
        rcases hx with rfl | rfl | rfl <;> omega
    have hcov := fr_cov_eq (e := e) (n := n) hE
    refine fr_yco (L := L) hn he hF hK0 (by omega) hL (fun p hp => ?_) (fun hx => ?_) (fun hx => ?_)
    · have := ((hM (L p)).mp ⟨p, hp, rfl⟩).2.1
      omega
    · exact br_f (by decide) (h1 _ _ _ (hcov.mp hx))
    · exact br_t rfl (h0 _ _ _ (fun z => hx (hcov.mpr z)))
  · rintro N k ⟨z, cz⟩ hk1 ⟨K, L, hz, hL, hM, hK⟩ hk
    dsimp only at hz hL
    subst hz
    refine br_f (fr_c_f hn (by omega)) ?_
    have d1 := fr_dl_le k a
    have d2 := fr_dl_le k b
    have d3 := fr_dl_le k c
    have hin : (k + 1 = a ∨ k + 1 = b ∨ k + 1 = c) → wY_isCover_81 post (wY_isCover_52 post (nI a) (nI b) (nI c) (nI n) ft N) (nI a) (nI b) (nI c) (nI (k + 1)) (nI n) ft (nI K) (fun i => nI (e i)) fi' cz := by
      intro hx
      have hK4 : K + 1 + fr_dl (k + 1) a + fr_dl (k + 1) b + fr_dl (k + 1) c ≤ 3 := by
        rcases hx with hx | hx | hx <;> have q := fr_dl_eq hx <;> omega
      refine br_f (nI_ge (b := 5) (by omega) (by omega)) ⟨vp_in_nI (by omega) (by omega), ?_⟩
      rw [nI_clamp (by omega)]
      refine nm_e (nm_r (nI_1 K) (nm_r (nI_1 (k + 1)) (hk (nI (K + 1), upd cz K (nI (k + 1))) ⟨K + 1, fun p => if p = K then k + 1 else L p, rfl, fun p hp => ?_, fun d => ?_, hK4⟩)))
      · dsimp only
        by_cases hpK : p = K
        · subst hpK
          rw [pk_us, if_pos rfl]
        · rw [pk_un hpK, if_neg hpK]
          exact hL p (by omega)
      · dsimp only
        constructor
        · rintro ⟨p, hp, hd⟩
          by_cases hpK : p = K
          · rw [if_pos hpK] at hd
            subst hd
            exact ⟨by omega, by omega, hx⟩
          · rw [if_neg hpK] at hd
            obtain ⟨z1, z2, z3⟩ := (hM d).mp ⟨p, by omega, hd⟩
            exact ⟨z1, by omega, z3⟩
        · rintro ⟨z1, z2, z3⟩
          by_cases hdk : d = k + 1
          · exact ⟨K, by omega, by rw [if_pos rfl]; exact hdk.symm⟩
          · obtain ⟨p, hp, hd⟩ := (hM d).mpr ⟨z1, by omega, z3⟩
            exact ⟨p, by omega, by rw [if_neg (by omega)]; exact hd⟩
    refine pk_eq (k + 1) a (fun hx => hin (Or.inl hx)) (fun hx1 => ?_)
    refine pk_eq (k + 1) b (fun hx => hin (Or.inr (Or.inl hx))) (fun hx2 => ?_)
    refine pk_eq (k + 1) c (fun hx => hin (Or.inr (Or.inr hx))) (fun hx3 => ?_)
    refine nm_r (nI_1 (k + 1)) (hk (nI K, cz) ⟨K, L, rfl, hL, fun d => ?_, ?_⟩)
    · rw [hM d]
      constructor
      · rintro ⟨z1, z2, z3⟩
        exact ⟨z1, by omega, z3⟩
      · rintro ⟨z1, z2, z3⟩
        refine ⟨z1, ?_, z3⟩
        rcases z3 with z3 | z3 | z3 <;> omega
    · omega
end FRY4
end
section
section FRQ
variable {n : Nat} {e : Nat → Nat} {fc fm fo fr : Int32} {sl sw im ic cd mx ch cv ak : Nat → Int32} {ft fz : Int32} {fi cz : Nat → Int32}
theorem fr_xsb {post : Int32 → Prop} {x : Int32} (h : x < 0 ∨ nI n ≤ x) (hp : post 0) : wpX_isState post ((nI n), (nI (2 ^ n - 1)), fc, fm, fo, fr, (fun i => nI (e i)), sl, sw, im, ic, cd, mx, ch, cv, ak) x := by
  unfold wpX_isState
  dsimp only
  by_cases h1 : x < 0
  · exact br_t h1 hp
  · exact br_f h1 (br_t (h.resolve_left h1) hp)
theorem fr_xsg {post : Int32 → Prop} {j : Nat} (hn : n ≤ 5) (h : j < n) (hp : post 1) : wpX_isState post ((nI n), (nI (2 ^ n - 1)), fc, fm, fo, fr, (fun i => nI (e i)), sl, sw, im, ic, cd, mx, ch, cv, ak) (nI j) := by
  unfold wpX_isState
  dsimp only
  exact br_f (nI_pos (by omega)) (br_f (nI_ge h (by omega)) hp)
theorem fr_ysb {post : Int32 → Prop} {x : Int32} (h : x < 0 ∨ nI n ≤ x) (hp : post 1) : wpY_badState post ((nI n), ft, fz, (fun i => nI (e i)), fi, cz) x := by
  unfold wpY_badState
  dsimp only
  by_cases h1 : x < 0
  · exact br_t h1 hp
  · exact br_f h1 (br_t (h.resolve_left h1) hp)
theorem fr_ysg {post : Int32 → Prop} {j : Nat} (hn : n ≤ 5) (h : j < n) (hp : post 0) : wpY_badState post ((nI n), ft, fz, (fun i => nI (e i)), fi, cz) (nI j) := by
  unfold wpY_badState
  dsimp only
  exact br_f (nI_pos (by omega)) (br_f (nI_ge h (by omega)) (br_t (nI_lt (b := 5) (by omega) (by omega)) hp))
theorem fr_xib {post : Int32 → Prop} {x : Int32} (h : x < 0 ∨ nI 2 ≤ x) (hp : post 0) : wpX_isInput post x := by
  have h0 : ¬ x = 0 := by
    rintro rfl
    revert h
    decide
  have h1 : ¬ x = 1 := by
    rintro rfl
    revert h
    decide
  exact br_f h0 (br_f h1 hp)
theorem fr_xig {post : Int32 → Prop} {a : Nat} (h : a < 2) (hp : post 1) : wpX_isInput post (nI a) := by
  rcases (show a = 0 ∨ a = 1 by omega) with rfl | rfl
  · exact br_t rfl hp
  · exact br_f (by decide) (br_t rfl hp)
theorem fr_yib {post : Int32 → Prop} {x : Int32} (h : x < 0 ∨ nI 2 ≤ x) (hp : post 1) : wpY_badInput post ((nI n), ft, fz, (fun i => nI (e i)), fi, cz) x := by
  unfold wpY_badInput
  dsimp only
  by_cases h1 : x < 0
  · exact br_t h1 hp
  · have h2 : ¬ x ≤ 1 := fun z => absurd (Int32.le_trans (h.resolve_left h1) z) (by decide)
    exact br_f h1 (br_f h2 hp)
theorem fr_yig {post : Int32 → Prop} {a : Nat} (h : a < 2) (hp : post 0) : wpY_badInput post ((nI n), ft, fz, (fun i => nI (e i)), fi, cz) (nI a) := by
  unfold wpY_badInput
  dsimp only
  exact br_f (nI_pos (by omega)) (br_t (nI_le (b := 1) (by omega) (by omega)) hp)
theorem fr_lt_le {a b : Nat} {x : Int32} (hb : b < 2 ^ 31) (hab : a < b) (h : nI b ≤ x) : nI a < x := by
  rw [Int32.le_iff_toInt_le, nI_toInt hb] at h
  rw [Int32.lt_iff_toInt_lt, nI_toInt (by omega)]
  omega
theorem fr_sx (x : Int32) {n : Nat} (hn : n ≤ 5) : (x < 1 ∨ nI (2 ^ n) ≤ x) ∨ ∃ c, 1 ≤ c ∧ c < 2 ^ n ∧ x = nI c := by
  have hp := fr_2n hn
  rcases pk_ix x (n := 2 ^ n) (by omega) with h | h | ⟨c, hc, rfl⟩
  · left; left
    rw [Int32.lt_iff_toInt_lt] at h ⊢
    rw [show (0 : Int32).toInt = 0 by decide] at h
    rw [show (1 : Int32).toInt = 1 by decide]
    omega
  · left; right; exact h
  · by_cases h0 : c = 0
    · subst h0
      left; left
      decide
    · right
      exact ⟨c, by omega, hc, rfl⟩
theorem fr_xeb {post : Int32 → Prop} {x : Int32} (hn : n ≤ 5) (h : x < 1 ∨ nI (2 ^ n) ≤ x) (hp : post 0) : wpX_isSet post ((nI n), (nI (2 ^ n - 1)), fc, fm, fo, fr, (fun i => nI (e i)), sl, sw, im, ic, cd, mx, ch, cv, ak) x := by
  have h2 := fr_2n hn
  have := Nat.two_pow_pos n
  unfold wpX_isSet
  dsimp only
  by_cases h1 : x < 1
  · exact br_t h1 hp
  · exact br_f h1 (br_t (fr_lt_le (by omega) (by omega) (h.resolve_left h1)) hp)
theorem fr_xeg {post : Int32 → Prop} {c : Nat} (hn : n ≤ 5) (h0 : 1 ≤ c) (h : c < 2 ^ n) (hp : post 1) : wpX_isSet post ((nI n), (nI (2 ^ n - 1)), fc, fm, fo, fr, (fun i => nI (e i)), sl, sw, im, ic, cd, mx, ch, cv, ak) (nI c) := by
  have h2 := fr_2n hn
  unfold wpX_isSet
  dsimp only
  exact br_f (nI_nlt (b := 1) (by omega) (by omega)) (br_f (nI_nlt (by omega) (by omega)) hp)
theorem fr_yeb {post : Int32 → Prop} {x : Int32} (hn : n ≤ 5) (h : x < 1 ∨ nI (2 ^ n) ≤ x) (hp : post 1) : wpY_badSet post ((nI n), ft, fz, (fun i => nI (e i)), fi, cz) x := by
  unfold wpY_badSet
  dsimp only
  rw [fr_shl (by omega)]
  by_cases h1 : x < 1
  · exact br_t h1 hp
  · exact br_f h1 (br_f (Int32.not_lt.mpr (h.resolve_left h1)) hp)
theorem fr_yeg {post : Int32 → Prop} {c : Nat} (hn : n ≤ 5) (h0 : 1 ≤ c) (h : c < 2 ^ n) (hp : post 0) : wpY_badSet post ((nI n), ft, fz, (fun i => nI (e i)), fi, cz) (nI c) := by
  have h2 := fr_2n hn
  unfold wpY_badSet
  dsimp only
  rw [fr_shl (by omega)]
  exact br_f (nI_nlt (b := 1) (by omega) (by omega)) (br_t (nI_lt h (by omega)) hp)
theorem fr_xzb {post : Int32 → Prop} {x : Int32} (hn : n ≤ 5) (h : x < 0 ∨ nI (2 ^ n) ≤ x) (hp : post 0) : wpX_isSetOrZero post ((nI n), (nI (2 ^ n - 1)), fc, fm, fo, fr, (fun i => nI (e i)), sl, sw, im, ic, cd, mx, ch, cv, ak) x := by
  have h2 := fr_2n hn
  have := Nat.two_pow_pos n
  unfold wpX_isSetOrZero
  dsimp only
  by_cases h1 : x < 0
  · exact br_t h1 hp
  · exact br_f h1 (br_t (fr_lt_le (by omega) (by omega) (h.resolve_left h1)) hp)
theorem fr_xzg {post : Int32 → Prop} {c : Nat} (hn : n ≤ 5) (h : c < 2 ^ n) (hp : post 1) : wpX_isSetOrZero post ((nI n), (nI (2 ^ n - 1)), fc, fm, fo, fr, (fun i => nI (e i)), sl, sw, im, ic, cd, mx, ch, cv, ak) (nI c) := by
  have h2 := fr_2n hn
  unfold wpX_isSetOrZero
  dsimp only
  exact br_f (nI_pos (by omega)) (br_f (nI_nlt (by omega) (by omega)) hp)
theorem fr_yzb {post : Int32 → Prop} {x : Int32} (hn : n ≤ 5) (h : x < 0 ∨ nI (2 ^ n) ≤ x) (hp : post 1) : wpY_outside post ((nI n), ft, fz, (fun i => nI (e i)), fi, cz) x := by
  have h2 := fr_2n hn
  have := Nat.two_pow_pos n
  unfold wpY_outside
  dsimp only
  rw [fr_all1 (by omega)]
  by_cases h1 : x < 0
  · exact br_t h1 hp
  · exact br_f h1 (br_f (Int32.not_le.mpr (fr_lt_le (by omega) (by omega) (h.resolve_left h1))) hp)
theorem fr_yzg {post : Int32 → Prop} {c : Nat} (hn : n ≤ 5) (h : c < 2 ^ n) (hp : post 0) : wpY_outside post ((nI n), ft, fz, (fun i => nI (e i)), fi, cz) (nI c) := by
  have h2 := fr_2n hn
  unfold wpY_outside
  dsimp only
  rw [fr_all1 (by omega)]
  exact br_f (nI_pos (by omega)) (br_t (nI_le (by omega) (by omega)) hp)
/-! the maximal sets in their order -/
theorem fr_mc_sur (e : Nat → Nat) (n : Nat) : ∀ D i, i < fr_mc e n D → ∃ c, c < D ∧ fr_mx e n (c + 1) = true ∧ fr_mc e n c = i := by
  intro D
  induction D with
  | zero => intro i hi; exact absurd hi (Nat.not_lt_zero i)
  | succ D ih =>
    intro i hi
    rw [fr_mc_s] at hi
    by_cases hm : fr_mx e n (D + 1) = true
    · rw [if_pos hm] at hi
      by_cases h : i < fr_mc e n D
      · obtain ⟨c, h1, h2, h3⟩ := ih i h
        exact ⟨c, by omega, h2, h3⟩
      · exact ⟨D, by omega, hm, by omega⟩
    · rw [if_neg hm] at hi
      obtain ⟨c, h1, h2, h3⟩ := ih i hi
      exact ⟨c, by omega, h2, h3⟩
theorem fr_mc_lt {c D : Nat} (h : c < D) (hm : fr_mx e n (c + 1) = true) : fr_mc e n c < fr_mc e n D := by
  have h1 := fr_mc_mono e n (c + 1) (D - (c + 1))
  rw [show c + 1 + (D - (c + 1)) = D by omega, fr_mc_s, if_pos hm] at h1
  omega
theorem fr_mc_inj {c d : Nat} (hc : fr_mx e n (c + 1) = true) (hd : fr_mx e n (d + 1) = true) (h : fr_mc e n c = fr_mc e n d) : c = d := by
  rcases Nat.lt_trichotomy c d with hl | hl | hl
  · have := fr_mc_lt hl hc; omega
  · exact hl
  · have := fr_mc_lt hl hd; omega
theorem fr_best_nz {c c' : Nat → Nat} (h : fr_best e n c) (h' : fr_best e n c') : (∀ p, p < 5 → c p = c' p) ∧ fr_nz c 5 = fr_nz c' 5 := by
  obtain ⟨q0, q1, q2, q3, q4⟩ := fr_best_u h h'
  refine ⟨fun p hp => ?_, ?_⟩
  · rcases (show p = 0 ∨ p = 1 ∨ p = 2 ∨ p = 3 ∨ p = 4 by omega) with rfl | rfl | rfl | rfl | rfl <;> assumption
  · show 0 + (if c 0 = 0 then 0 else 1) + (if c 1 = 0 then 0 else 1) + (if c 2 = 0 then 0 else 1) + (if c 3 = 0 then 0 else 1) + (if c 4 = 0 then 0 else 1) = 0 + (if c' 0 = 0 then 0 else 1) + (if c' 1 = 0 then 0 else 1) + (if c' 2 = 0 then 0 else 1) + (if c' 3 = 0 then 0 else 1) + (if c' 4 = 0 then 0 else 1)
    rw [q0, q1, q2, q3, q4]
/-! the relation -/
def fr_R (n : Nat) (e : Nat → Nat) (fc fm fo fr : Int32) (sl sw im ic cd mx cv ak : Nat → Int32) : Prop := 2 ≤ n ∧ n ≤ 5 ∧ (∀ i, e i < 3 * (n + 1)) ∧ fr_W n e fc fm fo sl sw im ic cd mx cv ∧ ak 3 = 0 ∧ ak 4 = 0 ∧ (fr = -1 ∨ ∃ s, s < n ∧ fr = nI s)
theorem fr_W_0 (hW : fr_W n e fc fm fo sl sw im ic cd mx cv) : im 0 = 0 ∧ im 1 = 0 ∧ cd 0 = 0 := by
  obtain ⟨_, hI, hC, _⟩ := hW
  have hp := Nat.two_pow_pos n
  have h0 := hI 0 0 hp (by omega)
  have h1 := hI 0 1 hp (by omega)
  rw [fr_im_0] at h0 h1
  have h2 := hC.2.1 0 (Nat.zero_le _)
  rw [fr_cd_0] at h2
  exact ⟨h0, h1, h2⟩
end FRQ
end
section
def i_Rel (k : Nat) (u : SX) (v : SY) : Prop := ∃ (n : Nat) (e : Nat → Nat) (fc fm fo fr : Int32) (sl sw im ic cd mx ch cv ak : Nat → Int32) (fz : Int32) (fi cz : Nat → Int32), u = ((nI n), (nI (2 ^ n - 1)), fc, fm, fo, fr, (fun i => nI (e i)), sl, sw, im, ic, cd, mx, ch, cv, ak) ∧ v = ((nI n), fr, fz, (fun i => nI (e i)), fi, cz) ∧ fr_R n e fc fm fo fr sl sw im ic cd mx cv ak
theorem fr_rel (k : Nat) {n : Nat} {e : Nat → Nat} {fc fm fo fr : Int32} {sl sw im ic cd mx ch cv ak : Nat → Int32} {fz : Int32} {fi cz : Nat → Int32} (h : fr_R n e fc fm fo fr sl sw im ic cd mx cv ak) : i_Rel k ((nI n), (nI (2 ^ n - 1)), fc, fm, fo, fr, (fun i => nI (e i)), sl, sw, im, ic, cd, mx, ch, cv, ak) ((nI n), fr, fz, (fun i => nI (e i)), fi, cz) := ⟨n, e, fc, fm, fo, fr, sl, sw, im, ic, cd, mx, ch, cv, ak, fz, fi, cz, rfl, rfl, h⟩
theorem i_up {k : Nat} {u : SX} {v : SY} (h : i_Rel k u v) : i_Rel (k + 4) u v := h
theorem fr_init {post : SX → Prop} {n : Nat} (hn2 : 2 ≤ n) (hn : n ≤ 5) (h : ∀ u, i_Rel 1 u (nI n, 0, 0, (fun _ => 0), (fun _ => 0), (fun _ => 0)) → post u) : wX_init_101 post (nI n) 0 0 0 0 0 0 (fun _ => 0) (fun _ => 0) (fun _ => 0) (fun _ => 0) (fun _ => 0) (fun _ => 0) (fun _ => 0) (fun _ => 0) (fun _ => 0) (fun _ => 0) := by
  unfold wX_init_101
  refine nm_r (fr_all1 (by omega)) ?_
  refine fr_xwo (e := fun _ => 0) hn2 hn (fun i => by omega) rfl rfl rfl (fun fc fm fo sl sw im ic cd mx ch cv hW => ?_)
  exact h _ (fr_rel 1 (e := fun _ => 0) (fr := 0) (ak := fun _ => 0) ⟨hn2, hn, fun i => (show 0 < 3 * (n + 1) by omega), hW, rfl, rfl, Or.inr ⟨0, by omega, rfl⟩⟩)
theorem i_vc0 (k0 : Int32) : wpX_init (fun u => wpY_init (fun v => i_Rel 1 u v) k0) k0 := by
  by_cases h2 : 2 ≤ k0
  · by_cases h5 : k0 ≤ 5
    · have h0 : ¬ k0 < 0 := fun z => absurd (Int32.lt_of_le_of_lt h2 z) (by decide)
      obtain ⟨n, hn, rfl⟩ := nI_of2 (M := 5) (n := 5) (by decide) h0 h5
      have hn2 : 2 ≤ n := (nI_leI (a := 2) (by omega) (by omega)).mp h2
      exact br_t h2 (br_t h5 (fr_init hn2 hn (fun u hu => br_t h2 (br_t h5 hu))))
    · exact br_t h2 (br_f h5 (fr_init (n := 5) (by omega) (by omega) (fun u hu => br_t h2 (br_f h5 hu))))
  · exact br_f h2 (fr_init (n := 2) (by omega) (by omega) (fun u hu => br_f h2 hu))
theorem i_vc_states {k : Nat} {u : SX} {v : SY} (I : i_Rel k u v) (hk : k + 4 ≤ 2049) : wpX_states (fun r => wpY_states (fun r' => r' = r ∧ i_Rel (k + 4) u v) v) u := by
  have J := i_up I
  obtain ⟨n, e, fc, fm, fo, fr, sl, sw, im, ic, cd, mx, ch, cv, ak, fz, fi, cz, rfl, rfl, hR⟩ := I
  exact ⟨rfl, J⟩
theorem i_vc_set {k : Nat} {u : SX} {v : SY} (I : i_Rel k u v) (hk : k + 4 ≤ 2049) (v1 : Int32) (v2 : Int32) (v3 : Int32) : wpX_set (fun r u' => wpY_set (fun r' v' => r' = r ∧ i_Rel (k + 4) u' v') v v1 v2 v3) u v1 v2 v3 := by
  have J := i_up I
  obtain ⟨n, e, fc, fm, fo, fr, sl, sw, im, ic, cd, mx, ch, cv, ak, fz, fi, cz, rfl, rfl, hn2, hn, he, hW, ha3, ha4, hr⟩ := I
  unfold wpX_set
  dsimp only
  rcases (show (v1 < 0 ∨ nI n ≤ v1) ∨ ∃ j, j < n ∧ v1 = nI j by rcases pk_ix v1 (n := n) (by omega) with h | h | h; exact Or.inl (Or.inl h); exact Or.inl (Or.inr h); exact Or.inr h) with hb | ⟨s, hs, rfl⟩
  · refine fr_xsb hb (br_t rfl ?_)
    unfold wpY_set
    dsimp only
    exact fr_ysb hb (br_f (by decide) ⟨rfl, J⟩)
  · refine fr_xsg hn hs (br_f (by decide) ?_)
    rcases (show (v2 < 0 ∨ nI 2 ≤ v2) ∨ ∃ j, j < 2 ∧ v2 = nI j by rcases pk_ix v2 (n := 2) (by omega) with h | h | h; exact Or.inl (Or.inl h); exact Or.inl (Or.inr h); exact Or.inr h) with hb | ⟨a, ha, rfl⟩
    · refine fr_xib hb (br_t rfl ?_)
      unfold wpY_set
      dsimp only
      exact fr_ysg hn hs (br_t rfl (fr_yib hb (br_f (by decide) ⟨rfl, J⟩)))
    · refine fr_xig ha (br_f (by decide) ?_)
      by_cases h0 : v3 < 0
      · refine br_t h0 ?_
        unfold wpY_set
        dsimp only
        exact fr_ysg hn hs (br_t rfl (fr_yig ha (br_t rfl (br_t h0 ⟨rfl, J⟩))))
      · refine br_f h0 ?_
        obtain ⟨w, hw, rfl⟩ := nI_of h0
        have e3 : 3 * (nI n + 1) = nI (3 * (n + 1)) := by
          rw [nI_1]
          exact pk_mul 3 (n + 1)
        have e4 : 3 * (nI n + 1) - 1 = nI (3 * (n + 1) - 1) := by
          rw [e3]
          exact pk_sub (b := 1) (by omega)
        refine pk_lt w (3 * (n + 1)) (fun hlt => ?_) (fun hge => ?_) rfl e3
        · have hin : vp_in (nI (2 * s + a)) 10 := vp_in_nI (by omega) (by omega)
          rw [fr_ix2 s a, nI_clamp (by omega)]
          refine ⟨hin, nm_e ⟨hin, nm_r (fr_upe e (2 * s + a) w) ?_⟩⟩
          obtain ⟨i0, i1, c0⟩ := fr_W_0 hW
          have he' : ∀ i, (fun i => if i = 2 * s + a then w else e i) i < 3 * (n + 1) := by
            intro i
            dsimp only
            split
            · exact hlt
            · exact he i
          refine fr_xwo (e := fun i => if i = 2 * s + a then w else e i) hn2 hn he' i0 i1 c0 (fun fc' fm' fo' sl' sw' im' ic' cd' mx' ch' cv' hW' => ?_)
          unfold wpY_set
          dsimp only
          refine fr_ysg hn hs (br_t rfl (fr_yig ha (br_t rfl (br_f h0 ?_))))
          refine pk_le w (3 * (n + 1) - 1) (fun _ => ?_) (fun hx => absurd hx (by omega)) rfl e4
          rw [fr_ix2' s a, nI_clamp (by omega)]
          refine ⟨hin, nm_e ⟨hin, nm_r (fr_upe e (2 * s + a) w) ⟨rfl, ?_⟩⟩⟩
          exact fr_rel (k + 4) (e := fun i => if i = 2 * s + a then w else e i) (fr := 0) ⟨hn2, hn, he', hW', ha3, ha4, Or.inr ⟨0, by omega, rfl⟩⟩
        · unfold wpY_set
          dsimp only
          refine fr_ysg hn hs (br_t rfl (fr_yig ha (br_t rfl (br_f h0 ?_))))
          exact pk_le w (3 * (n + 1) - 1) (fun hx => absurd hx (by omega)) (fun _ => ⟨rfl, J⟩) rfl e4
theorem i_vc_entry {k : Nat} {u : SX} {v : SY} (I : i_Rel k u v) (hk : k + 4 ≤ 2049) (v1 : Int32) (v2 : Int32) : wpX_entry (fun r => wpY_entry (fun r' => r' = r ∧ i_Rel (k + 4) u v) v v1 v2) u v1 v2 := by
  have J := i_up I
  obtain ⟨n, e, fc, fm, fo, fr, sl, sw, im, ic, cd, mx, ch, cv, ak, fz, fi, cz, rfl, rfl, hn2, hn, he, hW, ha3, ha4, hr⟩ := I
  unfold wpX_entry
  dsimp only
  rcases (show (v1 < 0 ∨ nI n ≤ v1) ∨ ∃ j, j < n ∧ v1 = nI j by rcases pk_ix v1 (n := n) (by omega) with h | h | h; exact Or.inl (Or.inl h); exact Or.inl (Or.inr h); exact Or.inr h) with hb | ⟨s, hs, rfl⟩
  · refine fr_xsb hb (br_t rfl ?_)
    unfold wpY_entry
    dsimp only
    exact fr_ysb hb (br_f (by decide) ⟨rfl, J⟩)
  · refine fr_xsg hn hs (br_f (by decide) ?_)
    rcases (show (v2 < 0 ∨ nI 2 ≤ v2) ∨ ∃ j, j < 2 ∧ v2 = nI j by rcases pk_ix v2 (n := 2) (by omega) with h | h | h; exact Or.inl (Or.inl h); exact Or.inl (Or.inr h); exact Or.inr h) with hb | ⟨a, ha, rfl⟩
    · refine fr_xib hb (br_t rfl ?_)
      unfold wpY_entry
      dsimp only
      exact fr_ysg hn hs (br_t rfl (fr_yib hb (br_f (by decide) ⟨rfl, J⟩)))
    · refine fr_xig ha (br_f (by decide) ?_)
      have hin : vp_in (nI (2 * s + a)) 10 := vp_in_nI (by omega) (by omega)
      rw [fr_ix2 s a, nI_clamp (by omega)]
      refine ⟨hin, ?_⟩
      unfold wpY_entry
      dsimp only
      refine fr_ysg hn hs (br_t rfl (fr_yig ha (br_t rfl ?_)))
      rw [fr_ix2' s a, nI_clamp (by omega)]
      exact ⟨hin, rfl, J⟩
theorem i_vc_compatible {k : Nat} {u : SX} {v : SY} (I : i_Rel k u v) (hk : k + 4 ≤ 2049) (v1 : Int32) (v2 : Int32) : wpX_compatible (fun r => wpY_compatible (fun r' => r' = r ∧ i_Rel (k + 4) u v) v v1 v2) u v1 v2 := by
  have J := i_up I
  obtain ⟨n, e, fc, fm, fo, fr, sl, sw, im, ic, cd, mx, ch, cv, ak, fz, fi, cz, rfl, rfl, hn2, hn, he, hW, ha3, ha4, hr⟩ := I
  unfold wpX_compatible
  dsimp only
  rcases (show (v1 < 0 ∨ nI n ≤ v1) ∨ ∃ j, j < n ∧ v1 = nI j by rcases pk_ix v1 (n := n) (by omega) with h | h | h; exact Or.inl (Or.inl h); exact Or.inl (Or.inr h); exact Or.inr h) with hb | ⟨s, hs, rfl⟩
  · refine fr_xsb hb (br_t rfl ?_)
    unfold wpY_compatible
    dsimp only
    exact fr_ysb hb (br_f (by decide) ⟨rfl, J⟩)
  · refine fr_xsg hn hs (br_f (by decide) ?_)
    rcases (show (v2 < 0 ∨ nI n ≤ v2) ∨ ∃ j, j < n ∧ v2 = nI j by rcases pk_ix v2 (n := n) (by omega) with h | h | h; exact Or.inl (Or.inl h); exact Or.inl (Or.inr h); exact Or.inr h) with hb | ⟨t, ht, rfl⟩
    · refine fr_xsb hb (br_t rfl ?_)
      unfold wpY_compatible
      dsimp only
      exact fr_ysg hn hs (br_t rfl (fr_ysb hb (br_f (by decide) ⟨rfl, J⟩)))
    · refine fr_xsg hn ht (br_f (by decide) ?_)
      have hin : vp_in (nI (5 * s + t)) 25 := vp_in_nI (by omega) (by omega)
      obtain ⟨t1, t2⟩ := hW.1 s t hs ht
      rw [if_neg (Nat.not_lt_zero _)] at t1 t2
      have hl := fr_sl_le e 10 s t
      rw [fr_ix5, nI_clamp (by omega), t1]
      refine ⟨hin, ?_⟩
      refine pk_eq (fr_sl e 10 s t) 0 (fun hz => ?_) (fun hz => ?_)
      · unfold wpY_compatible
        dsimp only
        refine fr_ysg hn hs (br_t rfl (fr_ysg hn ht (br_t rfl (fr_ysh hn2 hn he hs ht ?_))))
        exact pk_eq (fr_sl e 10 s t) 0 (fun _ => ⟨rfl, J⟩) (fun hz2 => absurd hz hz2)
      · unfold wpY_compatible
        dsimp only
        refine fr_ysg hn hs (br_t rfl (fr_ysg hn ht (br_t rfl (fr_ysh hn2 hn he hs ht ?_))))
        exact pk_eq (fr_sl e 10 s t) 0 (fun hz2 => absurd hz2 hz) (fun _ => ⟨rfl, J⟩)
theorem i_vc_splitLength {k : Nat} {u : SX} {v : SY} (I : i_Rel k u v) (hk : k + 4 ≤ 2049) (v1 : Int32) (v2 : Int32) : wpX_splitLength (fun r => wpY_splitLength (fun r' => r' = r ∧ i_Rel (k + 4) u v) v v1 v2) u v1 v2 := by
  have J := i_up I
  obtain ⟨n, e, fc, fm, fo, fr, sl, sw, im, ic, cd, mx, ch, cv, ak, fz, fi, cz, rfl, rfl, hn2, hn, he, hW, ha3, ha4, hr⟩ := I
  unfold wpX_splitLength
  dsimp only
  rcases (show (v1 < 0 ∨ nI n ≤ v1) ∨ ∃ j, j < n ∧ v1 = nI j by rcases pk_ix v1 (n := n) (by omega) with h | h | h; exact Or.inl (Or.inl h); exact Or.inl (Or.inr h); exact Or.inr h) with hb | ⟨s, hs, rfl⟩
  · refine fr_xsb hb (br_t rfl ?_)
    unfold wpY_splitLength
    dsimp only
    exact fr_ysb hb (br_f (by decide) ⟨rfl, J⟩)
  · refine fr_xsg hn hs (br_f (by decide) ?_)
    rcases (show (v2 < 0 ∨ nI n ≤ v2) ∨ ∃ j, j < n ∧ v2 = nI j by rcases pk_ix v2 (n := n) (by omega) with h | h | h; exact Or.inl (Or.inl h); exact Or.inl (Or.inr h); exact Or.inr h) with hb | ⟨t, ht, rfl⟩
    · refine fr_xsb hb (br_t rfl ?_)
      unfold wpY_splitLength
      dsimp only
      exact fr_ysg hn hs (br_t rfl (fr_ysb hb (br_f (by decide) ⟨rfl, J⟩)))
    · refine fr_xsg hn ht (br_f (by decide) ?_)
      have hin : vp_in (nI (5 * s + t)) 25 := vp_in_nI (by omega) (by omega)
      obtain ⟨t1, t2⟩ := hW.1 s t hs ht
      rw [if_neg (Nat.not_lt_zero _)] at t1 t2
      have hl := fr_sl_le e 10 s t
      rw [fr_ix5, nI_clamp (by omega), t1]
      refine ⟨hin, nm_e ?_⟩
      refine pk_eq (fr_sl e 10 s t) 0 (fun hz => ?_) (fun hz => ?_)
      · unfold wpY_splitLength
        dsimp only
        refine fr_ysg hn hs (br_t rfl (fr_ysg hn ht (br_t rfl (fr_ysh hn2 hn he hs ht ?_))))
        exact pk_eq (fr_sl e 10 s t) 0 (fun _ => ⟨rfl, J⟩) (fun hz2 => absurd hz hz2)
      · unfold wpY_splitLength
        dsimp only
        refine fr_ysg hn hs (br_t rfl (fr_ysg hn ht (br_t rfl (fr_ysh hn2 hn he hs ht ?_))))
        exact pk_eq (fr_sl e 10 s t) 0 (fun hz2 => absurd hz2 hz) (fun _ => ⟨rfl, J⟩)
theorem i_vc_splitWord {k : Nat} {u : SX} {v : SY} (I : i_Rel k u v) (hk : k + 4 ≤ 2049) (v1 : Int32) (v2 : Int32) : wpX_splitWord (fun r => wpY_splitWord (fun r' => r' = r ∧ i_Rel (k + 4) u v) v v1 v2) u v1 v2 := by
  have J := i_up I
  obtain ⟨n, e, fc, fm, fo, fr, sl, sw, im, ic, cd, mx, ch, cv, ak, fz, fi, cz, rfl, rfl, hn2, hn, he, hW, ha3, ha4, hr⟩ := I
  unfold wpX_splitWord
  dsimp only
  rcases (show (v1 < 0 ∨ nI n ≤ v1) ∨ ∃ j, j < n ∧ v1 = nI j by rcases pk_ix v1 (n := n) (by omega) with h | h | h; exact Or.inl (Or.inl h); exact Or.inl (Or.inr h); exact Or.inr h) with hb | ⟨s, hs, rfl⟩
  · refine fr_xsb hb (br_t rfl ?_)
    unfold wpY_splitWord
    dsimp only
    exact fr_ysb hb (br_f (by decide) ⟨rfl, J⟩)
  · refine fr_xsg hn hs (br_f (by decide) ?_)
    rcases (show (v2 < 0 ∨ nI n ≤ v2) ∨ ∃ j, j < n ∧ v2 = nI j by rcases pk_ix v2 (n := n) (by omega) with h | h | h; exact Or.inl (Or.inl h); exact Or.inl (Or.inr h); exact Or.inr h) with hb | ⟨t, ht, rfl⟩
    · refine fr_xsb hb (br_t rfl ?_)
      unfold wpY_splitWord
      dsimp only
      exact fr_ysg hn hs (br_t rfl (fr_ysb hb (br_f (by decide) ⟨rfl, J⟩)))
    · refine fr_xsg hn ht (br_f (by decide) ?_)
      have hin : vp_in (nI (5 * s + t)) 25 := vp_in_nI (by omega) (by omega)
      obtain ⟨t1, t2⟩ := hW.1 s t hs ht
      rw [if_neg (Nat.not_lt_zero _)] at t1 t2
      have hl := fr_sl_le e 10 s t
      rw [fr_ix5]
      refine nm_e ⟨hin, ?_⟩
      rw [nI_clamp (by omega), t1, t2]
      refine pk_eq (fr_sl e 10 s t) 0 (fun hz => ?_) (fun hz => ⟨hin, ?_⟩)
      · unfold wpY_splitWord
        dsimp only
        refine fr_ysg hn hs (br_t rfl (fr_ysg hn ht (br_t rfl (fr_ysh hn2 hn he hs ht ?_))))
        exact pk_eq (fr_sl e 10 s t) 0 (fun _ => ⟨rfl, J⟩) (fun hz2 => absurd hz hz2)
      · unfold wpY_splitWord
        dsimp only
        refine fr_ysg hn hs (br_t rfl (fr_ysg hn ht (br_t rfl (fr_ysh hn2 hn he hs ht ?_))))
        refine pk_eq (fr_sl e 10 s t) 0 (fun hz2 => absurd hz2 hz) (fun _ => ?_)
        obtain ⟨q, hq⟩ : ∃ q, fr_sl e 10 s t = q + 1 := ⟨fr_sl e 10 s t - 1, by omega⟩
        obtain ⟨_, q2, _⟩ := (fr_sl_spec e s t 10).2 q hq
        have hsw : fr_sw e 10 s t = (fr_lw e q s t).getD 0 := by
          unfold fr_sw
          rw [hq, if_neg (by omega), Nat.add_sub_cancel]
        rw [hq, hsw]
        refine fr_yspl hn he (by omega) hs ht (fun w hw => ?_) (fun hw => ?_)
        · rw [hw]
          exact ⟨rfl, J⟩
        · rw [hw] at q2
          cases q2
theorem i_vc_compatibleSet {k : Nat} {u : SX} {v : SY} (I : i_Rel k u v) (hk : k + 4 ≤ 2049) (v1 : Int32) : wpX_compatibleSet (fun r => wpY_compatibleSet (fun r' v' => r' = r ∧ i_Rel (k + 4) u v') v v1) u v1 := by
  have J := i_up I
  obtain ⟨n, e, fc, fm, fo, fr, sl, sw, im, ic, cd, mx, ch, cv, ak, fz, fi, cz, rfl, rfl, hn2, hn, he, hW, ha3, ha4, hr⟩ := I
  have hR : fr_R n e fc fm fo fr sl sw im ic cd mx cv ak := ⟨hn2, hn, he, hW, ha3, ha4, hr⟩
  have hp := fr_2n hn
  unfold wpX_compatibleSet
  dsimp only
  rcases fr_sx v1 hn with hb | ⟨c, hc1, hc, rfl⟩
  · refine fr_xeb hn hb (br_t rfl ?_)
    unfold wpY_compatibleSet
    dsimp only
    exact fr_yeb hn hb (br_f (by decide) ⟨rfl, J⟩)
  · refine fr_xeg hn hc1 hc (br_f (by decide) ⟨vp_in_nI (by omega) (by omega), ?_⟩)
    rw [nI_clamp (by omega), hW.2.2.1.1 c (by omega), fr_b_0]
    have K : ∀ r : Int32, r = fr_b (fr_cs e n c) → wpY_compatibleSet (fun r' v' => r' = r ∧ i_Rel (k + 4) ((nI n), (nI (2 ^ n - 1)), fc, fm, fo, fr, (fun i => nI (e i)), sl, sw, im, ic, cd, mx, ch, cv, ak) v') ((nI n), fr, fz, (fun i => nI (e i)), fi, cz) (nI c) := by
      intro r hr1
      unfold wpY_compatibleSet
      dsimp only
      refine fr_yeg hn hc1 hc (br_t rfl (fr_yta hn2 hn he (fun fi' hF => ?_)))
      refine fr_yag hn (by omega) hF ?_
      rw [fr_b_0]
      by_cases hx : fr_cs e n c = true
      · rw [hx] at hr1
        exact br_f (fun z => z hx) ⟨hr1.symm, fr_rel (k + 4) hR⟩
      · rw [fr_bf hx] at hr1
        exact br_t hx ⟨hr1.symm, fr_rel (k + 4) hR⟩
    by_cases hx : fr_cs e n c = true
    · exact br_f (fun z => z hx) (K 1 (by rw [hx]; rfl))
    · exact br_t hx (K 0 (by rw [fr_bf hx]; rfl))
theorem i_vc_maximals {k : Nat} {u : SX} {v : SY} (I : i_Rel k u v) (hk : k + 4 ≤ 2049) : wpX_maximals (fun r => wpY_maximals (fun r' v' => r' = r ∧ i_Rel (k + 4) u v') v) u := by
  obtain ⟨n, e, fc, fm, fo, fr, sl, sw, im, ic, cd, mx, ch, cv, ak, fz, fi, cz, rfl, rfl, hn2, hn, he, hW, ha3, ha4, hr⟩ := I
  have hR : fr_R n e fc fm fo fr sl sw im ic cd mx cv ak := ⟨hn2, hn, he, hW, ha3, ha4, hr⟩
  unfold wpX_maximals
  dsimp only
  exact fr_yms hn2 hn he (fun fi' => ⟨hW.2.2.2.1.2.symm, fr_rel (k + 4) hR⟩)
theorem i_vc_maximal {k : Nat} {u : SX} {v : SY} (I : i_Rel k u v) (hk : k + 4 ≤ 2049) (v1 : Int32) : wpX_maximal (fun r => wpY_maximal (fun r' v' => r' = r ∧ i_Rel (k + 4) u v') v v1) u v1 := by
  obtain ⟨n, e, fc, fm, fo, fr, sl, sw, im, ic, cd, mx, ch, cv, ak, fz, fi, cz, rfl, rfl, hn2, hn, he, hW, ha3, ha4, hr⟩ := I
  have hR : fr_R n e fc fm fo fr sl sw im ic cd mx cv ak := ⟨hn2, hn, he, hW, ha3, ha4, hr⟩
  have hp := fr_2n hn
  have hml := fr_mc_le e n (2 ^ n - 1)
  obtain ⟨hM1, hM2⟩ := hW.2.2.2.1
  unfold wpX_maximal
  dsimp only
  by_cases h0 : v1 < 0
  · refine br_t h0 ?_
    refine fr_ymx hn2 hn he (fun fi' c hc hm hx => ?_) (fun fi' _ => ⟨rfl, fr_rel (k + 4) hR⟩)
    rw [← hx] at h0
    have := fr_mc_le e n c
    exact absurd h0 (nI_pos (by omega))
  · refine br_f h0 ?_
    obtain ⟨j, hj, rfl⟩ := nI_of h0
    refine pk_lt j (fr_mc e n (2 ^ n - 1)) (fun hlt => ?_) (fun hge => ?_) rfl hM2
    · refine ⟨vp_in_nI (by omega) (by omega), ?_⟩
      obtain ⟨c, hc, hm, hcj⟩ := fr_mc_sur e n (2 ^ n - 1) j hlt
      rw [nI_clamp (by omega), ← hcj, hM1 c hc hm]
      refine fr_ymx hn2 hn he (fun fi' d hd hdm hx => ?_) (fun fi' hx => absurd rfl (hx c hc hm))
      have hdl := fr_mc_le e n d
      have hcl := fr_mc_le e n c
      have hdc := fr_mc_inj hdm hm ((nI_eq (by omega) (by omega)).mp hx)
      rw [hdc]
      exact ⟨rfl, fr_rel (k + 4) hR⟩
    · refine fr_ymx hn2 hn he (fun fi' c hc hm hx => ?_) (fun fi' _ => ⟨rfl, fr_rel (k + 4) hR⟩)
      have hcl := fr_mc_le e n c
      have h1 := (nI_eq (by omega) (by omega)).mp hx
      have h2 := fr_mc_lt hc hm
      omega
theorem i_vc_implied {k : Nat} {u : SX} {v : SY} (I : i_Rel k u v) (hk : k + 4 ≤ 2049) (v1 : Int32) (v2 : Int32) : wpX_implied (fun r => wpY_implied (fun r' => r' = r ∧ i_Rel (k + 4) u v) v v1 v2) u v1 v2 := by
  have J := i_up I
  obtain ⟨n, e, fc, fm, fo, fr, sl, sw, im, ic, cd, mx, ch, cv, ak, fz, fi, cz, rfl, rfl, hn2, hn, he, hW, ha3, ha4, hr⟩ := I
  have hp := fr_2n hn
  unfold wpX_implied
  dsimp only
  rcases fr_sx v1 hn with hb | ⟨c, hc1, hc, rfl⟩
  · refine fr_xeb hn hb (br_t rfl ?_)
    unfold wpY_implied
    dsimp only
    exact fr_yeb hn hb (br_f (by decide) ⟨rfl, J⟩)
  · refine fr_xeg hn hc1 hc (br_f (by decide) ?_)
    rcases (show (v2 < 0 ∨ nI 2 ≤ v2) ∨ ∃ j, j < 2 ∧ v2 = nI j by rcases pk_ix v2 (n := 2) (by omega) with h | h | h; exact Or.inl (Or.inl h); exact Or.inl (Or.inr h); exact Or.inr h) with hb | ⟨a, ha, rfl⟩
    · refine fr_xib hb (br_t rfl ?_)
      unfold wpY_implied
      dsimp only
      exact fr_yeg hn hc1 hc (br_t rfl (fr_yib hb (br_f (by decide) ⟨rfl, J⟩)))
    · refine fr_xig ha (br_f (by decide) ?_)
      rw [fr_ix2 c a, nI_clamp (by omega), hW.2.1 c a hc ha]
      refine ⟨vp_in_nI (by omega) (by omega), ?_⟩
      unfold wpY_implied
      dsimp only
      refine fr_yeg hn hc1 hc (br_t rfl (fr_yig ha (br_t rfl (fr_yim hn he (by omega) ha ?_))))
      exact ⟨rfl, J⟩
theorem i_vc_coverSize {k : Nat} {u : SX} {v : SY} (I : i_Rel k u v) (hk : k + 4 ≤ 2049) : wpX_coverSize (fun r => wpY_coverSize (fun r' v' => r' = r ∧ i_Rel (k + 4) u v') v) u := by
  obtain ⟨n, e, fc, fm, fo, fr, sl, sw, im, ic, cd, mx, ch, cv, ak, fz, fi, cz, rfl, rfl, hn2, hn, he, hW, ha3, ha4, hr⟩ := I
  have hR : fr_R n e fc fm fo fr sl sw im ic cd mx cv ak := ⟨hn2, hn, he, hW, ha3, ha4, hr⟩
  obtain ⟨c, hb, hcv, hfo⟩ := hW.2.2.2.2
  unfold wpX_coverSize
  dsimp only
  unfold wpY_coverSize
  dsimp only
  refine fr_ybe hn2 hn he (fun fi' cz' c' hb' hcz' => ⟨?_, fr_rel (k + 4) hR⟩)
  rw [hfo, (fr_best_nz hb hb').2]
theorem i_vc_coverSet {k : Nat} {u : SX} {v : SY} (I : i_Rel k u v) (hk : k + 4 ≤ 2049) (v1 : Int32) : wpX_coverSet (fun r => wpY_coverSet (fun r' v' => r' = r ∧ i_Rel (k + 4) u v') v v1) u v1 := by
  obtain ⟨n, e, fc, fm, fo, fr, sl, sw, im, ic, cd, mx, ch, cv, ak, fz, fi, cz, rfl, rfl, hn2, hn, he, hW, ha3, ha4, hr⟩ := I
  have hR : fr_R n e fc fm fo fr sl sw im ic cd mx cv ak := ⟨hn2, hn, he, hW, ha3, ha4, hr⟩
  obtain ⟨c, hb, hcv, hfo⟩ := hW.2.2.2.2
  have hz := fr_nz_le c 5
  subst hfo
  unfold wpX_coverSet
  dsimp only
  by_cases h0 : v1 < 0
  · refine br_t h0 ?_
    unfold wpY_coverSet
    dsimp only
    exact fr_ybe hn2 hn he (fun fi' cz' c' hb' hcz' => br_t h0 ⟨rfl, fr_rel (k + 4) hR⟩)
  · refine br_f h0 ?_
    obtain ⟨j, hj, rfl⟩ := nI_of h0
    refine pk_lt j (fr_nz c 5) (fun hlt => ?_) (fun hge => ?_)
    · have e5 : (5 : Int32) - nI (fr_nz c 5) + nI j = nI (5 - fr_nz c 5 + j) := by
        have : (5 : Int32) - nI (fr_nz c 5) = nI (5 - fr_nz c 5) := pk_sub (a := 5) hz
        rw [this, nI_add]
      rw [e5, nI_clamp (by omega), hcv _ (by omega)]
      refine ⟨vp_in_nI (by omega) (by omega), ?_⟩
      unfold wpY_coverSet
      dsimp only
      refine fr_ybe hn2 hn he (fun fi' cz' c' hb' hcz' => br_f h0 ?_)
      obtain ⟨q1, q2⟩ := fr_best_nz hb hb'
      rw [← q2] at hcz' ⊢
      refine br_f (nI_ge hlt (by omega)) (br_t (nI_lt (b := 5) (by omega) (by omega)) ⟨vp_in_nI (by omega) (by omega), ?_⟩)
      rw [nI_clamp (by omega)]
      dsimp only
      rw [hcz' j hlt, q1 _ (by omega)]
      exact ⟨rfl, fr_rel (k + 4) hR⟩
    · unfold wpY_coverSet
      dsimp only
      refine fr_ybe hn2 hn he (fun fi' cz' c' hb' hcz' => br_f h0 ?_)
      obtain ⟨q1, q2⟩ := fr_best_nz hb hb'
      rw [← q2]
      exact br_t (nI_le hge (by omega)) ⟨rfl, fr_rel (k + 4) hR⟩
theorem fr_ak {n : Nat} {e : Nat → Nat} {a b c : Nat} : fr_cov e n (fr_lm 5 (fun p => if p = 0 then a else if p = 1 then b else if p = 2 then c else 0)) ↔ fr_cov e n (fun d => d ≠ 0 ∧ (d = a ∨ d = b ∨ d = c)) := by
  refine fr_cov_eq (fun d => ⟨?_, ?_⟩)
  · rintro ⟨hd, p, hp, hx⟩
    refine ⟨hd, ?_⟩
    dsimp only at hx
    by_cases h0 : p = 0
    · rw [if_pos h0] at hx; exact Or.inl hx.symm
    · rw [if_neg h0] at hx
      by_cases h1 : p = 1
      · rw [if_pos h1] at hx; exact Or.inr (Or.inl hx.symm)
      · rw [if_neg h1] at hx
        by_cases h2 : p = 2
        · rw [if_pos h2] at hx; exact Or.inr (Or.inr hx.symm)
        · rw [if_neg h2] at hx; exact absurd hx.symm hd
  · rintro ⟨hd, hx⟩
    rcases hx with rfl | rfl | rfl
    · exact ⟨hd, 0, by omega, rfl⟩
    · exact ⟨hd, 1, by omega, rfl⟩
    · exact ⟨hd, 2, by omega, rfl⟩
theorem fr_ic {k n : Nat} {e : Nat → Nat} {fc fm fo fr : Int32} {sl sw im ic cd mx ch cv ak : Nat → Int32} {fz : Int32} {fi cz : Nat → Int32} {a b c : Nat} (hR : fr_R n e fc fm fo fr sl sw im ic cd mx cv ak) (ha : a < 2 ^ n) (hb : b < 2 ^ n) (hc : c < 2 ^ n) (hnz : ¬ (a = 0 ∧ b = 0 ∧ c = 0)) (Q : (Int32 → SY → Prop) → Prop) (hQ : ∀ P : Int32 → SY → Prop, wY_isCover_40 P (nI a) (nI b) (nI c) (nI n) fr fz (fun i => nI (e i)) fi cz → Q P) : wX_isCover_40 (fun r u' => Q (fun r' v' => r' = r ∧ i_Rel (k + 4) u' v')) (nI a) (nI b) (nI c) (nI n) (nI (2 ^ n - 1)) fc fm fo fr (fun i => nI (e i)) sl sw im ic cd mx ch cv ak := by
  obtain ⟨hn2, hn, he, hW, ha3, ha4, hr⟩ := hR
  have hp := fr_2n hn
  unfold wX_isCover_40
  refine nm_e (nm_e (nm_e ?_))
  have hA : ∀ p, p < 5 → upd (upd (upd ak 0 (nI a)) 1 (nI b)) 2 (nI c) p = nI ((fun p => if p = 0 then a else if p = 1 then b else if p = 2 then c else 0) p) := by
    intro p hp5
    rcases (show p = 0 ∨ p = 1 ∨ p = 2 ∨ p = 3 ∨ p = 4 by omega) with rfl | rfl | rfl | rfl | rfl
    · rfl
    · rfl
    · rfl
    · exact ha3
    · exact ha4
  have hR' : fr_R n e fc fm fo fr sl sw im ic cd mx cv (upd (upd (upd ak 0 (nI a)) 1 (nI b)) 2 (nI c)) := ⟨hn2, hn, he, hW, ha3, ha4, hr⟩
  have hLn : ∀ p, p < 5 → (fun p => if p = 0 then a else if p = 1 then b else if p = 2 then c else 0) p < 2 ^ n := by
    intro p _
    dsimp only
    have := Nat.two_pow_pos n
    split
    · exact ha
    · split
      · exact hb
      · split
        · exact hc
        · exact this
  refine fr_xmc_asked hn he hW.2.1 (fun d hd => hW.2.2.1.1 d (by omega)) hA hLn (fun hcov => ?_) (fun hcov => ?_)
  · rw [fr_ak] at hcov
    refine br_f (by decide) (hQ _ ?_)
    exact fr_yic hn2 hn he ha hb hc hnz (fun fz' fi' cz' _ => ⟨rfl, fr_rel (k + 4) hR'⟩) (fun fz' fi' cz' hx => absurd hcov hx)
  · rw [fr_ak] at hcov
    refine br_t rfl (hQ _ ?_)
    exact fr_yic hn2 hn he ha hb hc hnz (fun fz' fi' cz' hx => absurd hx hcov) (fun fz' fi' cz' _ => ⟨rfl, fr_rel (k + 4) hR'⟩)
theorem i_vc_isCover {k : Nat} {u : SX} {v : SY} (I : i_Rel k u v) (hk : k + 4 ≤ 2049) (v1 : Int32) (v2 : Int32) (v3 : Int32) : wpX_isCover (fun r u' => wpY_isCover (fun r' v' => r' = r ∧ i_Rel (k + 4) u' v') v v1 v2 v3) u v1 v2 v3 := by
  have J := i_up I
  obtain ⟨n, e, fc, fm, fo, fr, sl, sw, im, ic, cd, mx, ch, cv, ak, fz, fi, cz, rfl, rfl, hn2, hn, he, hW, ha3, ha4, hr⟩ := I
  have hR : fr_R n e fc fm fo fr sl sw im ic cd mx cv ak := ⟨hn2, hn, he, hW, ha3, ha4, hr⟩
  have hp := fr_2n hn
  unfold wpX_isCover
  dsimp only
  rcases (show (v1 < 0 ∨ nI (2 ^ n) ≤ v1) ∨ ∃ j, j < 2 ^ n ∧ v1 = nI j by rcases pk_ix v1 (n := 2 ^ n) (by omega) with h | h | h; exact Or.inl (Or.inl h); exact Or.inl (Or.inr h); exact Or.inr h) with hb | ⟨a, ha, rfl⟩
  · refine fr_xzb hn hb (br_t rfl ?_)
    unfold wpY_isCover
    dsimp only
    exact fr_yzb hn hb (br_f (by decide) ⟨rfl, J⟩)
  · refine fr_xzg hn ha (br_f (by decide) ?_)
    rcases (show (v2 < 0 ∨ nI (2 ^ n) ≤ v2) ∨ ∃ j, j < 2 ^ n ∧ v2 = nI j by rcases pk_ix v2 (n := 2 ^ n) (by omega) with h | h | h; exact Or.inl (Or.inl h); exact Or.inl (Or.inr h); exact Or.inr h) with hb | ⟨b, hb, rfl⟩
    · refine fr_xzb hn hb (br_t rfl ?_)
      unfold wpY_isCover
      dsimp only
      exact fr_yzg hn ha (br_t rfl (fr_yzb hn hb (br_f (by decide) ⟨rfl, J⟩)))
    · refine fr_xzg hn hb (br_f (by decide) ?_)
      rcases (show (v3 < 0 ∨ nI (2 ^ n) ≤ v3) ∨ ∃ j, j < 2 ^ n ∧ v3 = nI j by rcases pk_ix v3 (n := 2 ^ n) (by omega) with h | h | h; exact Or.inl (Or.inl h); exact Or.inl (Or.inr h); exact Or.inr h) with hb3 | ⟨c, hc, rfl⟩
      · refine fr_xzb hn hb3 (br_t rfl ?_)
        unfold wpY_isCover
        dsimp only
        exact fr_yzg hn ha (br_t rfl (fr_yzg hn hb (br_t rfl (fr_yzb hn hb3 (br_f (by decide) ⟨rfl, J⟩)))))
      · refine fr_xzg hn hc (br_f (by decide) ?_)
        refine pk_eq a 0 (fun za => ?_) (fun za => ?_)
        · refine pk_eq b 0 (fun zb => ?_) (fun zb => ?_)
          · refine pk_eq c 0 (fun zc => ?_) (fun zc => ?_)
            · unfold wpY_isCover
              dsimp only
              refine fr_yzg hn ha (br_t rfl (fr_yzg hn hb (br_t rfl (fr_yzg hn hc (br_t rfl ?_)))))
              exact pk_eq a 0 (fun _ => pk_eq b 0 (fun _ => pk_eq c 0 (fun _ => ⟨rfl, J⟩) (fun z => absurd zc z)) (fun z => absurd zb z)) (fun z => absurd za z)
            · refine fr_ic (fz := fz) (fi := fi) (cz := cz) hR ha hb hc (fun z => zc z.2.2) (fun P => wpY_isCover P ((nI n), fr, fz, (fun i => nI (e i)), fi, cz) (nI a) (nI b) (nI c)) (fun P hP => ?_)
              unfold wpY_isCover
              dsimp only
              refine fr_yzg hn ha (br_t rfl (fr_yzg hn hb (br_t rfl (fr_yzg hn hc (br_t rfl ?_)))))
              exact pk_eq a 0 (fun _ => pk_eq b 0 (fun _ => pk_eq c 0 (fun z => absurd z zc) (fun _ => hP)) (fun z => absurd zb z)) (fun z => absurd za z)
          · refine fr_ic (fz := fz) (fi := fi) (cz := cz) hR ha hb hc (fun z => zb z.2.1) (fun P => wpY_isCover P ((nI n), fr, fz, (fun i => nI (e i)), fi, cz) (nI a) (nI b) (nI c)) (fun P hP => ?_)
            unfold wpY_isCover
            dsimp only
            refine fr_yzg hn ha (br_t rfl (fr_yzg hn hb (br_t rfl (fr_yzg hn hc (br_t rfl ?_)))))
            exact pk_eq a 0 (fun _ => pk_eq b 0 (fun z => absurd z zb) (fun _ => hP)) (fun z => absurd za z)
        · refine fr_ic (fz := fz) (fi := fi) (cz := cz) hR ha hb hc (fun z => za z.1) (fun P => wpY_isCover P ((nI n), fr, fz, (fun i => nI (e i)), fi, cz) (nI a) (nI b) (nI c)) (fun P hP => ?_)
          unfold wpY_isCover
          dsimp only
          refine fr_yzg hn ha (br_t rfl (fr_yzg hn hb (br_t rfl (fr_yzg hn hc (br_t rfl ?_)))))
          exact pk_eq a 0 (fun z => absurd z za) (fun _ => hP)
theorem i_vc_restart {k : Nat} {u : SX} {v : SY} (I : i_Rel k u v) (hk : k + 4 ≤ 2049) : wpX_restart (fun u' => wpY_restart (fun v' => i_Rel (k + 4) u' v') v) u := by
  obtain ⟨n, e, fc, fm, fo, fr, sl, sw, im, ic, cd, mx, ch, cv, ak, fz, fi, cz, rfl, rfl, hn2, hn, he, hW, ha3, ha4, hr⟩ := I
  exact fr_rel (k + 4) (fr := 0) ⟨hn2, hn, he, hW, ha3, ha4, Or.inr ⟨0, by omega, rfl⟩⟩
theorem i_vc_read {k : Nat} {u : SX} {v : SY} (I : i_Rel k u v) (hk : k + 4 ≤ 2049) (v1 : Int32) : wpX_read (fun r u' => wpY_read (fun r' v' => r' = r ∧ i_Rel (k + 4) u' v') v v1) u v1 := by
  have J := i_up I
  obtain ⟨n, e, fc, fm, fo, fr, sl, sw, im, ic, cd, mx, ch, cv, ak, fz, fi, cz, rfl, rfl, hn2, hn, he, hW, ha3, ha4, hr⟩ := I
  unfold wpX_read
  dsimp only
  rcases (show (v1 < 0 ∨ nI 2 ≤ v1) ∨ ∃ j, j < 2 ∧ v1 = nI j by rcases pk_ix v1 (n := 2) (by omega) with h | h | h; exact Or.inl (Or.inl h); exact Or.inl (Or.inr h); exact Or.inr h) with hb | ⟨a, ha, rfl⟩
  · refine fr_xib hb (br_t rfl ?_)
    unfold wpY_read
    dsimp only
    exact fr_yib hb (br_f (by decide) ⟨rfl, J⟩)
  · refine fr_xig ha (br_f (by decide) ?_)
    rcases hr with rfl | ⟨s, hs, rfl⟩
    · refine br_t rfl ?_
      unfold wpY_read
      dsimp only
      exact fr_yig ha (br_t rfl (br_t rfl ⟨rfl, J⟩))
    · have hm1 : ¬ nI s = -1 := fr_m1ne (by omega)
      refine br_f hm1 ?_
      refine fr_xou hn he (by omega) ha ?_
      refine fr_xnx hn he (by omega) ha ?_
      have hol := fr_ou_lt e s a
      have hnl := fr_nx_le he s a
      have hR' : fr_R n e fc fm fo (fr_dn (fr_nx e s a)) sl sw im ic cd mx cv ak := by
        refine ⟨hn2, hn, he, hW, ha3, ha4, ?_⟩
        by_cases hz : fr_nx e s a = 0
        · left
          rw [hz]
          exact fr_dn_0
        · right
          exact ⟨fr_nx e s a - 1, by omega, fr_dn_p hz⟩
      by_cases ho : fr_dn (fr_ou e s a) = -1
      · refine br_t ho ?_
        unfold wpY_read
        dsimp only
        refine fr_yig ha (br_t rfl (br_f hm1 ?_))
        refine fr_you hn he (by omega) ha ?_
        refine fr_ynx hn he (by omega) ha ?_
        exact br_t ho ⟨rfl, fr_rel (k + 4) hR'⟩
      · refine br_f ho ?_
        unfold wpY_read
        dsimp only
        refine fr_yig ha (br_t rfl (br_f hm1 ?_))
        refine fr_you hn he (by omega) ha ?_
        refine fr_ynx hn he (by omega) ha ?_
        exact br_f ho ⟨rfl, fr_rel (k + 4) hR'⟩
theorem i_vc_lost {k : Nat} {u : SX} {v : SY} (I : i_Rel k u v) (hk : k + 4 ≤ 2049) : wpX_lost (fun r => wpY_lost (fun r' => r' = r ∧ i_Rel (k + 4) u v) v) u := by
  have J := i_up I
  obtain ⟨n, e, fc, fm, fo, fr, sl, sw, im, ic, cd, mx, ch, cv, ak, fz, fi, cz, rfl, rfl, hn2, hn, he, hW, ha3, ha4, hr⟩ := I
  unfold wpX_lost
  dsimp only
  by_cases h : fr = -1
  · exact br_t h (br_t h ⟨rfl, J⟩)
  · exact br_f h (br_f h ⟨rfl, J⟩)
end
