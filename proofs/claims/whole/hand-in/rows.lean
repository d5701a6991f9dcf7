section
theorem pk_us {f : Nat → Int32} {k : Nat} {x : Int32} : upd f k x k = x := if_pos rfl
theorem pk_un {f : Nat → Int32} {k j : Nat} {x : Int32} (h : j ≠ k) : upd f k x j = f j := if_neg h
theorem pk_uLs {f : Nat → Int64} {k : Nat} {x : Int64} : vp_updL f k x k = x := if_pos rfl
theorem pk_uLn {f : Nat → Int64} {k j : Nat} {x : Int64} (h : j ≠ k) : vp_updL f k x j = f j := if_neg h
theorem pk_sub {a b : Nat} (h : b ≤ a) : nI a - nI b = nI (a - b) := by
  obtain ⟨c, rfl⟩ : ∃ c, a = c + b := ⟨a - b, by omega⟩
  rw [← nI_add, Int32.add_sub_cancel, Nat.add_sub_cancel]
theorem pk_mul (a b : Nat) : nI a * nI b = nI (a * b) := (Int32.ofNat_mul a b).symm
theorem pk_div {a d : Nat} (ha : a < 2 ^ 31) (h0 : 0 < d) (hd : d < 2 ^ 31) : nI a / nI d = nI (a / d) := by
  apply Int32.toInt_inj.mp
  rw [lg_idiv_nonneg (by rw [nI_toInt ha]; omega) (by rw [nI_toInt hd]; omega), nI_toInt ha, nI_toInt hd, nI_toInt (Nat.lt_of_le_of_lt (Nat.div_le_self a d) ha)]
  first | rfl | exact (Int.natCast_ediv _ _).symm
theorem pk_rem {a d : Nat} (ha : a < 2 ^ 31) (h0 : 0 < d) (hd : d < 2 ^ 31) : nI a - nI a / nI d * nI d = nI (a % d) := by
  rw [pk_div ha h0 hd, pk_mul, pk_sub (Nat.div_mul_le_self a d)]
  exact congrArg nI (by have := Nat.div_add_mod' a d; omega)
theorem pk_ix (x : Int32) {n : Nat} (hn : n < 2 ^ 31) : x < 0 ∨ nI n ≤ x ∨ ∃ j : Nat, j < n ∧ x = nI j := by
  by_cases h : x < 0
  · exact Or.inl h
  · obtain ⟨j, hj, rfl⟩ := nI_of h
    by_cases h2 : j < n
    · exact Or.inr (Or.inr ⟨j, h2, rfl⟩)
    · exact Or.inr (Or.inl (nI_le (by omega) hj))
theorem ts_nf {x : Bool} (h : ¬ x = false) : x = true := by cases x <;> first | rfl | exact absurd rfl h
theorem ts_nt {x : Bool} (h : ¬ x = true) : x = false := by cases x <;> first | rfl | exact absurd rfl h
theorem ts_bit {w : Int64} {s : UInt64} {j : Nat} (hj : j < 64) (hs : s.toNat = j) : ((w.toUInt64 >>> s).toInt64 &&& 1) = 0 ↔ w.toBitVec.getLsbD j = false := by
  have e : (w.toUInt64 >>> s).toInt64.toBitVec = w.toBitVec >>> j := by
    apply BitVec.eq_of_toNat_eq
    show (w.toUInt64 >>> s).toNat = _
    rw [UInt64.toNat_shiftRight, hs, Nat.mod_eq_of_lt hj, BitVec.toNat_ushiftRight]
    rfl
  rw [← Int64.toBitVec_inj, Int64.toBitVec_and, e]
  show w.toBitVec >>> j &&& 1#64 = 0#64 ↔ _
  constructor
  · intro h
    have t := congrArg (fun x => x.getLsbD 0) h
    simpa using t
  · intro h
    apply BitVec.eq_of_getLsbD_eq
    intro i hi
    cases i with
    | zero => simp [h]
    | succ i => simp
/-! numbers -/
theorem cx_64 : (64 : Int32) = nI 64 := rfl
theorem cx_64le : (64 : Int32) ≤ nI 64 := by decide
theorem cx_3le : (3 : Int32) ≤ nI 3 := by decide
theorem cx_lt64 {j : Nat} (hj : j < 64) : ¬ (64 : Int32) ≤ nI j := nI_ge (b := 64) hj (by decide)
theorem cx_lt3 {j : Nat} (hj : j < 3) : ¬ (3 : Int32) ≤ nI j := nI_ge (b := 3) hj (by decide)
theorem cx_rem {a : Nat} (ha : a < 2 ^ 31) : nI a - nI a / 64 * 64 = nI (a % 64) := pk_rem (d := 64) ha (by decide) (by decide)
theorem cx_div {a : Nat} (ha : a < 2 ^ 31) : nI a / 64 = nI (a / 64) := pk_div (d := 64) ha (by decide) (by decide)
theorem cx_ixY (p i : Nat) : (64 : Int32) * nI p + nI i = nI (64 * p + i) := by
  rw [cx_64, pk_mul, nI_add]
theorem cx_ixX (p i : Nat) : nI p * 64 + nI i = nI (64 * p + i) := by
  rw [cx_64, pk_mul, nI_add, Nat.mul_comm]
theorem cx_inY {p j : Nat} (hp : p < 3) (hj : j < 64) : vp_in ((64 : Int32) * nI p + nI j) 192 := by
  rw [cx_ixY]; exact vp_in_nI (by omega) (by decide)
theorem cx_inX {p j : Nat} (hp : p < 3) (hj : j < 64) : vp_in (nI p * 64 + nI j) 192 := by
  rw [cx_ixX]; exact vp_in_nI (by omega) (by decide)
theorem cx_clY {p j : Nat} (hp : p < 3) (hj : j < 64) : ((64 : Int32) * nI p + nI j).toNatClampNeg = 64 * p + j := by
  rw [cx_ixY, nI_clamp (by omega)]
theorem cx_clX {p j : Nat} (hp : p < 3) (hj : j < 64) : (nI p * 64 + nI j).toNatClampNeg = 64 * p + j := by
  rw [cx_ixX, nI_clamp (by omega)]
theorem cx_arg {a i s : Nat} (ha : a < 64) (hi : i < 16) (hs : s < 64) : (nI a + nI i * nI s) - (nI a + nI i * nI s) / 64 * 64 = nI ((a + i * s) % 64) := by
  have h : i * s ≤ 16 * 64 := Nat.mul_le_mul (by omega) (by omega)
  rw [pk_mul, nI_add, cx_rem (by omega)]
theorem cx_rng {x : Int32} (a b : Nat) (ha : a < 2 ^ 31) (hb : b < 2 ^ 31) (h1 : ¬ x < nI a) (h2 : x ≤ nI b) : ∃ t : Nat, a ≤ t ∧ t ≤ b ∧ x = nI t := by
  have h0 : ¬ x < 0 := by
    intro h
    apply h1
    rw [Int32.lt_iff_toInt_lt] at h ⊢
    rw [nI_toInt ha]
    have e : (0 : Int32).toInt = 0 := rfl
    rw [e] at h
    omega
  obtain ⟨t, ht, rfl⟩ := nI_of h0
  rw [nI_ltI ht ha] at h1
  rw [nI_leI ht hb] at h2
  exact ⟨t, by omega, h2, rfl⟩
theorem cx_nb1 : vp_nar .boolean 1 = 1 := rfl
theorem cx_nb0 : vp_nar .boolean 0 = 0 := rfl
/-! bits of a long -/
def cx_b (w : Int64) (j : Nat) : Bool := w.toBitVec.getLsbD j
theorem cx_b_or (a b : Int64) (j : Nat) : cx_b (a ||| b) j = (cx_b a j || cx_b b j) := by
  unfold cx_b; rw [Int64.toBitVec_or, BitVec.getLsbD_or]
theorem cx_b_and (a b : Int64) (j : Nat) : cx_b (a &&& b) j = (cx_b a j && cx_b b j) := by
  unfold cx_b; rw [Int64.toBitVec_and, BitVec.getLsbD_and]
theorem cx_b_0 (j : Nat) : cx_b 0 j = false := BitVec.getLsbD_zero
theorem cx_b_m1 : ∀ j, j < 64 → cx_b (-1) j = true := by decide +kernel
theorem cx_b_not (b : Int64) {j : Nat} (hj : j < 64) : cx_b (b ^^^ (-1)) j = !cx_b b j := by
  have h := cx_b_m1 j hj
  unfold cx_b at h ⊢
  rw [Int64.toBitVec_xor, BitVec.getLsbD_xor, h, Bool.xor_true]
theorem cx_one : ∀ k, k < 64 → ((1 : Int64) <<< ((nI k).toInt64 &&& 63)).toBitVec = BitVec.twoPow 64 k := by decide +kernel
theorem cx_b_one {k : Nat} (hk : k < 64) (j : Nat) : cx_b ((1 : Int64) <<< ((nI k).toInt64 &&& 63)) j = decide (k = j) := by
  unfold cx_b; rw [cx_one k hk, BitVec.getLsbD_twoPow, decide_eq_true hk, Bool.true_and]
theorem cx_ext {a b : Int64} (h : ∀ j, j < 64 → cx_b a j = cx_b b j) : a = b := Int64.toBitVec_inj.mp (BitVec.eq_of_getLsbD_eq (fun i hi => h i hi))
theorem cx_sh : ∀ k, k < 64 → ((nI k).toInt64.toUInt64 &&& Int64.toUInt64 63).toNat = k := by decide +kernel
/-! counting -/
def cx_c (f : Nat → Bool) : Nat → Nat → Nat
  | 0, _ => 0
  | d + 1, j => (f j).toNat + cx_c f d (j + 1)
def cx_n (f : Nat → Bool) : Nat := cx_c f 64 0
theorem cx_c_le (f : Nat → Bool) : ∀ d j, cx_c f d j ≤ d := by
  intro d
  induction d with
  | zero => intro j; exact Nat.le_refl 0
  | succ d ih => intro j; have := ih (j + 1); have := Bool.toNat_le (f j); rw [cx_c]; omega
theorem cx_n_le (f : Nat → Bool) : cx_n f ≤ 64 := cx_c_le f 64 0
theorem cx_c_congr {f g : Nat → Bool} : ∀ d j, (∀ i, j ≤ i → i < j + d → f i = g i) → cx_c f d j = cx_c g d j := by
  intro d
  induction d with
  | zero => intro j _; rfl
  | succ d ih => intro j h; rw [cx_c, cx_c, h j (by omega) (by omega), ih (j + 1) (fun i h1 h2 => h i (by omega) (by omega))]
theorem cx_n_congr {f g : Nat → Bool} (h : ∀ i, i < 64 → f i = g i) : cx_n f = cx_n g := cx_c_congr 64 0 (fun i _ h2 => h i (by omega))
theorem cx_c_oa (f g : Nat → Bool) : ∀ d j, cx_c (fun i => f i || g i) d j + cx_c (fun i => f i && g i) d j = cx_c f d j + cx_c g d j := by
  intro d
  induction d with
  | zero => intro j; rfl
  | succ d ih =>
    intro j
    have h := ih (j + 1)
    simp only [cx_c]
    cases f j <;> cases g j <;> simp <;> omega
theorem cx_c_split (f g : Nat → Bool) : ∀ d j, cx_c (fun i => f i || g i) d j = cx_c f d j + cx_c (fun i => g i && !f i) d j := by
  intro d
  induction d with
  | zero => intro j; rfl
  | succ d ih =>
    intro j
    have h := ih (j + 1)
    simp only [cx_c]
    cases f j <;> cases g j <;> simp <;> omega
theorem cx_c_not (f : Nat → Bool) : ∀ d j, cx_c (fun i => !f i) d j + cx_c f d j = d := by
  intro d
  induction d with
  | zero => intro j; rfl
  | succ d ih =>
    intro j
    have h := ih (j + 1)
    simp only [cx_c]
    cases f j <;> simp <;> omega
theorem cx_c_al (f g : Nat → Bool) : ∀ d j, cx_c (fun i => f i && g i) d j ≤ cx_c f d j := by
  intro d
  induction d with
  | zero => intro j; exact Nat.le_refl 0
  | succ d ih =>
    intro j
    have h := ih (j + 1)
    simp only [cx_c]
    cases f j <;> cases g j <;> simp <;> omega
theorem cx_c_sub (f g : Nat → Bool) : ∀ d j, cx_c (fun i => f i && g i) d j = cx_c f d j → ∀ i, j ≤ i → i < j + d → (f i && g i) = f i := by
  intro d
  induction d with
  | zero => intro j _ i h1 h2; omega
  | succ d ih =>
    intro j h i h1 h2
    have hl := cx_c_al f g d (j + 1)
    simp only [cx_c] at h
    have hj : (f j && g j) = f j ∧ cx_c (fun i => f i && g i) d (j + 1) = cx_c f d (j + 1) := by
      cases hf : f j <;> cases hg : g j <;> simp [hf, hg] at h ⊢ <;> omega
    by_cases e : i = j
    · rw [e]; exact hj.1
    · exact ih (j + 1) hj.2 i (by omega) (by omega)
theorem cx_c_one (f : Nat → Bool) (k : Nat) : ∀ d j, j ≤ k → k < j + d → cx_c (fun i => f i || decide (k = i)) d j = cx_c f d j + (!f k).toNat := by
  intro d
  induction d with
  | zero => intro j h1 h2; omega
  | succ d ih =>
    intro j h1 h2
    simp only [cx_c]
    by_cases e : k = j
    · have hc : cx_c (fun i => f i || decide (k = i)) d (j + 1) = cx_c f d (j + 1) := cx_c_congr d (j + 1) (fun i h3 h4 => by
        show (f i || decide (k = i)) = f i
        rw [decide_eq_false (by omega), Bool.or_false])
      rw [hc, e]
      cases f j <;> simp <;> omega
    · rw [ih (j + 1) (by omega) (by omega), decide_eq_false e, Bool.or_false]
      omega
theorem cx_n_one (f : Nat → Bool) {k : Nat} (hk : k < 64) : cx_n (fun i => f i || decide (k = i)) = cx_n f + (!f k).toNat := cx_c_one f k 64 0 (by omega) (by omega)
/-! sums, the place of an item, stores -/
def cx_s (f : Nat → Bool) (g : Nat → Int32) : Nat → Nat → Int32 → Int32
  | 0, _, x => x
  | d + 1, j, x => cx_s f g d (j + 1) (if f j then x + g j else x)
theorem cx_s_congr {f h : Nat → Bool} (g : Nat → Int32) : ∀ d j x, (∀ i, j ≤ i → i < j + d → f i = h i) → cx_s f g d j x = cx_s h g d j x := by
  intro d
  induction d with
  | zero => intro j x _; rfl
  | succ d ih => intro j x e; rw [cx_s, cx_s, e j (by omega) (by omega), ih (j + 1) _ (fun i h1 h2 => e i (by omega) (by omega))]
theorem cx_s_c (f : Nat → Bool) : ∀ d j x, cx_s f (fun _ => 1) d j x = x + nI (cx_c f d j) := by
  intro d
  induction d with
  | zero => intro j x; rw [cx_s, cx_c, nI_0, Int32.add_zero]
  | succ d ih =>
    intro j x
    rw [cx_s, cx_c, ih]
    cases f j
    · rw [Bool.toNat_false, Nat.zero_add]; rfl
    · rw [Bool.toNat_true, Nat.add_comm 1 (cx_c f d (j + 1)), nI_succ, Int32.add_comm (nI _) 1, ← Int32.add_assoc]; rfl
def cx_a (f : Nat → Bool) (i : Int32) : Nat → Nat → Int32 → Option Nat
  | 0, _, _ => none
  | d + 1, j, b => if f j then (if b = i then some j else cx_a f i d (j + 1) (b + 1)) else cx_a f i d (j + 1) b
def cx_o (m : Int32) : Option Nat → Int32
  | none => m
  | some j => nI j
theorem cx_a_lt (f : Nat → Bool) (i : Int32) {k : Nat} : ∀ d j b, cx_a f i d j b = some k → k < j + d := by
  intro d
  induction d with
  | zero => intro j b h; cases h
  | succ d ih =>
    intro j b h
    rw [cx_a] at h
    split at h
    · split at h
      · cases h; omega
      · have := ih _ _ h; omega
    · have := ih _ _ h; omega
theorem cx_a_congr {f g : Nat → Bool} (i : Int32) : ∀ d j b, (∀ k, j ≤ k → k < j + d → f k = g k) → cx_a f i d j b = cx_a g i d j b := by
  intro d
  induction d with
  | zero => intro j b _; rfl
  | succ d ih => intro j b e; rw [cx_a, cx_a, e j (by omega) (by omega), ih (j + 1) (b + 1) (fun i h1 h2 => e i (by omega) (by omega)), ih (j + 1) b (fun i h1 h2 => e i (by omega) (by omega))]
def cx_u (f : Nat → Bool) (p : Nat) (v : Int32) : Nat → Nat → (Nat → Int32) → (Nat → Int32)
  | 0, _, a => a
  | d + 1, j, a => cx_u f p v d (j + 1) (if f j then upd a (64 * p + j) v else a)
theorem cx_u_congr {f g : Nat → Bool} (p : Nat) (v : Int32) : ∀ d j a, (∀ k, j ≤ k → k < j + d → f k = g k) → cx_u f p v d j a = cx_u g p v d j a := by
  intro d
  induction d with
  | zero => intro j a _; rfl
  | succ d ih => intro j a e; rw [cx_u, cx_u, e j (by omega) (by omega), ih (j + 1) _ (fun i h1 h2 => e i (by omega) (by omega))]
theorem cx_u_out (f : Nat → Bool) (p : Nat) (v : Int32) (m : Nat) : ∀ d j a, (m < 64 * p + j ∨ 64 * p + j + d ≤ m) → cx_u f p v d j a m = a m := by
  intro d
  induction d with
  | zero => intro j a _; rfl
  | succ d ih =>
    intro j a h
    rw [cx_u, ih (j + 1) _ (by omega)]
    split
    · exact pk_un (by omega)
    · rfl
theorem cx_u_in (f : Nat → Bool) (p : Nat) (v : Int32) (i : Nat) : ∀ d j a, j ≤ i → i < j + d → cx_u f p v d j a (64 * p + i) = if f i then v else a (64 * p + i) := by
  intro d
  induction d with
  | zero => intro j a h1 h2; omega
  | succ d ih =>
    intro j a h1 h2
    rw [cx_u]
    by_cases e : i = j
    · subst e
      rw [cx_u_out f p v _ d (i + 1) _ (by omega)]
      cases f i
      · rfl
      · exact pk_us
    · rw [ih (j + 1) _ (by omega) (by omega)]
      cases f i
      · cases f j
        · rfl
        · exact pk_un (by omega)
      · rfl
/-! the stepped items -/
def cx_st (x0 x2 : Nat) : Nat → Nat → Int64 → Int64
  | 0, _, x => x
  | d + 1, i, x => cx_st x0 x2 d (i + 1) (x ||| ((1 : Int64) <<< ((nI ((x0 + i * x2) % 64)).toInt64 &&& 63)))
def cx_am (x0 x2 : Nat) : Nat → Nat → Nat → Bool
  | 0, _, _ => false
  | d + 1, i, j => decide ((x0 + i * x2) % 64 = j) || cx_am x0 x2 d (i + 1) j
theorem cx_st_b (x0 x2 : Nat) (j : Nat) : ∀ d i x, cx_b (cx_st x0 x2 d i x) j = (cx_b x j || cx_am x0 x2 d i j) := by
  intro d
  induction d with
  | zero => intro i x; rw [cx_st, cx_am, Bool.or_false]
  | succ d ih =>
    intro i x
    rw [cx_st, cx_am, ih, cx_b_or, cx_b_one (Nat.mod_lt _ (by omega)), Bool.or_assoc]
end
section
/-! the shape of a counting loop, of a search, and the two sides' own methods, each with a general post -/
theorem cx_loop {W : Nat → Int32 → Int32 → Prop} {post : Int32 → Prop} (f : Nat → Bool) (g : Nat → Int32) (e : Nat)
    (hx : ∀ n x, post x → W (n + 1) x (nI e))
    (h1 : ∀ n x j, j < e → f j = true → W n (x + g j) (nI (j + 1)) → W (n + 1) x (nI j))
    (h0 : ∀ n x j, j < e → f j = false → W n x (nI (j + 1)) → W (n + 1) x (nI j)) :
    ∀ d j x, j + d = e → post (cx_s f g d j x) → W (d + 1) x (nI j) := by
  intro d
  induction d with
  | zero =>
    intro j x h hp
    have e1 : j = e := by omega
    subst e1
    exact hx 0 x hp
  | succ d ih =>
    intro j x h hp
    rw [cx_s] at hp
    cases hf : f j with
    | true =>
      rw [hf, if_pos rfl] at hp
      exact h1 _ _ _ (by omega) hf (ih (j + 1) _ (by omega) hp)
    | false =>
      rw [hf, if_neg (by decide)] at hp
      exact h0 _ _ _ (by omega) hf (ih (j + 1) _ (by omega) hp)
theorem cx_loopc {W : Nat → Int32 → Int32 → Prop} {post : Int32 → Prop} (f : Nat → Bool) (e : Nat)
    (hx : ∀ n x, post x → W (n + 1) x (nI e))
    (h1 : ∀ n x j, j < e → f j = true → W n (x + 1) (nI (j + 1)) → W (n + 1) x (nI j))
    (h0 : ∀ n x j, j < e → f j = false → W n x (nI (j + 1)) → W (n + 1) x (nI j))
    (h : post (nI (cx_c f e 0))) : W (e + 1) 0 0 := by
  have t := cx_loop (W := W) (post := post) f (fun _ => 1) e hx h1 h0 e 0 0 (by omega) (by rw [cx_s_c, Int32.zero_add]; exact h)
  rw [nI_0] at t
  exact t
theorem cx_loopa {W : Nat → Int32 → Int32 → Prop} {P : Option Nat → Prop} (f : Nat → Bool) (i : Int32) (e : Nat)
    (hx : ∀ n b, P none → W (n + 1) b (nI e))
    (h0 : ∀ n b j, j < e → f j = false → W n b (nI (j + 1)) → W (n + 1) b (nI j))
    (h1 : ∀ n b j, j < e → f j = true → b = i → P (some j) → W (n + 1) b (nI j))
    (h2 : ∀ n b j, j < e → f j = true → ¬ b = i → W n (b + 1) (nI (j + 1)) → W (n + 1) b (nI j)) :
    ∀ d j b, j + d = e → P (cx_a f i d j b) → W (d + 1) b (nI j) := by
  intro d
  induction d with
  | zero =>
    intro j b h hp
    have e1 : j = e := by omega
    subst e1
    exact hx 0 b hp
  | succ d ih =>
    intro j b h hp
    rw [cx_a] at hp
    cases hf : f j with
    | true =>
      rw [hf, if_pos rfl] at hp
      by_cases hb : b = i
      · rw [if_pos hb] at hp
        exact h1 _ _ _ (by omega) hf hb hp
      · rw [if_neg hb] at hp
        exact h2 _ _ _ (by omega) hf hb (ih (j + 1) _ (by omega) hp)
    | false =>
      rw [hf, if_neg (by decide)] at hp
      exact h0 _ _ _ (by omega) hf (ih (j + 1) _ (by omega) hp)
/-! parties and items -/
theorem cx_party (p : Int32) : (∃ j : Nat, j < 3 ∧ p = nI j ∧ (∀ {post : Int32 → Prop}, post 1 → wpX_isParty post p) ∧ (∀ {post : Int32 → Prop} {u : SY}, post 0 → wpY_bad post u p)) ∨ ((∀ {post : Int32 → Prop}, post 0 → wpX_isParty post p) ∧ (∀ {post : Int32 → Prop} {u : SY}, post 1 → wpY_bad post u p)) := by
  rcases pk_ix p (n := 3) (by decide) with h | h | ⟨j, hj, rfl⟩
  · exact Or.inr ⟨fun hp => br_t h hp, fun hp => br_t h hp⟩
  · have h0 : ¬ p < 0 := by
      obtain h1 | h1 := Int32.lt_or_le p 0
      · exact absurd (Int32.le_trans h (Int32.le_of_lt h1)) (by decide)
      · exact Int32.not_lt.mpr h1
    have h2 : ¬ p ≤ 2 := fun h2 => absurd (Int32.le_trans h h2) (by decide)
    exact Or.inr ⟨fun hp => br_f h0 (br_t h hp), fun hp => br_f h0 (br_f h2 hp)⟩
  · have h0 : ¬ nI j < 0 := nI_pos (by omega)
    have h2 : nI j ≤ 2 := nI_le (b := 2) (by omega) (by decide)
    exact Or.inl ⟨j, hj, rfl, fun hp => br_f h0 (br_f (cx_lt3 hj) hp), fun hp => br_f h0 (br_t h2 hp)⟩
theorem cx_item (p : Int32) : (∃ j : Nat, j < 64 ∧ p = nI j ∧ (∀ {post : Int32 → Prop}, post 1 → wpX_isItem post p) ∧ (∀ {post : Int32 → Prop} {u : SY}, post 0 → wpY_badItem post u p)) ∨ ((∀ {post : Int32 → Prop}, post 0 → wpX_isItem post p) ∧ (∀ {post : Int32 → Prop} {u : SY}, post 1 → wpY_badItem post u p)) := by
  rcases pk_ix p (n := 64) (by decide) with h | h | ⟨j, hj, rfl⟩
  · exact Or.inr ⟨fun hp => br_t h hp, fun hp => br_t h hp⟩
  · have h0 : ¬ p < 0 := by
      obtain h1 | h1 := Int32.lt_or_le p 0
      · exact absurd (Int32.le_trans h (Int32.le_of_lt h1)) (by decide)
      · exact Int32.not_lt.mpr h1
    have h2 : ¬ p ≤ 63 := fun h2 => absurd (Int32.le_trans h h2) (by decide)
    exact Or.inr ⟨fun hp => br_f h0 (br_t h hp), fun hp => br_f h0 (br_f h2 hp)⟩
  · have h0 : ¬ nI j < 0 := nI_pos (by omega)
    have h2 : nI j ≤ 63 := nI_le (b := 63) (by omega) (by decide)
    exact Or.inl ⟨j, hj, rfl, fun hp => br_f h0 (br_f (cx_lt64 hj) hp), fun hp => br_f h0 (br_t h2 hp)⟩
/-! the component's own methods -/
theorem cx_con0 {post : Int32 → Prop} {w : Int64} {j : Nat} (hj : j < 64) (hb : cx_b w j = false) (h : post 0) : wpX_contains post w (nI j) := br_t ((ts_bit hj (cx_sh j hj)).mpr hb) h
theorem cx_con1 {post : Int32 → Prop} {w : Int64} {j : Nat} (hj : j < 64) (hb : cx_b w j = true) (h : post 1) : wpX_contains post w (nI j) :=
  br_f (fun z => by have t := (ts_bit hj (cx_sh j hj)).mp z; rw [show w.toBitVec.getLsbD j = true from hb] at t; cases t) h
theorem cx_sizeOf {post : Int32 → Prop} {w : Int64} (h : post (nI (cx_n (cx_b w)))) : wpX_sizeOf post w := by
  unfold wpX_sizeOf
  refine ⟨65, ?_⟩
  refine cx_loopc (W := fun n x y => wX_sizeOf_4 post w n x y) (post := post) (cx_b w) 64 ?_ ?_ ?_ h
  · intro n x hp
    exact br_t cx_64le hp
  · intro n x j hj hf hw
    exact br_f (cx_lt64 hj) (cx_con1 hj hf (br_f (by decide) (nm_e (nm_r (nI_1 j) hw))))
  · intro n x j hj hf hw
    exact br_f (cx_lt64 hj) (cx_con0 hj hf (br_t rfl (nm_r (nI_1 j) hw)))
theorem cx_itemAt {post : Int32 → Prop} {w : Int64} {i : Int32} (h : post (cx_o (-1) (cx_a (cx_b w) i 64 0 0))) : wpX_itemAt post w i := by
  unfold wpX_itemAt
  refine ⟨65, ?_⟩
  have t := cx_loopa (W := fun n x y => wX_itemAt_5 post w i n x y) (P := fun o => post (cx_o (-1) o)) (cx_b w) i 64 ?_ ?_ ?_ ?_ 64 0 0 (by omega) h
  · rw [nI_0] at t; exact t
  · intro n b hp
    exact br_t cx_64le hp
  · intro n b j hj hf hw
    exact br_f (cx_lt64 hj) (cx_con0 hj hf (br_t rfl (nm_r (nI_1 j) hw)))
  · intro n b j hj hf hb hp
    exact br_f (cx_lt64 hj) (cx_con1 hj hf (br_f (by decide) (br_t hb hp)))
  · intro n b j hj hf hb hw
    exact br_f (cx_lt64 hj) (cx_con1 hj hf (br_f (by decide) (br_f hb (nm_e (nm_r (nI_1 j) hw)))))
theorem cx_stepped {post : Int64 → Prop} {a c s : Nat} (ha : a < 64) (hc : c < 17) (hs : s < 64) (h : post (cx_st a s c 0 0)) : wpX_steppedSet post (nI a) (nI c) (nI s) := by
  have t : ∀ d i x, i + d = c → post (cx_st a s d i x) → wX_steppedSet_5 post (nI a) (nI c) (nI s) (d + 1) x (nI i) := by
    intro d
    induction d with
    | zero =>
      intro i x e hp
      exact br_t (nI_le (by omega) (by omega)) hp
    | succ d ih =>
      intro i x e hp
      have e2 := cx_arg ha (show i < 16 by omega) hs
      exact br_f (nI_ge (by omega) (by omega)) ⟨by decide, nm_r (by rw [e2]) (nm_r (nI_1 i) (ih (i + 1) _ (by omega) hp))⟩
  unfold wpX_steppedSet
  refine ⟨c + 1, ?_⟩
  have t2 := t c 0 0 (by omega) h
  rw [nI_0] at t2
  exact t2
theorem cx_weighOne {post : SX → Prop} {le : Int32} {sets : Nat → Int64} {wts secs : Nat → Int32} {p : Nat} {w : Int64} (hp : p < 3) (h : post (le, sets, cx_u (cx_b w) p 1 64 0 wts, secs)) : wpX_weighOne post (le, sets, wts, secs) (nI p) w := by
  have t : ∀ d j a, j + d = 64 → post (le, sets, cx_u (cx_b w) p 1 d j a, secs) → wX_weighOne_3 post (nI p) w le (d + 1) (nI j) sets a secs := by
    intro d
    induction d with
    | zero =>
      intro j a e hq
      have e1 : j = 64 := by omega
      subst e1
      exact br_t cx_64le hq
    | succ d ih =>
      intro j a e hq
      have hj : j < 64 := by omega
      rw [cx_u] at hq
      cases hf : cx_b w j with
      | true =>
        rw [hf, if_pos rfl] at hq
        exact br_f (cx_lt64 hj) (cx_con1 hj hf (br_f (by decide) ⟨cx_inX hp hj, nm_r (by rw [cx_clX hp hj]) (nm_r (nI_1 j) (ih (j + 1) _ (by omega) hq))⟩))
      | false =>
        rw [hf, if_neg (by decide)] at hq
        exact br_f (cx_lt64 hj) (cx_con0 hj hf (br_t rfl (nm_r (nI_1 j) (ih (j + 1) _ (by omega) hq))))
  unfold wpX_weighOne
  refine ⟨65, ?_⟩
  have t2 := t 64 0 wts (by omega) h
  rw [nI_0] at t2
  exact t2
def cx_h (sets : Nat → Int64) (i : Nat) : Nat := cx_c (fun p => cx_b (sets p) i) 3 0
theorem cx_h_le (sets : Nat → Int64) (i : Nat) : cx_h sets i ≤ 3 := cx_c_le _ 3 0
theorem cx_holdersOf {post : Int32 → Prop} {le : Int32} {sets : Nat → Int64} {wts secs : Nat → Int32} {i : Nat} (hi : i < 64) (h : post (nI (cx_h sets i))) : wpX_holdersOf post (le, sets, wts, secs) (nI i) := by
  unfold wpX_holdersOf
  refine ⟨4, ?_⟩
  refine cx_loopc (W := fun n x y => wX_holdersOf_4 post (nI i) le sets wts secs n x y) (post := post) (fun p => cx_b (sets p) i) 3 ?_ ?_ ?_ h
  · intro n x hp
    exact br_t cx_3le hp
  · intro n x j hj hf hw
    refine br_f (cx_lt3 hj) ⟨vp_in_nI hj (by decide), ?_⟩
    rw [nI_clamp (by omega)]
    exact cx_con1 hi hf (br_f (by decide) (nm_e (nm_r (nI_1 j) hw)))
  · intro n x j hj hf hw
    refine br_f (cx_lt3 hj) ⟨vp_in_nI hj (by decide), ?_⟩
    rw [nI_clamp (by omega)]
    exact cx_con0 hi hf (br_t rfl (nm_r (nI_1 j) hw))
def cx_le (le : Int32) (sets : Nat → Int64) (p q : Nat) : Int32 := if p = q then le else nI (cx_n (cx_b (sets p ||| sets q)))
theorem cx_cmp {post : Int64 → SX → Prop} {le : Int32} {sets : Nat → Int64} {wts secs : Nat → Int32} {p q : Nat} (hp : p < 3) (hq : q < 3) (h : post (sets p &&& sets q) (cx_le le sets p q, sets, wts, secs)) : wpX_compare post (le, sets, wts, secs) (nI p) (nI q) := by
  have t : ∀ l, post (sets p &&& sets q) (l, sets, wts, secs) → wX_compare_25 post (nI p) (nI q) l sets wts secs := by
    intro l hl
    refine ⟨vp_in_nI hp (by decide), vp_in_nI hq (by decide), ?_⟩
    rw [nI_clamp (by omega), nI_clamp (by omega)]
    exact hl
  unfold wpX_compare
  dsimp only
  unfold cx_le at h
  by_cases e : p = q
  · rw [if_pos e] at h
    exact br_t (by rw [e]) (t le h)
  · rw [if_neg e] at h
    refine br_f (fun z => e ((nI_eq (by omega) (by omega)).mp z)) ⟨vp_in_nI hp (by decide), vp_in_nI hq (by decide), ?_⟩
    rw [nI_clamp (by omega), nI_clamp (by omega)]
    exact cx_sizeOf (t _ h)
end
section
/-! the relation, and the reference's own methods -/
def cx_H (sets : Nat → Int64) (has : Nat → Int32) : Prop := ∀ p, p < 3 → ∀ i, i < 64 → (has (64 * p + i) = 0 ↔ cx_b (sets p) i = false)
def cx_M (sets : Nat → Int64) : Prop := ∀ p, p < 3 → cx_n (cx_b (sets p)) ≤ 16
/-- the last exchange and the weights are the same on both sides; a party's set has the items that the reference has marked; no party has more than 16 -/
def i_Rel (_ : Nat) (u : SX) (v : SY) : Prop := ∃ (le : Int32) (sets : Nat → Int64) (wts secs has : Nat → Int32), u = (le, sets, wts, secs) ∧ v = (le, has, wts) ∧ cx_H sets has ∧ cx_M sets
theorem cx_R {k : Nat} {le : Int32} {sets : Nat → Int64} {wts secs has : Nat → Int32} (H : cx_H sets has) (M : cx_M sets) : i_Rel k (le, sets, wts, secs) (le, has, wts) := ⟨le, sets, wts, secs, has, rfl, rfl, H, M⟩
theorem cx_has0 {sets : Nat → Int64} {has : Nat → Int32} (H : cx_H sets has) {p j : Nat} (hp : p < 3) (hj : j < 64) (hf : cx_b (sets p) j = false) : has ((64 : Int32) * nI p + nI j).toNatClampNeg = 0 := by
  rw [cx_clY hp hj]
  exact (H p hp j hj).mpr hf
theorem cx_has1 {sets : Nat → Int64} {has : Nat → Int32} (H : cx_H sets has) {p j : Nat} (hp : p < 3) (hj : j < 64) (hf : cx_b (sets p) j = true) : ¬ has ((64 : Int32) * nI p + nI j).toNatClampNeg = 0 := by
  rw [cx_clY hp hj]
  intro z
  have t := (H p hp j hj).mp z
  rw [hf] at t
  cases t
section
variable {sets : Nat → Int64} {has : Nat → Int32} {le : Int32} {wts : Nat → Int32}
theorem cx_size {post : Int32 → Prop} (H : cx_H sets has) {p : Nat} (hp : p < 3) (h : post (nI (cx_n (cx_b (sets p))))) : wpY_size post (le, has, wts) (nI p) := by
  unfold wpY_size
  refine ⟨65, ?_⟩
  refine cx_loopc (W := fun n x y => wY_size_4 post (nI p) le has wts n x y) (post := post) (cx_b (sets p)) 64 ?_ ?_ ?_ h
  · intro n x hq
    exact br_t cx_64le hq
  · intro n x j hj hf hw
    exact br_f (cx_lt64 hj) ⟨cx_inY hp hj, br_f (cx_has1 H hp hj hf) (nm_e (nm_r (nI_1 j) hw))⟩
  · intro n x j hj hf hw
    exact br_f (cx_lt64 hj) ⟨cx_inY hp hj, br_t (cx_has0 H hp hj hf) (nm_r (nI_1 j) hw)⟩
theorem cx_shared {post : Int32 → Prop} (H : cx_H sets has) {p q : Nat} (hp : p < 3) (hq : q < 3) (h : post (nI (cx_n (cx_b (sets p &&& sets q))))) : wpY_shared post (le, has, wts) (nI p) (nI q) := by
  unfold wpY_shared
  refine ⟨65, ?_⟩
  refine cx_loopc (W := fun n x y => wY_shared_5 post (nI p) (nI q) le has wts n x y) (post := post) (cx_b (sets p &&& sets q)) 64 ?_ ?_ ?_ h
  · intro n x hq
    exact br_t cx_64le hq
  · intro n x j hj hf hw
    rw [cx_b_and, Bool.and_eq_true] at hf
    exact br_f (cx_lt64 hj) ⟨cx_inY hp hj, br_f (cx_has1 H hp hj hf.1) ⟨cx_inY hq hj, br_f (cx_has1 H hq hj hf.2) (nm_e (nm_r (nI_1 j) hw))⟩⟩
  · intro n x j hj hf hw
    rw [cx_b_and] at hf
    cases h1 : cx_b (sets p) j with
    | false => exact br_f (cx_lt64 hj) ⟨cx_inY hp hj, br_t (cx_has0 H hp hj h1) (nm_r (nI_1 j) hw)⟩
    | true =>
      rw [h1, Bool.true_and] at hf
      exact br_f (cx_lt64 hj) ⟨cx_inY hp hj, br_f (cx_has1 H hp hj h1) ⟨cx_inY hq hj, br_t (cx_has0 H hq hj hf) (nm_r (nI_1 j) hw)⟩⟩
theorem cx_ex (a b : Int64) : (nI (cx_n (cx_b a)) + nI (cx_n (cx_b b))) - nI (cx_n (cx_b (a &&& b))) = nI (cx_n (cx_b (a ||| b))) := by
  have e1 : cx_b (a ||| b) = fun i => cx_b a i || cx_b b i := funext (cx_b_or a b)
  have e2 : cx_b (a &&& b) = fun i => cx_b a i && cx_b b i := funext (cx_b_and a b)
  have h := cx_c_oa (cx_b a) (cx_b b) 64 0
  rw [← e1, ← e2] at h
  change cx_n _ + cx_n _ = cx_n _ + cx_n _ at h
  rw [nI_add, pk_sub (by omega)]
  exact congrArg nI (by omega)
theorem cx_note {post : SY → Prop} (H : cx_H sets has) {p q : Nat} (hp : p < 3) (hq : q < 3) (h : post (cx_le le sets p q, has, wts)) : wpY_note post (le, has, wts) (nI p) (nI q) := by
  unfold wpY_note
  dsimp only
  unfold cx_le at h
  by_cases e : p = q
  · rw [if_pos e] at h
    exact br_t (by rw [e]) h
  · rw [if_neg e] at h
    refine br_f (fun z => e ((nI_eq (by omega) (by omega)).mp z)) ?_
    refine cx_size H hp ?_
    refine cx_size H hq ?_
    refine cx_shared H hp hq ?_
    exact nm_r (cx_ex (sets p) (sets q)) h
theorem cx_holders {post : Int32 → Prop} (H : cx_H sets has) {i : Nat} (hi : i < 64) (h : post (nI (cx_h sets i))) : wpY_holders post (le, has, wts) (nI i) := by
  unfold wpY_holders
  refine ⟨4, ?_⟩
  refine cx_loopc (W := fun n x y => wY_holders_4 post (nI i) le has wts n x y) (post := post) (fun p => cx_b (sets p) i) 3 ?_ ?_ ?_ h
  · intro n x hq
    exact br_t cx_3le hq
  · intro n x j hj hf hw
    exact br_f (cx_lt3 hj) ⟨cx_inY hj hi, br_f (cx_has1 H hj hi hf) (nm_e (nm_r (nI_1 j) hw))⟩
  · intro n x j hj hf hw
    exact br_f (cx_lt3 hj) ⟨cx_inY hj hi, br_t (cx_has0 H hj hi hf) (nm_r (nI_1 j) hw)⟩
theorem cx_heldBy {post : Int32 → Prop} (H : cx_H sets has) {k : Int32} (h : post (nI (cx_n (fun i => decide (nI (cx_h sets i) = k))))) : wpY_heldBy post (le, has, wts) k := by
  unfold wpY_heldBy
  refine ⟨65, ?_⟩
  refine cx_loopc (W := fun n x y => wY_heldBy_4 post k le has wts n x y) (post := post) (fun i => decide (nI (cx_h sets i) = k)) 64 ?_ ?_ ?_ h
  · intro n x hq
    exact br_t cx_64le hq
  · intro n x j hj hf hw
    refine br_f (cx_lt64 hj) (cx_holders H hj ?_)
    exact br_t (of_decide_eq_true hf) (nm_e (nm_r (nI_1 j) hw))
  · intro n x j hj hf hw
    refine br_f (cx_lt64 hj) (cx_holders H hj ?_)
    exact br_f (of_decide_eq_false hf) (nm_r (nI_1 j) hw)
theorem cx_among {post : Int32 → Prop} {a c s j : Nat} (ha : a < 64) (hc : c < 17) (hs : s < 64) (hj : j < 64) (h : post (if cx_am a s c 0 j then 1 else 0)) : wpY_among post (le, has, wts) (nI a) (nI c) (nI s) (nI j) := by
  have t : ∀ d i, i + d = c → post (if cx_am a s d i j then 1 else 0) → wY_among_3 post (nI a) (nI c) (nI s) (nI j) le has wts (d + 1) (nI i) := by
    intro d
    induction d with
    | zero =>
      intro i e hp
      exact br_t (nI_le (by omega) (by omega)) hp
    | succ d ih =>
      intro i e hp
      have e2 := cx_arg ha (show i < 16 by omega) hs
      rw [cx_am] at hp
      refine br_f (nI_ge (by omega) (by omega)) ⟨by decide, ?_⟩
      rw [e2]
      by_cases z : (a + i * s) % 64 = j
      · rw [decide_eq_true z, Bool.true_or, if_pos rfl] at hp
        exact br_t (by rw [z]) hp
      · rw [decide_eq_false z, Bool.false_or] at hp
        exact br_f (fun y => z ((nI_eq (by omega) (by omega)).mp y)) (nm_r (nI_1 i) (ih (i + 1) (by omega) hp))
  unfold wpY_among
  refine ⟨c + 1, ?_⟩
  have t2 := t c 0 (by omega) h
  rw [nI_0] at t2
  exact t2
theorem cx_amT {post : Int32 → Prop} {a c s j : Nat} (ha : a < 64) (hc : c < 17) (hs : s < 64) (hj : j < 64) (e : cx_am a s c 0 j = true) (h : post 1) : wpY_among post (le, has, wts) (nI a) (nI c) (nI s) (nI j) := cx_among ha hc hs hj (by rw [e]; exact h)
theorem cx_amF {post : Int32 → Prop} {a c s j : Nat} (ha : a < 64) (hc : c < 17) (hs : s < 64) (hj : j < 64) (e : cx_am a s c 0 j = false) (h : post 0) : wpY_among post (le, has, wts) (nI a) (nI c) (nI s) (nI j) := cx_among ha hc hs hj (by rw [e]; exact h)
end
end
section
/-! the methods that don't fill many places at once -/
theorem cx_H_upd {sets : Nat → Int64} {has has' : Nat → Int32} (H : cx_H sets has) {p : Nat} {w : Int64} (h1 : ∀ i, i < 64 → (has' (64 * p + i) = 0 ↔ cx_b w i = false)) (h2 : ∀ m, (m < 64 * p ∨ 64 * p + 64 ≤ m) → has' m = has m) : cx_H (vp_updL sets p w) has' := by
  intro q hq i hi
  by_cases e : q = p
  · subst e
    rw [pk_uLs]
    exact h1 i hi
  · rw [pk_uLn e, h2 (64 * q + i) (by omega)]
    exact H q hq i hi
theorem cx_M_upd {sets : Nat → Int64} (M : cx_M sets) {p : Nat} {w : Int64} (h : cx_n (cx_b w) ≤ 16) : cx_M (vp_updL sets p w) := by
  intro q hq
  by_cases e : q = p
  · subst e
    rw [pk_uLs]
    exact h
  · rw [pk_uLn e]
    exact M q hq
theorem i_up {k : Nat} {u : SX} {v : SY} (h : i_Rel k u v) : i_Rel (k + 4) u v := h
theorem i_vc0 (k0 : Int32) (k1 : Int32) (k2 : Int32) : wpX_init (fun u => wpY_init (fun v => i_Rel 3 u v) k0 k1 k2) k0 k1 k2 := by
  intro a _ b _ c _
  refine cx_R (k := 3) (fun p _ i _ => ⟨fun _ => cx_b_0 i, fun _ => rfl⟩) (fun p _ => ?_)
  have e : cx_n (cx_b 0) = cx_n (fun _ => false) := cx_n_congr (fun i _ => cx_b_0 i)
  show cx_n (cx_b 0) ≤ 16
  rw [e]
  decide
theorem i_vc_secret {k : Nat} {u : SX} {v : SY} (I : i_Rel k u v) (hk : k + 4 ≤ 2051) (v1 : Int32) (v2 : Int32) : wpX_secret (fun r u' => wpY_secret (fun r' => r' = r ∧ i_Rel (k + 4) u' v) v v1 v2) u v1 v2 := by
  obtain ⟨le, sets, wts, secs, has, rfl, rfl, H, M⟩ := I
  unfold wpX_secret wpY_secret
  dsimp only
  rcases cx_party v1 with ⟨p, hp, rfl, hX, hY⟩ | ⟨hX, hY⟩
  · exact hX (br_f (by decide) ⟨vp_in_nI hp (by decide), nm_e (hY (br_t rfl ⟨rfl, cx_R H M⟩))⟩)
  · exact hX (br_t rfl (hY (br_f (by decide) ⟨rfl, cx_R H M⟩)))
theorem i_vc_give {k : Nat} {u : SX} {v : SY} (I : i_Rel k u v) (hk : k + 4 ≤ 2051) (v1 : Int32) (v2 : Int32) (v3 : Int32) : wpX_give (fun r u' => wpY_give (fun r' v' => r' = r ∧ i_Rel (k + 4) u' v') v v1 v2 v3) u v1 v2 v3 := by
  obtain ⟨le, sets, wts, secs, has, rfl, rfl, H, M⟩ := I
  unfold wpX_give wpY_give
  dsimp only
  rcases cx_party v1 with ⟨p, hp, rfl, hX, hY⟩ | ⟨hX, hY⟩
  · refine hX (br_f (by decide) ?_)
    rcases cx_item v2 with ⟨i, hi, rfl, gX, gY⟩ | ⟨gX, gY⟩
    · refine gX (br_f (by decide) ⟨vp_in_nI hp (by decide), ?_⟩)
      rw [nI_clamp (show p < 2 ^ 31 by omega)]
      intro w ew
      have hb : ∀ j, cx_b w j = (cx_b (sets p) j || decide (i = j)) := fun j => by rw [ew, cx_b_or, cx_b_one hi]
      have hn : cx_n (cx_b w) = cx_n (cx_b (sets p)) + (!cx_b (sets p) i).toNat := by
        rw [show cx_b w = _ from funext hb]
        exact cx_n_one _ hi
      have hM := M p hp
      have Hs : cx_H (vp_updL sets p w) (upd has (64 * p + i) (vp_nar .boolean 1)) := by
        refine cx_H_upd H (fun j hj => ?_) (fun m hm => pk_un (by omega))
        rw [hb j]
        by_cases e : i = j
        · subst e
          rw [pk_us, cx_nb1, decide_eq_true rfl, Bool.or_true]
          exact ⟨fun z => absurd z (by decide), fun z => nomatch z⟩
        · rw [pk_un (by omega), decide_eq_false e, Bool.or_false]
          exact H p hp j hj
      have G : cx_n (cx_b w) ≤ 16 → wY_give_48 (fun r' v' => r' = nI (cx_n (cx_b w)) ∧ i_Rel (k + 4) (le, vp_updL sets p w, upd wts (64 * p + i) v3, secs) v') (nI p) (nI i) v3 le has wts := by
        intro hle
        refine ⟨cx_inY hp hi, nm_r (by rw [cx_clY hp hi]) ⟨cx_inY hp hi, nm_r (by rw [cx_clY hp hi]) ?_⟩⟩
        refine cx_size Hs hp ?_
        rw [pk_uLs]
        exact ⟨rfl, cx_R Hs (cx_M_upd M hle)⟩
      refine cx_sizeOf ?_
      by_cases hle : cx_n (cx_b w) ≤ 16
      · refine br_t (nI_le (b := 16) hle (by decide)) ⟨vp_in_nI hp (by decide), nm_e ⟨cx_inX hp hi, nm_r (by rw [cx_clX hp hi]) ?_⟩⟩
        refine hY (br_t rfl ?_)
        refine gY (br_t rfl ?_)
        refine cx_size H hp ?_
        by_cases h16 : cx_n (cx_b (sets p)) = 16
        · have hf : cx_b (sets p) i = true := by
            cases hz : cx_b (sets p) i with
            | true => rfl
            | false =>
              rw [hz, h16] at hn
              rw [hn] at hle
              exact absurd hle (by decide)
          exact br_t (by rw [h16]; rfl) ⟨cx_inY hp hi, br_f (cx_has1 H hp hi hf) (G hle)⟩
        · exact br_f (fun z => h16 ((nI_eq (b := 16) (by omega) (by decide)).mp z)) (G hle)
      · have h64 := cx_n_le (cx_b w)
        refine br_f (nI_ge (a := 16) (by omega) (by omega)) ?_
        refine hY (br_t rfl ?_)
        refine gY (br_t rfl ?_)
        refine cx_size H hp ?_
        have hf : cx_b (sets p) i = false := by
          cases hz : cx_b (sets p) i with
          | false => rfl
          | true =>
            rw [hz] at hn
            change cx_n (cx_b w) = cx_n (cx_b (sets p)) + 0 at hn
            omega
        have h16 : cx_n (cx_b (sets p)) = 16 := by
          rw [hf] at hn
          change cx_n (cx_b w) = cx_n (cx_b (sets p)) + 1 at hn
          omega
        exact br_t (by rw [h16]; rfl) ⟨cx_inY hp hi, br_t (cx_has0 H hp hi hf) ⟨rfl, cx_R H M⟩⟩
    · refine gX (br_t rfl ?_)
      refine hY (br_t rfl ?_)
      exact gY (br_f (by decide) ⟨rfl, cx_R H M⟩)
  · exact hX (br_t rfl (hY (br_f (by decide) ⟨rfl, cx_R H M⟩)))
theorem i_vc_take {k : Nat} {u : SX} {v : SY} (I : i_Rel k u v) (hk : k + 4 ≤ 2051) (v1 : Int32) (v2 : Int32) : wpX_take (fun r u' => wpY_take (fun r' v' => r' = r ∧ i_Rel (k + 4) u' v') v v1 v2) u v1 v2 := by
  obtain ⟨le, sets, wts, secs, has, rfl, rfl, H, M⟩ := I
  unfold wpX_take wpY_take
  dsimp only
  rcases cx_party v1 with ⟨p, hp, rfl, hX, hY⟩ | ⟨hX, hY⟩
  · refine hX (br_f (by decide) ?_)
    rcases cx_item v2 with ⟨i, hi, rfl, gX, gY⟩ | ⟨gX, gY⟩
    · refine gX (br_f (by decide) ⟨vp_in_nI hp (by decide), ?_⟩)
      rw [nI_clamp (show p < 2 ^ 31 by omega)]
      cases hf : cx_b (sets p) i with
      | false =>
        refine cx_con0 hi hf (br_t rfl ?_)
        refine hY (br_t rfl ?_)
        refine gY (br_t rfl ?_)
        exact ⟨cx_inY hp hi, br_t (cx_has0 H hp hi hf) ⟨rfl, cx_R H M⟩⟩
      | true =>
        have hw : ∀ w, w = (sets p) &&& (((1 : Int64) <<< ((nI i).toInt64 &&& 63)) ^^^ (-1)) → ∀ j, j < 64 → cx_b w j = (cx_b (sets p) j && !decide (i = j)) := by
          intro w ew j hj
          rw [ew, cx_b_and, cx_b_not _ hj, cx_b_one hi]
        generalize (sets p) &&& (((1 : Int64) <<< ((nI i).toInt64 &&& 63)) ^^^ (-1)) = w at hw ⊢
        have hb := hw w rfl
        have hle : cx_n (cx_b w) ≤ 16 := by
          have e : cx_n (cx_b w) = cx_n (fun j => cx_b (sets p) j && !decide (i = j)) := cx_n_congr hb
          have h1 := cx_c_al (cx_b (sets p)) (fun j => !decide (i = j)) 64 0
          have h2 := M p hp
          rw [e]
          exact Nat.le_trans h1 h2
        have Hs : cx_H (vp_updL sets p w) (upd has (64 * p + i) (vp_nar .boolean 0)) := by
          refine cx_H_upd H (fun j hj => ?_) (fun m hm => pk_un (by omega))
          rw [hb j hj]
          by_cases e : i = j
          · subst e
            rw [pk_us, cx_nb0, decide_eq_true rfl, Bool.not_true, Bool.and_false]
            exact ⟨fun _ => rfl, fun _ => rfl⟩
          · rw [pk_un (by omega), decide_eq_false e, Bool.not_false, Bool.and_true]
            exact H p hp j hj
        refine cx_con1 hi hf (br_f (by decide) ⟨vp_in_nI hp (by decide), vp_in_nI hp (by decide), nm_e ⟨vp_in_nI hp (by decide), ?_⟩⟩)
        rw [pk_uLs]
        refine cx_sizeOf ?_
        refine hY (br_t rfl ?_)
        refine gY (br_t rfl ?_)
        refine ⟨cx_inY hp hi, br_f (cx_has1 H hp hi hf) ⟨cx_inY hp hi, nm_r (by rw [cx_clY hp hi]) ?_⟩⟩
        refine cx_size Hs hp ?_
        rw [pk_uLs]
        exact ⟨rfl, cx_R Hs (cx_M_upd M hle)⟩
    · refine gX (br_t rfl ?_)
      refine hY (br_t rfl ?_)
      exact gY (br_f (by decide) ⟨rfl, cx_R H M⟩)
  · exact hX (br_t rfl (hY (br_f (by decide) ⟨rfl, cx_R H M⟩)))
theorem cx_clear {post : Int32 → SY → Prop} {le r : Int32} {has wts : Nat → Int32} {p : Nat} (hp : p < 3) (h : post r (le, cx_u (fun _ => true) p (vp_nar .boolean 0) 64 0 has, wts)) : wY_clear_18 post (nI p) r le 65 0 has wts := by
  have t : ∀ d j a, j + d = 64 → post r (le, cx_u (fun _ => true) p (vp_nar .boolean 0) d j a, wts) → wY_clear_18 post (nI p) r le (d + 1) (nI j) a wts := by
    intro d
    induction d with
    | zero =>
      intro j a e hq
      have e1 : j = 64 := by omega
      subst e1
      exact br_t cx_64le hq
    | succ d ih =>
      intro j a e hq
      have hj : j < 64 := by omega
      rw [cx_u, if_pos rfl] at hq
      exact br_f (cx_lt64 hj) ⟨cx_inY hp hj, nm_r (by rw [cx_clY hp hj]) (nm_r (nI_1 j) (ih (j + 1) _ (by omega) hq))⟩
  have t2 := t 64 0 has (by omega) h
  rw [nI_0] at t2
  exact t2
theorem i_vc_clear {k : Nat} {u : SX} {v : SY} (I : i_Rel k u v) (hk : k + 4 ≤ 2051) (v1 : Int32) : wpX_clear (fun r u' => wpY_clear (fun r' v' => r' = r ∧ i_Rel (k + 4) u' v') v v1) u v1 := by
  obtain ⟨le, sets, wts, secs, has, rfl, rfl, H, M⟩ := I
  unfold wpX_clear wpY_clear
  dsimp only
  rcases cx_party v1 with ⟨p, hp, rfl, hX, hY⟩ | ⟨hX, hY⟩
  · refine hX (br_f (by decide) ⟨vp_in_nI hp (by decide), ?_⟩)
    rw [nI_clamp (show p < 2 ^ 31 by omega)]
    refine cx_sizeOf ⟨vp_in_nI hp (by decide), nm_e ?_⟩
    refine hY (br_t rfl ?_)
    refine cx_size H hp ⟨65, cx_clear hp ⟨rfl, cx_R ?_ (cx_M_upd M ?_)⟩⟩
    · refine cx_H_upd H (fun i hi => ?_) (fun m hm => cx_u_out _ _ _ _ _ _ _ (by omega))
      rw [cx_u_in _ _ _ _ _ _ _ (by omega) (by omega), if_pos rfl, cx_b_0, cx_nb0]
      exact ⟨fun _ => rfl, fun _ => rfl⟩
    · have e : cx_n (cx_b 0) = cx_n (fun _ => false) := cx_n_congr (fun i _ => cx_b_0 i)
      rw [e]
      decide
  · exact hX (br_t rfl (hY (br_f (by decide) ⟨rfl, cx_R H M⟩)))
theorem i_vc_held {k : Nat} {u : SX} {v : SY} (I : i_Rel k u v) (hk : k + 4 ≤ 2051) (v1 : Int32) : wpX_held (fun r => wpY_held (fun r' => r' = r ∧ i_Rel (k + 4) u v) v v1) u v1 := by
  obtain ⟨le, sets, wts, secs, has, rfl, rfl, H, M⟩ := I
  unfold wpX_held wpY_held
  dsimp only
  rcases cx_party v1 with ⟨p, hp, rfl, hX, hY⟩ | ⟨hX, hY⟩
  · refine hX (br_f (by decide) ⟨vp_in_nI hp (by decide), ?_⟩)
    rw [nI_clamp (show p < 2 ^ 31 by omega)]
    refine cx_sizeOf ?_
    refine hY (br_t rfl ?_)
    exact cx_size H hp ⟨rfl, cx_R H M⟩
  · exact hX (br_t rfl (hY (br_f (by decide) ⟨rfl, cx_R H M⟩)))
theorem i_vc_holds {k : Nat} {u : SX} {v : SY} (I : i_Rel k u v) (hk : k + 4 ≤ 2051) (v1 : Int32) (v2 : Int32) : wpX_holds (fun r => wpY_holds (fun r' => r' = r ∧ i_Rel (k + 4) u v) v v1 v2) u v1 v2 := by
  obtain ⟨le, sets, wts, secs, has, rfl, rfl, H, M⟩ := I
  unfold wpX_holds wpY_holds
  dsimp only
  rcases cx_party v1 with ⟨p, hp, rfl, hX, hY⟩ | ⟨hX, hY⟩
  · refine hX (br_f (by decide) ?_)
    rcases cx_item v2 with ⟨i, hi, rfl, gX, gY⟩ | ⟨gX, gY⟩
    · refine gX (br_f (by decide) ⟨vp_in_nI hp (by decide), ?_⟩)
      rw [nI_clamp (show p < 2 ^ 31 by omega)]
      cases hf : cx_b (sets p) i with
      | false =>
        refine cx_con0 hi hf (br_t rfl ?_)
        refine hY (br_t rfl ?_)
        refine gY (br_t rfl ?_)
        exact ⟨cx_inY hp hi, br_t (cx_has0 H hp hi hf) ⟨rfl, cx_R H M⟩⟩
      | true =>
        refine cx_con1 hi hf (br_f (by decide) ?_)
        refine hY (br_t rfl ?_)
        refine gY (br_t rfl ?_)
        exact ⟨cx_inY hp hi, br_f (cx_has1 H hp hi hf) ⟨rfl, cx_R H M⟩⟩
    · refine gX (br_t rfl ?_)
      refine hY (br_t rfl ?_)
      exact gY (br_f (by decide) ⟨rfl, cx_R H M⟩)
  · exact hX (br_t rfl (hY (br_f (by decide) ⟨rfl, cx_R H M⟩)))
theorem i_vc_traffic {k : Nat} {u : SX} {v : SY} (I : i_Rel k u v) (hk : k + 4 ≤ 2051) : wpX_traffic (fun r => wpY_traffic (fun r' => r' = r ∧ i_Rel (k + 4) u v) v) u := by
  obtain ⟨le, sets, wts, secs, has, rfl, rfl, H, M⟩ := I
  exact ⟨rfl, cx_R H M⟩
end
section
/-! the methods that compare -/
section
variable {sets : Nat → Int64} {has : Nat → Int32} {le : Int32} {wts secs : Nat → Int32}
theorem cx_commonItemY {post : Int32 → SY → Prop} (H : cx_H sets has) {p q : Nat} {i : Int32} (hp : p < 3) (hq : q < 3) (h : post (cx_o (-2) (cx_a (cx_b (sets p &&& sets q)) i 64 0 0)) (le, has, wts)) : wY_commonItem_30 post (nI p) (nI q) i le has wts 65 0 0 := by
  have t := cx_loopa (W := fun n x y => wY_commonItem_30 post (nI p) (nI q) i le has wts n x y) (P := fun o => post (cx_o (-2) o) (le, has, wts)) (cx_b (sets p &&& sets q)) i 64 ?_ ?_ ?_ ?_ 64 0 0 (by omega) h
  · rw [nI_0] at t; exact t
  · intro n b hz
    exact br_t cx_64le hz
  · intro n b j hj hf hw
    rw [cx_b_and] at hf
    cases h1 : cx_b (sets p) j with
    | false => exact br_f (cx_lt64 hj) ⟨cx_inY hp hj, br_t (cx_has0 H hp hj h1) (nm_r (nI_1 j) hw)⟩
    | true =>
      rw [h1, Bool.true_and] at hf
      exact br_f (cx_lt64 hj) ⟨cx_inY hp hj, br_f (cx_has1 H hp hj h1) ⟨cx_inY hq hj, br_t (cx_has0 H hq hj hf) (nm_r (nI_1 j) hw)⟩⟩
  · intro n b j hj hf hb hz
    rw [cx_b_and, Bool.and_eq_true] at hf
    exact br_f (cx_lt64 hj) ⟨cx_inY hp hj, br_f (cx_has1 H hp hj hf.1) ⟨cx_inY hq hj, br_f (cx_has1 H hq hj hf.2) (br_t hb hz)⟩⟩
  · intro n b j hj hf hb hw
    rw [cx_b_and, Bool.and_eq_true] at hf
    exact br_f (cx_lt64 hj) ⟨cx_inY hp hj, br_f (cx_has1 H hp hj hf.1) ⟨cx_inY hq hj, br_f (cx_has1 H hq hj hf.2) (br_f hb (nm_e (nm_r (nI_1 j) hw)))⟩⟩
theorem cx_commonWeightY {post : Int32 → SY → Prop} (H : cx_H sets has) {p q : Nat} (hp : p < 3) (hq : q < 3) (h : post (cx_s (cx_b (sets p &&& sets q)) (fun j => wts (64 * p + j)) 64 0 0) (le, has, wts)) : wY_commonWeight_29 post (nI p) (nI q) le has wts 65 0 0 := by
  have t := cx_loop (W := fun n x y => wY_commonWeight_29 post (nI p) (nI q) le has wts n x y) (post := fun x => post x (le, has, wts)) (cx_b (sets p &&& sets q)) (fun j => wts (64 * p + j)) 64 ?_ ?_ ?_ 64 0 0 (by omega) h
  · rw [nI_0] at t; exact t
  · intro n x hz
    exact br_t cx_64le hz
  · intro n x j hj hf hw
    rw [cx_b_and, Bool.and_eq_true] at hf
    exact br_f (cx_lt64 hj) ⟨cx_inY hp hj, br_f (cx_has1 H hp hj hf.1) ⟨cx_inY hq hj, br_f (cx_has1 H hq hj hf.2) ⟨cx_inY hp hj, nm_r (by rw [cx_clY hp hj]) (nm_r (nI_1 j) hw)⟩⟩⟩
  · intro n x j hj hf hw
    rw [cx_b_and] at hf
    cases h1 : cx_b (sets p) j with
    | false => exact br_f (cx_lt64 hj) ⟨cx_inY hp hj, br_t (cx_has0 H hp hj h1) (nm_r (nI_1 j) hw)⟩
    | true =>
      rw [h1, Bool.true_and] at hf
      exact br_f (cx_lt64 hj) ⟨cx_inY hp hj, br_f (cx_has1 H hp hj h1) ⟨cx_inY hq hj, br_t (cx_has0 H hq hj hf) (nm_r (nI_1 j) hw)⟩⟩
theorem cx_commonWeightX {post : Int32 → SX → Prop} {p : Nat} {w : Int64} (hp : p < 3) (h : post (cx_s (cx_b w) (fun j => wts (64 * p + j)) 64 0 0) (le, sets, wts, secs)) : wX_commonWeight_29 post (nI p) w le sets wts secs 65 0 0 := by
  have t := cx_loop (W := fun n x y => wX_commonWeight_29 post (nI p) w le sets wts secs n x y) (post := fun x => post x (le, sets, wts, secs)) (cx_b w) (fun j => wts (64 * p + j)) 64 ?_ ?_ ?_ 64 0 0 (by omega) h
  · rw [nI_0] at t; exact t
  · intro n x hz
    exact br_t cx_64le hz
  · intro n x j hj hf hw
    exact br_f (cx_lt64 hj) (cx_con1 hj hf (br_f (by decide) ⟨cx_inX hp hj, nm_r (by rw [cx_clX hp hj]) (nm_r (nI_1 j) hw)⟩))
  · intro n x j hj hf hw
    exact br_f (cx_lt64 hj) (cx_con0 hj hf (br_t rfl (nm_r (nI_1 j) hw)))
theorem cx_heldByJustX {post : Int32 → Prop} {k : Int32} (h : post (nI (cx_n (fun i => decide (nI (cx_h sets i) = k))))) : wX_heldByJust_16 post k le sets wts secs 65 0 0 := by
  refine cx_loopc (W := fun n x y => wX_heldByJust_16 post k le sets wts secs n x y) (post := post) (fun i => decide (nI (cx_h sets i) = k)) 64 ?_ ?_ ?_ h
  · intro n x hq
    exact br_t cx_64le hq
  · intro n x j hj hf hw
    refine br_f (cx_lt64 hj) (cx_holdersOf hj ?_)
    exact br_t (of_decide_eq_true hf) (nm_e (nm_r (nI_1 j) hw))
  · intro n x j hj hf hw
    refine br_f (cx_lt64 hj) (cx_holdersOf hj ?_)
    exact br_f (of_decide_eq_false hf) (nm_r (nI_1 j) hw)
theorem cx_itemOfAllY {post : Int32 → Prop} (H : cx_H sets has) {i : Int32} (h : post (cx_o (-1) (cx_a (fun j => decide (nI (cx_h sets j) = 3)) i 64 0 0))) : wY_itemOfAll_4 post i le has wts 65 0 0 := by
  have t := cx_loopa (W := fun n x y => wY_itemOfAll_4 post i le has wts n x y) (P := fun o => post (cx_o (-1) o)) (fun j => decide (nI (cx_h sets j) = 3)) i 64 ?_ ?_ ?_ ?_ 64 0 0 (by omega) h
  · rw [nI_0] at t; exact t
  · intro n b hz
    exact br_t cx_64le hz
  · intro n b j hj hf hw
    exact br_f (cx_lt64 hj) (cx_holders H hj (br_f (of_decide_eq_false hf) (nm_r (nI_1 j) hw)))
  · intro n b j hj hf hb hz
    exact br_f (cx_lt64 hj) (cx_holders H hj (br_t (of_decide_eq_true hf) (br_t hb hz)))
  · intro n b j hj hf hb hw
    exact br_f (cx_lt64 hj) (cx_holders H hj (br_t (of_decide_eq_true hf) (br_f hb (nm_e (nm_r (nI_1 j) hw)))))
theorem cx_aloneY {post : Int32 → Prop} (H : cx_H sets has) {p : Nat} (hp : p < 3) (h : post (nI (cx_n (fun i => cx_b (sets p) i && decide (nI (cx_h sets i) = 1))))) : wY_alone_14 post (nI p) le has wts 65 0 0 := by
  refine cx_loopc (W := fun n x y => wY_alone_14 post (nI p) le has wts n x y) (post := post) (fun i => cx_b (sets p) i && decide (nI (cx_h sets i) = 1)) 64 ?_ ?_ ?_ h
  · intro n x hq
    exact br_t cx_64le hq
  · intro n x j hj hf hw
    rw [Bool.and_eq_true] at hf
    exact br_f (cx_lt64 hj) ⟨cx_inY hp hj, br_f (cx_has1 H hp hj hf.1) (cx_holders H hj (br_t (of_decide_eq_true hf.2) (nm_e (nm_r (nI_1 j) hw))))⟩
  · intro n x j hj hf hw
    cases h1 : cx_b (sets p) j with
    | false => exact br_f (cx_lt64 hj) ⟨cx_inY hp hj, br_t (cx_has0 H hp hj h1) (nm_r (nI_1 j) hw)⟩
    | true =>
      rw [h1, Bool.true_and] at hf
      exact br_f (cx_lt64 hj) ⟨cx_inY hp hj, br_f (cx_has1 H hp hj h1) (cx_holders H hj (br_f (of_decide_eq_false hf) (nm_r (nI_1 j) hw)))⟩
theorem cx_hb (sets : Nat → Int64) (i : Nat) : cx_h sets i = (cx_b (sets 0) i).toNat + ((cx_b (sets 1) i).toNat + ((cx_b (sets 2) i).toNat + 0)) := rfl
theorem cx_b3 : ∀ a b c : Bool, ((a && b) && c) = decide (nI (a.toNat + (b.toNat + (c.toNat + 0))) = 3) := by decide +kernel
theorem cx_b0 : ∀ a b c : Bool, decide (nI (a.toNat + (b.toNat + (c.toNat + 0))) = 0) = !((a || b) || c) := by decide +kernel
theorem cx_a0 : ∀ a b c : Bool, (a && !(b || c)) = (a && decide (nI (a.toNat + (b.toNat + (c.toNat + 0))) = 1)) := by decide +kernel
theorem cx_a1 : ∀ a b c : Bool, (b && !(c || a)) = (b && decide (nI (a.toNat + (b.toNat + (c.toNat + 0))) = 1)) := by decide +kernel
theorem cx_a2 : ∀ a b c : Bool, (c && !(a || b)) = (c && decide (nI (a.toNat + (b.toNat + (c.toNat + 0))) = 1)) := by decide +kernel
theorem cx_all (sets : Nat → Int64) (i : Nat) : cx_b (((sets 0) &&& (sets 1)) &&& (sets 2)) i = decide (nI (cx_h sets i) = 3) := by
  rw [cx_b_and, cx_b_and, cx_hb]
  exact cx_b3 _ _ _
theorem cx_none (sets : Nat → Int64) (i : Nat) : decide (nI (cx_h sets i) = 0) = !cx_b (((sets 0) ||| (sets 1)) ||| (sets 2)) i := by
  rw [cx_b_or, cx_b_or, cx_hb]
  exact cx_b0 _ _ _
theorem cx_sole (sets : Nat → Int64) {p i : Nat} (hp : p < 3) (hi : i < 64) : cx_b ((sets p) &&& ((sets ((p + 1) % 3) ||| sets ((p + 2) % 3)) ^^^ (-1))) i = (cx_b (sets p) i && decide (nI (cx_h sets i) = 1)) := by
  rw [cx_b_and, cx_b_not _ hi, cx_b_or, cx_hb]
  have e : p = 0 ∨ p = 1 ∨ p = 2 := by omega
  rcases e with rfl | rfl | rfl
  · exact cx_a0 _ _ _
  · exact cx_a1 _ _ _
  · exact cx_a2 _ _ _
theorem cx_rem3 {a : Nat} (ha : a < 2 ^ 31) : nI a - nI a / 3 * 3 = nI (a % 3) := pk_rem (d := 3) ha (by decide) (by decide)
theorem cx_ne1 {p : Nat} (hp : p < 3) : (nI p + 1) - (nI p + 1) / 3 * 3 = nI ((p + 1) % 3) := by
  rw [nI_1, cx_rem3 (by omega)]
theorem cx_ne2 {p : Nat} (hp : p < 3) : (nI p + 2) - (nI p + 2) / 3 * 3 = nI ((p + 2) % 3) := by
  rw [show nI p + 2 = nI (p + 2) from nI_add p 2, cx_rem3 (by omega)]
end
theorem i_vc_common {k : Nat} {u : SX} {v : SY} (I : i_Rel k u v) (hk : k + 4 ≤ 2051) (v1 : Int32) (v2 : Int32) : wpX_common (fun r u' => wpY_common (fun r' v' => r' = r ∧ i_Rel (k + 4) u' v') v v1 v2) u v1 v2 := by
  obtain ⟨le, sets, wts, secs, has, rfl, rfl, H, M⟩ := I
  unfold wpX_common wpY_common
  dsimp only
  rcases cx_party v1 with ⟨p, hp, rfl, hX, hY⟩ | ⟨hX, hY⟩
  · refine hX (br_f (by decide) ?_)
    rcases cx_party v2 with ⟨q, hq, rfl, gX, gY⟩ | ⟨gX, gY⟩
    · refine gX (br_f (by decide) ?_)
      refine cx_cmp hp hq ?_
      dsimp only
      refine cx_sizeOf ?_
      refine hY (br_t rfl ?_)
      refine gY (br_t rfl ?_)
      refine cx_note H hp hq ?_
      dsimp only
      exact cx_shared H hp hq ⟨rfl, cx_R H M⟩
    · refine gX (br_t rfl ?_)
      refine hY (br_t rfl ?_)
      exact gY (br_f (by decide) ⟨rfl, cx_R H M⟩)
  · exact hX (br_t rfl (hY (br_f (by decide) ⟨rfl, cx_R H M⟩)))
theorem i_vc_commonItem {k : Nat} {u : SX} {v : SY} (I : i_Rel k u v) (hk : k + 4 ≤ 2051) (v1 : Int32) (v2 : Int32) (v3 : Int32) : wpX_commonItem (fun r u' => wpY_commonItem (fun r' v' => r' = r ∧ i_Rel (k + 4) u' v') v v1 v2 v3) u v1 v2 v3 := by
  obtain ⟨le, sets, wts, secs, has, rfl, rfl, H, M⟩ := I
  unfold wpX_commonItem wpY_commonItem
  dsimp only
  rcases cx_party v1 with ⟨p, hp, rfl, hX, hY⟩ | ⟨hX, hY⟩
  · refine hX (br_f (by decide) ?_)
    rcases cx_party v2 with ⟨q, hq, rfl, gX, gY⟩ | ⟨gX, gY⟩
    · refine gX (br_f (by decide) ?_)
      refine cx_cmp hp hq ?_
      dsimp only
      refine cx_itemAt ?_
      cases ho : cx_a (cx_b (sets p &&& sets q)) v3 64 0 0 with
      | none =>
        refine br_f (by decide) ?_
        refine hY (br_t rfl ?_)
        refine gY (br_t rfl ?_)
        refine cx_note H hp hq ?_
        dsimp only
        exact ⟨65, cx_commonItemY H hp hq (by rw [ho]; exact ⟨rfl, cx_R H M⟩)⟩
      | some j =>
        have hj := cx_a_lt _ _ _ _ _ ho
        refine br_t (nI_pos' (by omega)) ?_
        refine hY (br_t rfl ?_)
        refine gY (br_t rfl ?_)
        refine cx_note H hp hq ?_
        dsimp only
        exact ⟨65, cx_commonItemY H hp hq (by rw [ho]; exact ⟨rfl, cx_R H M⟩)⟩
    · refine gX (br_t rfl ?_)
      refine hY (br_t rfl ?_)
      exact gY (br_f (by decide) ⟨rfl, cx_R H M⟩)
  · exact hX (br_t rfl (hY (br_f (by decide) ⟨rfl, cx_R H M⟩)))
theorem i_vc_commonWeight {k : Nat} {u : SX} {v : SY} (I : i_Rel k u v) (hk : k + 4 ≤ 2051) (v1 : Int32) (v2 : Int32) : wpX_commonWeight (fun r u' => wpY_commonWeight (fun r' v' => r' = r ∧ i_Rel (k + 4) u' v') v v1 v2) u v1 v2 := by
  obtain ⟨le, sets, wts, secs, has, rfl, rfl, H, M⟩ := I
  unfold wpX_commonWeight wpY_commonWeight
  dsimp only
  rcases cx_party v1 with ⟨p, hp, rfl, hX, hY⟩ | ⟨hX, hY⟩
  · refine hX (br_f (by decide) ?_)
    rcases cx_party v2 with ⟨q, hq, rfl, gX, gY⟩ | ⟨gX, gY⟩
    · refine gX (br_f (by decide) ?_)
      refine cx_cmp hp hq ?_
      dsimp only
      refine ⟨65, cx_commonWeightX hp ?_⟩
      refine hY (br_t rfl ?_)
      refine gY (br_t rfl ?_)
      refine cx_note H hp hq ?_
      dsimp only
      exact ⟨65, cx_commonWeightY H hp hq ⟨rfl, cx_R H M⟩⟩
    · refine gX (br_t rfl ?_)
      refine hY (br_t rfl ?_)
      exact gY (br_f (by decide) ⟨rfl, cx_R H M⟩)
  · exact hX (br_t rfl (hY (br_f (by decide) ⟨rfl, cx_R H M⟩)))
theorem i_vc_within {k : Nat} {u : SX} {v : SY} (I : i_Rel k u v) (hk : k + 4 ≤ 2051) (v1 : Int32) (v2 : Int32) : wpX_within (fun r u' => wpY_within (fun r' v' => r' = r ∧ i_Rel (k + 4) u' v') v v1 v2) u v1 v2 := by
  obtain ⟨le, sets, wts, secs, has, rfl, rfl, H, M⟩ := I
  unfold wpX_within wpY_within
  dsimp only
  rcases cx_party v1 with ⟨p, hp, rfl, hX, hY⟩ | ⟨hX, hY⟩
  · refine hX (br_f (by decide) ?_)
    rcases cx_party v2 with ⟨q, hq, rfl, gX, gY⟩ | ⟨gX, gY⟩
    · refine gX (br_f (by decide) ?_)
      refine cx_cmp hp hq ?_
      dsimp only
      refine ⟨vp_in_nI hp (by decide), ?_⟩
      rw [nI_clamp (show p < 2 ^ 31 by omega)]
      by_cases e : sets p &&& sets q = sets p
      · refine br_t e ?_
        refine hY (br_t rfl ?_)
        refine gY (br_t rfl ?_)
        refine cx_note H hp hq ?_
        dsimp only
        refine cx_shared H hp hq ?_
        refine cx_size H hp ?_
        exact br_t (by rw [e]) ⟨rfl, cx_R H M⟩
      · refine br_f e ?_
        refine hY (br_t rfl ?_)
        refine gY (br_t rfl ?_)
        refine cx_note H hp hq ?_
        dsimp only
        refine cx_shared H hp hq ?_
        refine cx_size H hp ?_
        refine br_f (fun z => e ?_) ⟨rfl, cx_R H M⟩
        have h1 := cx_n_le (cx_b (sets p &&& sets q))
        have h2 := cx_n_le (cx_b (sets p))
        have h3 := (nI_eq (by omega) (by omega)).mp z
        have e2 : cx_b (sets p &&& sets q) = fun i => cx_b (sets p) i && cx_b (sets q) i := funext (cx_b_and (sets p) (sets q))
        rw [e2] at h3
        refine cx_ext (fun j hj => ?_)
        rw [cx_b_and]
        exact cx_c_sub (cx_b (sets p)) (cx_b (sets q)) 64 0 h3 j (by omega) (by omega)
    · refine gX (br_t rfl ?_)
      refine hY (br_t rfl ?_)
      exact gY (br_f (by decide) ⟨rfl, cx_R H M⟩)
  · exact hX (br_t rfl (hY (br_f (by decide) ⟨rfl, cx_R H M⟩)))
theorem i_vc_commonToAll {k : Nat} {u : SX} {v : SY} (I : i_Rel k u v) (hk : k + 4 ≤ 2051) : wpX_commonToAll (fun r => wpY_commonToAll (fun r' => r' = r ∧ i_Rel (k + 4) u v) v) u := by
  obtain ⟨le, sets, wts, secs, has, rfl, rfl, H, M⟩ := I
  unfold wpX_commonToAll wpY_commonToAll
  dsimp only
  refine cx_sizeOf ?_
  refine cx_heldBy H ⟨?_, cx_R H M⟩
  rw [cx_n_congr (fun i _ => cx_all sets i)]
theorem i_vc_itemOfAll {k : Nat} {u : SX} {v : SY} (I : i_Rel k u v) (hk : k + 4 ≤ 2051) (v1 : Int32) : wpX_itemOfAll (fun r => wpY_itemOfAll (fun r' => r' = r ∧ i_Rel (k + 4) u v) v v1) u v1 := by
  obtain ⟨le, sets, wts, secs, has, rfl, rfl, H, M⟩ := I
  unfold wpX_itemOfAll wpY_itemOfAll
  dsimp only
  refine cx_itemAt ?_
  refine ⟨65, cx_itemOfAllY H ⟨?_, cx_R H M⟩⟩
  rw [cx_a_congr v1 64 0 0 (fun i _ _ => cx_all sets i)]
theorem i_vc_any {k : Nat} {u : SX} {v : SY} (I : i_Rel k u v) (hk : k + 4 ≤ 2051) : wpX_any (fun r => wpY_any (fun r' => r' = r ∧ i_Rel (k + 4) u v) v) u := by
  obtain ⟨le, sets, wts, secs, has, rfl, rfl, H, M⟩ := I
  unfold wpX_any wpY_any
  dsimp only
  refine cx_sizeOf ?_
  refine cx_heldBy H ⟨?_, cx_R H M⟩
  have h := cx_c_not (cx_b (((sets 0) ||| (sets 1)) ||| (sets 2))) 64 0
  change cx_n _ + cx_n _ = 64 at h
  rw [← cx_n_congr (fun i _ => cx_none sets i)] at h
  rw [cx_64, pk_sub (by omega)]
  exact congrArg nI (by omega)
theorem i_vc_heldByJust {k : Nat} {u : SX} {v : SY} (I : i_Rel k u v) (hk : k + 4 ≤ 2051) (v1 : Int32) : wpX_heldByJust (fun r => wpY_heldByJust (fun r' => r' = r ∧ i_Rel (k + 4) u v) v v1) u v1 := by
  obtain ⟨le, sets, wts, secs, has, rfl, rfl, H, M⟩ := I
  unfold wpX_heldByJust wpY_heldByJust
  dsimp only
  by_cases h1 : v1 < 1
  · exact br_t h1 (br_t h1 ⟨rfl, cx_R H M⟩)
  · by_cases h3 : v1 ≤ 3
    · refine br_f h1 (br_t h3 ⟨65, cx_heldByJustX ?_⟩)
      exact br_f h1 (br_t h3 (cx_heldBy H ⟨rfl, cx_R H M⟩))
    · exact br_f h1 (br_f h3 (br_f h1 (br_f h3 ⟨rfl, cx_R H M⟩)))
theorem i_vc_alone {k : Nat} {u : SX} {v : SY} (I : i_Rel k u v) (hk : k + 4 ≤ 2051) (v1 : Int32) : wpX_alone (fun r => wpY_alone (fun r' => r' = r ∧ i_Rel (k + 4) u v) v v1) u v1 := by
  obtain ⟨le, sets, wts, secs, has, rfl, rfl, H, M⟩ := I
  unfold wpX_alone wpY_alone
  dsimp only
  rcases cx_party v1 with ⟨p, hp, rfl, hX, hY⟩ | ⟨hX, hY⟩
  · refine hX (br_f (by decide) ?_)
    rw [cx_ne1 hp, cx_ne2 hp, nI_clamp (show p < 2 ^ 31 by omega), nI_clamp (show (p + 1) % 3 < 2 ^ 31 by omega), nI_clamp (show (p + 2) % 3 < 2 ^ 31 by omega)]
    refine ⟨by decide, vp_in_nI (by omega) (by decide), by decide, vp_in_nI (by omega) (by decide), nm_e ⟨vp_in_nI hp (by decide), ?_⟩⟩
    refine cx_sizeOf ?_
    refine hY (br_t rfl ⟨65, cx_aloneY H hp ⟨?_, cx_R H M⟩⟩)
    rw [cx_n_congr (fun i hi => cx_sole sets hp hi)]
  · exact hX (br_t rfl (hY (br_f (by decide) ⟨rfl, cx_R H M⟩)))
end
section
/-! giveMany -/
section
variable {sets : Nat → Int64} {has : Nat → Int32} {le : Int32} {wts : Nat → Int32}
theorem cx_fresh {post : Int32 → SY → Prop} (H : cx_H sets has) {p a c s : Nat} (hp : p < 3) (ha : a < 64) (hc : c < 17) (hs : s < 64) (h : ∀ n, wY_giveMany_58 post (nI p) (nI s) (nI c) (nI a) le has wts (n + 1) (nI (cx_n (fun i => cx_am a s c 0 i && !cx_b (sets p) i))) (nI 64)) : wY_giveMany_58 post (nI p) (nI s) (nI c) (nI a) le has wts 65 0 0 := by
  refine cx_loopc (W := fun n x y => wY_giveMany_58 post (nI p) (nI s) (nI c) (nI a) le has wts n x y) (post := fun x => ∀ n, wY_giveMany_58 post (nI p) (nI s) (nI c) (nI a) le has wts (n + 1) x (nI 64)) (fun i => cx_am a s c 0 i && !cx_b (sets p) i) 64 ?_ ?_ ?_ h
  · intro n x hq
    exact hq n
  · intro n x j hj hf hw
    rw [Bool.and_eq_true, Bool.not_eq_true'] at hf
    exact br_f (cx_lt64 hj) (cx_amT ha hc hs hj hf.1 (br_f (by decide) ⟨cx_inY hp hj, br_t (cx_has0 H hp hj hf.2) (nm_e (nm_r (nI_1 j) hw))⟩))
  · intro n x j hj hf hw
    cases h1 : cx_am a s c 0 j with
    | false => exact br_f (cx_lt64 hj) (cx_amF ha hc hs hj h1 (br_t rfl (nm_r (nI_1 j) hw)))
    | true =>
      rw [h1, Bool.true_and, Bool.not_eq_false'] at hf
      exact br_f (cx_lt64 hj) (cx_amT ha hc hs hj h1 (br_f (by decide) ⟨cx_inY hp hj, br_f (cx_has1 H hp hj hf) (nm_r (nI_1 j) hw)⟩))
theorem cx_fill {post : Int32 → SY → Prop} {f : Nat → Bool} {p a c s : Nat} (hp : p < 3) (ha : a < 64) (hc : c < 17) (hs : s < 64) : ∀ d j h w, j + d = 64 → (∀ i, j ≤ i → i < 64 → f i = (cx_am a s c 0 i && decide (h (64 * p + i) = 0))) → wpY_size (fun r => post r (le, cx_u f p (vp_nar .boolean 1) d j h, cx_u f p 1 d j w)) (le, cx_u f p (vp_nar .boolean 1) d j h, cx_u f p 1 d j w) (nI p) → wY_giveMany_122 post (nI p) (nI s) (nI c) (nI a) le (d + 1) (nI j) h w := by
  intro d
  induction d with
  | zero =>
    intro j h w e _ hq
    have e1 : j = 64 := by omega
    subst e1
    exact br_t cx_64le hq
  | succ d ih =>
    intro j h w e hf hq
    have hj : j < 64 := by omega
    have h0 := hf j (by omega) hj
    rw [cx_u, cx_u] at hq
    cases h1 : cx_am a s c 0 j with
    | false =>
      rw [h1, Bool.false_and] at h0
      rw [h0, if_neg (by decide), if_neg (by decide)] at hq
      exact br_f (cx_lt64 hj) (cx_amF ha hc hs hj h1 (br_t rfl (nm_r (nI_1 j) (ih (j + 1) h w (by omega) (fun i h2 h3 => hf i (by omega) h3) hq))))
    | true =>
      rw [h1, Bool.true_and] at h0
      by_cases z : h (64 * p + j) = 0
      · rw [h0, decide_eq_true z, if_pos rfl, if_pos rfl] at hq
        refine br_f (cx_lt64 hj) (cx_amT ha hc hs hj h1 (br_f (by decide) ⟨cx_inY hp hj, br_t (by rw [cx_clY hp hj]; exact z) ⟨cx_inY hp hj, nm_r (by rw [cx_clY hp hj]) ⟨cx_inY hp hj, nm_r (by rw [cx_clY hp hj]) (nm_r (nI_1 j) (ih (j + 1) _ _ (by omega) (fun i h2 h3 => ?_) hq))⟩⟩⟩))
        rw [pk_un (by omega)]
        exact hf i (by omega) h3
      · rw [h0, decide_eq_false z, if_neg (by decide), if_neg (by decide)] at hq
        exact br_f (cx_lt64 hj) (cx_amT ha hc hs hj h1 (br_f (by decide) ⟨cx_inY hp hj, br_f (by rw [cx_clY hp hj]; exact z) (nm_r (nI_1 j) (ih (j + 1) h w (by omega) (fun i h2 h3 => hf i (by omega) h3) hq))⟩))
theorem cx_free (H : cx_H sets has) {p i : Nat} (hp : p < 3) (hi : i < 64) : decide (has (64 * p + i) = 0) = !cx_b (sets p) i := by
  have hh := H p hp i hi
  cases z : cx_b (sets p) i with
  | true => exact decide_eq_false (fun y => by rw [hh.mp y] at z; cases z)
  | false => exact decide_eq_true (hh.mpr z)
theorem cx_manyH (H : cx_H sets has) {p : Nat} (hp : p < 3) {w : Int64} {g : Nat → Bool} (hb : ∀ j, cx_b w j = (cx_b (sets p) j || g j)) : cx_H (vp_updL sets p w) (cx_u (fun i => g i && !cx_b (sets p) i) p (vp_nar .boolean 1) 64 0 has) := by
  refine cx_H_upd H (fun i hi => ?_) (fun m hm => cx_u_out _ _ _ _ _ _ _ (by omega))
  rw [cx_u_in _ _ _ _ _ _ _ (by omega) (by omega), hb, cx_nb1]
  have hh := H p hp i hi
  generalize has (64 * p + i) = y at hh ⊢
  generalize cx_b (sets p) i = z at hh ⊢
  generalize g i = x
  cases z with
  | true =>
    have e : (if (x && !true) = true then (1 : Int32) else y) = y := by cases x <;> rfl
    rw [e]
    exact hh
  | false =>
    cases x with
    | true => exact ⟨fun q => absurd (show (1 : Int32) = 0 from q) (by decide), fun q => nomatch q⟩
    | false => exact hh
end
theorem i_vc_giveMany {k : Nat} {u : SX} {v : SY} (I : i_Rel k u v) (hk : k + 4 ≤ 2051) (v1 : Int32) (v2 : Int32) (v3 : Int32) : wpX_giveMany (fun r u' => wpY_giveMany (fun r' v' => r' = r ∧ i_Rel (k + 4) u' v') v v1 v2 v3) u v1 v2 v3 := by
  obtain ⟨le, sets, wts, secs, has, rfl, rfl, H, M⟩ := I
  unfold wpX_giveMany wpY_giveMany
  dsimp only
  rcases cx_party v1 with ⟨p, hp, rfl, hX, hY⟩ | ⟨hX, hY⟩
  · refine hX (br_f (by decide) ?_)
    by_cases h1 : v2 < 64
    · exact br_t h1 (hY (br_t rfl (br_t h1 ⟨rfl, cx_R H M⟩)))
    by_cases h2 : v2 ≤ 1087
    · by_cases h3 : v3 < 1
      · exact br_f h1 (br_t h2 (br_t h3 (hY (br_t rfl (br_f h1 (br_t h2 (br_t h3 ⟨rfl, cx_R H M⟩)))))))
      by_cases h4 : v3 < 64
      · obtain ⟨s, s1, s2, rfl⟩ := cx_rng 1 64 (by decide) (by decide) h3 (Int32.le_of_lt h4)
        have hs : s < 64 := (nI_ltI (b := 64) (by omega) (by decide)).mp h4
        have h5 : nI s ≤ 63 := nI_le (b := 63) (by omega) (by decide)
        obtain ⟨m, m1, m2, rfl⟩ := cx_rng 64 1087 (by decide) (by decide) h1 h2
        refine br_f h1 (br_t h2 (br_f h3 (br_t h4 ⟨vp_in_nI hp (by decide), ?_⟩)))
        rw [nI_clamp (show p < 2 ^ 31 by omega), cx_rem (show m < 2 ^ 31 by omega), cx_div (show m < 2 ^ 31 by omega)]
        have ha : m % 64 < 64 := by omega
        have hc : m / 64 < 17 := by omega
        generalize m % 64 = a at ha
        generalize m / 64 = c at hc
        refine nm_e ⟨by decide, by decide, ?_⟩
        refine cx_stepped ha hc hs ?_
        intro w ew
        have hb : ∀ j, cx_b w j = (cx_b (sets p) j || cx_am a s c 0 j) := fun j => by rw [ew, cx_b_or, cx_st_b, cx_b_0, Bool.false_or]
        have hn : cx_n (cx_b w) = cx_n (cx_b (sets p)) + cx_n (fun i => cx_am a s c 0 i && !cx_b (sets p) i) := by
          rw [show cx_b w = _ from funext hb]
          exact cx_c_split (cx_b (sets p)) (fun i => cx_am a s c 0 i) 64 0
        have h64 := cx_n_le (cx_b w)
        refine cx_sizeOf ?_
        by_cases hle : cx_n (cx_b w) ≤ 16
        · refine br_t (nI_le (b := 16) hle (by decide)) ⟨vp_in_nI hp (by decide), nm_e ?_⟩
          refine cx_weighOne hp ?_
          dsimp only
          refine hY (br_t rfl ?_)
          refine br_f h1 (br_t h2 (br_f h3 (br_t h5 ⟨by decide, nm_e ⟨by decide, nm_e ⟨65, cx_fresh H hp ha hc hs (fun n => br_t cx_64le ?_)⟩⟩⟩)))
          refine cx_size H hp ?_
          rw [nI_add, ← hn]
          refine br_t (nI_le (b := 16) hle (by decide)) ⟨65, ?_⟩
          have hw : cx_u (cx_b (w &&& (sets p ^^^ (-1)))) p 1 64 0 wts = cx_u (fun i => cx_am a s c 0 i && !cx_b (sets p) i) p 1 64 0 wts := by
            refine cx_u_congr p 1 64 0 wts (fun i _ hi => ?_)
            rw [cx_b_and, cx_b_not _ (by omega), hb]
            cases cx_b (sets p) i <;> cases cx_am a s c 0 i <;> rfl
          rw [hw]
          have Hs := cx_manyH H hp hb
          have t := cx_fill (post := fun r' v' => r' = nI (cx_n (cx_b w)) ∧ i_Rel (k + 4) (le, vp_updL sets p w, cx_u (fun i => cx_am a s c 0 i && !cx_b (sets p) i) p 1 64 0 wts, secs) v') (le := le) (f := fun i => cx_am a s c 0 i && !cx_b (sets p) i) hp ha hc hs 64 0 has wts (by omega) (fun i _ hi => ?_) (cx_size Hs hp ?_)
          · rw [nI_0] at t
            exact t
          · exact congrArg (fun z => cx_am a s c 0 i && z) (cx_free H hp hi).symm
          · rw [pk_uLs]
            exact ⟨rfl, cx_R Hs (cx_M_upd M hle)⟩
        · refine br_f (nI_ge (a := 16) (by omega) (by omega)) ?_
          refine hY (br_t rfl ?_)
          refine br_f h1 (br_t h2 (br_f h3 (br_t h5 ⟨by decide, nm_e ⟨by decide, nm_e ⟨65, cx_fresh H hp ha hc hs (fun n => br_t cx_64le ?_)⟩⟩⟩)))
          refine cx_size H hp ?_
          rw [nI_add, ← hn]
          exact br_f (nI_ge (a := 16) (by omega) (by omega)) ⟨rfl, cx_R H M⟩
      · have h5 : ¬ v3 ≤ 63 := by
          intro z
          apply h4
          rw [Int32.lt_iff_toInt_lt]
          rw [Int32.le_iff_toInt_le] at z
          have e1 : (63 : Int32).toInt = 63 := rfl
          have e2 : (64 : Int32).toInt = 64 := rfl
          omega
        exact br_f h1 (br_t h2 (br_f h3 (br_f h4 (hY (br_t rfl (br_f h1 (br_t h2 (br_f h3 (br_f h5 ⟨rfl, cx_R H M⟩)))))))))
    · exact br_f h1 (br_f h2 (hY (br_t rfl (br_f h1 (br_f h2 ⟨rfl, cx_R H M⟩)))))
  · exact hX (br_t rfl (hY (br_f (by decide) ⟨rfl, cx_R H M⟩)))
end
