/-! the shape of a counting loop, of a search, and the two sides' own methods, each with a general post -/
theorem cx_loop {W : Nat → Int32 → Int32 → Prop} {post : Int32 → Prop} (f : Nat → Bool) (g : Nat → Int32) (e : Nat)
    (hx : ∀ n x, post x → W (n + 1) x (nI e))
    (h1 : ∀ n x j, j < e → f j = true → W n (x + g j) (nI (j + 1)) → W (n + 1) x (nI j))
    (h0 : ∀ n x j, j < e → f j = false → W n x (nI (j + 1)) → W (n + 1) x (nI j)) :
    ∀ d j x, j + d = e → post (cx_s f g d j x) → W (d + 1) x (nI j) := by
  intro d
  induction d with
  | zero =>
    intro j x h hp
    have e1 : j = e := by omega
    subst e1
    exact hx 0 x hp
  | succ d ih =>
    intro j x h hp
    rw [cx_s] at hp
    cases hf : f j with
    | true =>
      rw [hf, if_pos rfl] at hp
      exact h1 _ _ _ (by omega) hf (ih (j + 1) _ (by omega) hp)
    | false =>
      rw [hf, if_neg (by decide)] at hp
      exact h0 _ _ _ (by omega) hf (ih (j + 1) _ (by omega) hp)
theorem cx_loopc {W : Nat → Int32 → Int32 → Prop} {post : Int32 → Prop} (f : Nat → Bool) (e : Nat)
    (hx : ∀ n x, post x → W (n + 1) x (nI e))
    (h1 : ∀ n x j, j < e → f j = true → W n (x + 1) (nI (j + 1)) → W (n + 1) x (nI j))
    (h0 : ∀ n x j, j < e → f j = false → W n x (nI (j + 1)) → W (n + 1) x (nI j))
    (h : post (nI (cx_c f e 0))) : W (e + 1) 0 0 := by
  have t := cx_loop (W := W) (post := post) f (fun _ => 1) e hx h1 h0 e 0 0 (by omega) (by rw [cx_s_c, Int32.zero_add]; exact h)
  rw [nI_0] at t
  exact t
theorem cx_loopa {W : Nat → Int32 → Int32 → Prop} {P : Option Nat → Prop} (f : Nat → Bool) (i : Int32) (e : Nat)
    (hx : ∀ n b, P none → W (n + 1) b (nI e))
    (h0 : ∀ n b j, j < e → f j = false → W n b (nI (j + 1)) → W (n + 1) b (nI j))
    (h1 : ∀ n b j, j < e → f j = true → b = i → P (some j) → W (n + 1) b (nI j))
    (h2 : ∀ n b j, j < e → f j = true → ¬ b = i → W n (b + 1) (nI (j + 1)) → W (n + 1) b (nI j)) :
    ∀ d j b, j + d = e → P (cx_a f i d j b) → W (d + 1) b (nI j) := by
  intro d
  induction d with
  | zero =>
    intro j b h hp
    have e1 : j = e := by omega
    subst e1
    exact hx 0 b hp
  | succ d ih =>
    intro j b h hp
    rw [cx_a] at hp
    cases hf : f j with
    | true =>
      rw [hf, if_pos rfl] at hp
      by_cases hb : b = i
      · rw [if_pos hb] at hp
        exact h1 _ _ _ (by omega) hf hb hp
      · rw [if_neg hb] at hp
        exact h2 _ _ _ (by omega) hf hb (ih (j + 1) _ (by omega) hp)
    | false =>
      rw [hf, if_neg (by decide)] at hp
      exact h0 _ _ _ (by omega) hf (ih (j + 1) _ (by omega) hp)
/-! parties and items -/
theorem cx_party (p : Int32) : (∃ j : Nat, j < 3 ∧ p = nI j ∧ (∀ {post : Int32 → Prop}, post 1 → wpX_isParty post p) ∧ (∀ {post : Int32 → Prop} {u : SY}, post 0 → wpY_bad post u p)) ∨ ((∀ {post : Int32 → Prop}, post 0 → wpX_isParty post p) ∧ (∀ {post : Int32 → Prop} {u : SY}, post 1 → wpY_bad post u p)) := by
  rcases pk_ix p (n := 3) (by decide) with h | h | ⟨j, hj, rfl⟩
  · exact Or.inr ⟨fun hp => br_t h hp, fun hp => br_t h hp⟩
  · have h0 : ¬ p < 0 := by
      obtain h1 | h1 := Int32.lt_or_le p 0
      · exact absurd (Int32.le_trans h (Int32.le_of_lt h1)) (by decide)
      · exact Int32.not_lt.mpr h1
    have h2 : ¬ p ≤ 2 := fun h2 => absurd (Int32.le_trans h h2) (by decide)
    exact Or.inr ⟨fun hp => br_f h0 (br_t h hp), fun hp => br_f h0 (br_f h2 hp)⟩
  · have h0 : ¬ nI j < 0 := nI_pos (by omega)
    have h2 : nI j ≤ 2 := nI_le (b := 2) (by omega) (by decide)
    exact Or.inl ⟨j, hj, rfl, fun hp => br_f h0 (br_f (cx_lt3 hj) hp), fun hp => br_f h0 (br_t h2 hp)⟩
theorem cx_item (p : Int32) : (∃ j : Nat, j < 64 ∧ p = nI j ∧ (∀ {post : Int32 → Prop}, post 1 → wpX_isItem post p) ∧ (∀ {post : Int32 → Prop} {u : SY}, post 0 → wpY_badItem post u p)) ∨ ((∀ {post : Int32 → Prop}, post 0 → wpX_isItem post p) ∧ (∀ {post : Int32 → Prop} {u : SY}, post 1 → wpY_badItem post u p)) := by
  rcases pk_ix p (n := 64) (by decide) with h | h | ⟨j, hj, rfl⟩
  · exact Or.inr ⟨fun hp => br_t h hp, fun hp => br_t h hp⟩
  · have h0 : ¬ p < 0 := by
      obtain h1 | h1 := Int32.lt_or_le p 0
      · exact absurd (Int32.le_trans h (Int32.le_of_lt h1)) (by decide)
      · exact Int32.not_lt.mpr h1
    have h2 : ¬ p ≤ 63 := fun h2 => absurd (Int32.le_trans h h2) (by decide)
    exact Or.inr ⟨fun hp => br_f h0 (br_t h hp), fun hp => br_f h0 (br_f h2 hp)⟩
  · have h0 : ¬ nI j < 0 := nI_pos (by omega)
    have h2 : nI j ≤ 63 := nI_le (b := 63) (by omega) (by decide)
    exact Or.inl ⟨j, hj, rfl, fun hp => br_f h0 (br_f (cx_lt64 hj) hp), fun hp => br_f h0 (br_t h2 hp)⟩
/-! the component's own methods -/
theorem cx_con0 {post : Int32 → Prop} {w : Int64} {j : Nat} (hj : j < 64) (hb : cx_b w j = false) (h : post 0) : wpX_contains post w (nI j) := br_t ((ts_bit hj (cx_sh j hj)).mpr hb) h
theorem cx_con1 {post : Int32 → Prop} {w : Int64} {j : Nat} (hj : j < 64) (hb : cx_b w j = true) (h : post 1) : wpX_contains post w (nI j) :=
  br_f (fun z => by have t := (ts_bit hj (cx_sh j hj)).mp z; rw [show w.toBitVec.getLsbD j = true from hb] at t; cases t) h
theorem cx_sizeOf {post : Int32 → Prop} {w : Int64} (h : post (nI (cx_n (cx_b w)))) : wpX_sizeOf post w := by
  unfold wpX_sizeOf
  refine ⟨65, ?_⟩
  refine cx_loopc (W := fun n x y => wX_sizeOf_4 post w n x y) (post := post) (cx_b w) 64 ?_ ?_ ?_ h
  · intro n x hp
    exact br_t cx_64le hp
  · intro n x j hj hf hw
    exact br_f (cx_lt64 hj) (cx_con1 hj hf (br_f (by decide) (nm_e (nm_r (nI_1 j) hw))))
  · intro n x j hj hf hw
    exact br_f (cx_lt64 hj) (cx_con0 hj hf (br_t rfl (nm_r (nI_1 j) hw)))
theorem cx_itemAt {post : Int32 → Prop} {w : Int64} {i : Int32} (h : post (cx_o (-1) (cx_a (cx_b w) i 64 0 0))) : wpX_itemAt post w i := by
  unfold wpX_itemAt
  refine ⟨65, ?_⟩
  have t := cx_loopa (W := fun n x y => wX_itemAt_5 post w i n x y) (P := fun o => post (cx_o (-1) o)) (cx_b w) i 64 ?_ ?_ ?_ ?_ 64 0 0 (by omega) h
  · rw [nI_0] at t; exact t
  · intro n b hp
    exact br_t cx_64le hp
  · intro n b j hj hf hw
    exact br_f (cx_lt64 hj) (cx_con0 hj hf (br_t rfl (nm_r (nI_1 j) hw)))
  · intro n b j hj hf hb hp
    exact br_f (cx_lt64 hj) (cx_con1 hj hf (br_f (by decide) (br_t hb hp)))
  · intro n b j hj hf hb hw
    exact br_f (cx_lt64 hj) (cx_con1 hj hf (br_f (by decide) (br_f hb (nm_e (nm_r (nI_1 j) hw)))))
theorem cx_stepped {post : Int64 → Prop} {a c s : Nat} (ha : a < 64) (hc : c < 17) (hs : s < 64) (h : post (cx_st a s c 0 0)) : wpX_steppedSet post (nI a) (nI c) (nI s) := by
  have t : ∀ d i x, i + d = c → post (cx_st a s d i x) → wX_steppedSet_5 post (nI a) (nI c) (nI s) (d + 1) x (nI i) := by
    intro d
    induction d with
    | zero =>
      intro i x e hp
      exact br_t (nI_le (by omega) (by omega)) hp
    | succ d ih =>
      intro i x e hp
      have e2 := cx_arg ha (show i < 16 by omega) hs
      exact br_f (nI_ge (by omega) (by omega)) ⟨by decide, nm_r (by rw [e2]) (nm_r (nI_1 i) (ih (i + 1) _ (by omega) hp))⟩
  unfold wpX_steppedSet
  refine ⟨c + 1, ?_⟩
  have t2 := t c 0 0 (by omega) h
  rw [nI_0] at t2
  exact t2
theorem cx_weighOne {post : SX → Prop} {le : Int32} {sets : Nat → Int64} {wts secs : Nat → Int32} {p : Nat} {w : Int64} (hp : p < 3) (h : post (le, sets, cx_u (cx_b w) p 1 64 0 wts, secs)) : wpX_weighOne post (le, sets, wts, secs) (nI p) w := by
  have t : ∀ d j a, j + d = 64 → post (le, sets, cx_u (cx_b w) p 1 d j a, secs) → wX_weighOne_3 post (nI p) w le (d + 1) (nI j) sets a secs := by
    intro d
    induction d with
    | zero =>
      intro j a e hq
      have e1 : j = 64 := by omega
      subst e1
      exact br_t cx_64le hq
    | succ d ih =>
      intro j a e hq
      have hj : j < 64 := by omega
      rw [cx_u] at hq
      cases hf : cx_b w j with
      | true =>
        rw [hf, if_pos rfl] at hq
        exact br_f (cx_lt64 hj) (cx_con1 hj hf (br_f (by decide) ⟨cx_inX hp hj, nm_r (by rw [cx_clX hp hj]) (nm_r (nI_1 j) (ih (j + 1) _ (by omega) hq))⟩))
      | false =>
        rw [hf, if_neg (by decide)] at hq
        exact br_f (cx_lt64 hj) (cx_con0 hj hf (br_t rfl (nm_r (nI_1 j) (ih (j + 1) _ (by omega) hq))))
  unfold wpX_weighOne
  refine ⟨65, ?_⟩
  have t2 := t 64 0 wts (by omega) h
  rw [nI_0] at t2
  exact t2
def cx_h (sets : Nat → Int64) (i : Nat) : Nat := cx_c (fun p => cx_b (sets p) i) 3 0
theorem cx_h_le (sets : Nat → Int64) (i : Nat) : cx_h sets i ≤ 3 := cx_c_le _ 3 0
theorem cx_holdersOf {post : Int32 → Prop} {le : Int32} {sets : Nat → Int64} {wts secs : Nat → Int32} {i : Nat} (hi : i < 64) (h : post (nI (cx_h sets i))) : wpX_holdersOf post (le, sets, wts, secs) (nI i) := by
  unfold wpX_holdersOf
  refine ⟨4, ?_⟩
  refine cx_loopc (W := fun n x y => wX_holdersOf_4 post (nI i) le sets wts secs n x y) (post := post) (fun p => cx_b (sets p) i) 3 ?_ ?_ ?_ h
  · intro n x hp
    exact br_t cx_3le hp
  · intro n x j hj hf hw
    refine br_f (cx_lt3 hj) ⟨vp_in_nI hj (by decide), ?_⟩
    rw [nI_clamp (by omega)]
    exact cx_con1 hi hf (br_f (by decide) (nm_e (nm_r (nI_1 j) hw)))
  · intro n x j hj hf hw
    refine br_f (cx_lt3 hj) ⟨vp_in_nI hj (by decide), ?_⟩
    rw [nI_clamp (by omega)]
    exact cx_con0 hi hf (br_t rfl (nm_r (nI_1 j) hw))
def cx_le (le : Int32) (sets : Nat → Int64) (p q : Nat) : Int32 := if p = q then le else nI (cx_n (cx_b (sets p ||| sets q)))
theorem cx_cmp {post : Int64 → SX → Prop} {le : Int32} {sets : Nat → Int64} {wts secs : Nat → Int32} {p q : Nat} (hp : p < 3) (hq : q < 3) (h : post (sets p &&& sets q) (cx_le le sets p q, sets, wts, secs)) : wpX_compare post (le, sets, wts, secs) (nI p) (nI q) := by
  have t : ∀ l, post (sets p &&& sets q) (l, sets, wts, secs) → wX_compare_25 post (nI p) (nI q) l sets wts secs := by
    intro l hl
    refine ⟨vp_in_nI hp (by decide), vp_in_nI hq (by decide), ?_⟩
    rw [nI_clamp (by omega), nI_clamp (by omega)]
    exact hl
  unfold wpX_compare
  dsimp only
  unfold cx_le at h
  by_cases e : p = q
  · rw [if_pos e] at h
    exact br_t (by rw [e]) (t le h)
  · rw [if_neg e] at h
    refine br_f (fun z => e ((nI_eq (by omega) (by omega)).mp z)) ⟨vp_in_nI hp (by decide), vp_in_nI hq (by decide), ?_⟩
    rw [nI_clamp (by omega), nI_clamp (by omega)]
    exact cx_sizeOf (t _ h)
