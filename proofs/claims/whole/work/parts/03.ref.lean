/-! the relation, and the reference's own methods -/
def cx_H (sets : Nat → Int64) (has : Nat → Int32) : Prop := ∀ p, p < 3 → ∀ i, i < 64 → (has (64 * p + i) = 0 ↔ cx_b (sets p) i = false)
def cx_M (sets : Nat → Int64) : Prop := ∀ p, p < 3 → cx_n (cx_b (sets p)) ≤ 16
/-- the last exchange and the weights are the same on both sides; a party's set has the items that the reference has marked; no party has more than 16 -/
def i_Rel (_ : Nat) (u : SX) (v : SY) : Prop := ∃ (le : Int32) (sets : Nat → Int64) (wts secs has : Nat → Int32), u = (le, sets, wts, secs) ∧ v = (le, has, wts) ∧ cx_H sets has ∧ cx_M sets
theorem cx_R {k : Nat} {le : Int32} {sets : Nat → Int64} {wts secs has : Nat → Int32} (H : cx_H sets has) (M : cx_M sets) : i_Rel k (le, sets, wts, secs) (le, has, wts) := ⟨le, sets, wts, secs, has, rfl, rfl, H, M⟩
theorem cx_has0 {sets : Nat → Int64} {has : Nat → Int32} (H : cx_H sets has) {p j : Nat} (hp : p < 3) (hj : j < 64) (hf : cx_b (sets p) j = false) : has ((64 : Int32) * nI p + nI j).toNatClampNeg = 0 := by
  rw [cx_clY hp hj]
  exact (H p hp j hj).mpr hf
theorem cx_has1 {sets : Nat → Int64} {has : Nat → Int32} (H : cx_H sets has) {p j : Nat} (hp : p < 3) (hj : j < 64) (hf : cx_b (sets p) j = true) : ¬ has ((64 : Int32) * nI p + nI j).toNatClampNeg = 0 := by
  rw [cx_clY hp hj]
  intro z
  have t := (H p hp j hj).mp z
  rw [hf] at t
  cases t
section
variable {sets : Nat → Int64} {has : Nat → Int32} {le : Int32} {wts : Nat → Int32}
theorem cx_size {post : Int32 → Prop} (H : cx_H sets has) {p : Nat} (hp : p < 3) (h : post (nI (cx_n (cx_b (sets p))))) : wpY_size post (le, has, wts) (nI p) := by
  unfold wpY_size
  refine ⟨65, ?_⟩
  refine cx_loopc (W := fun n x y => wY_size_4 post (nI p) le has wts n x y) (post := post) (cx_b (sets p)) 64 ?_ ?_ ?_ h
  · intro n x hq
    exact br_t cx_64le hq
  · intro n x j hj hf hw
    exact br_f (cx_lt64 hj) ⟨cx_inY hp hj, br_f (cx_has1 H hp hj hf) (nm_e (nm_r (nI_1 j) hw))⟩
  · intro n x j hj hf hw
    exact br_f (cx_lt64 hj) ⟨cx_inY hp hj, br_t (cx_has0 H hp hj hf) (nm_r (nI_1 j) hw)⟩
theorem cx_shared {post : Int32 → Prop} (H : cx_H sets has) {p q : Nat} (hp : p < 3) (hq : q < 3) (h : post (nI (cx_n (cx_b (sets p &&& sets q))))) : wpY_shared post (le, has, wts) (nI p) (nI q) := by
  unfold wpY_shared
  refine ⟨65, ?_⟩
  refine cx_loopc (W := fun n x y => wY_shared_5 post (nI p) (nI q) le has wts n x y) (post := post) (cx_b (sets p &&& sets q)) 64 ?_ ?_ ?_ h
  · intro n x hq
    exact br_t cx_64le hq
  · intro n x j hj hf hw
    rw [cx_b_and, Bool.and_eq_true] at hf
    exact br_f (cx_lt64 hj) ⟨cx_inY hp hj, br_f (cx_has1 H hp hj hf.1) ⟨cx_inY hq hj, br_f (cx_has1 H hq hj hf.2) (nm_e (nm_r (nI_1 j) hw))⟩⟩
  · intro n x j hj hf hw
    rw [cx_b_and] at hf
    cases h1 : cx_b (sets p) j with
    | false => exact br_f (cx_lt64 hj) ⟨cx_inY hp hj, br_t (cx_has0 H hp hj h1) (nm_r (nI_1 j) hw)⟩
    | true =>
      rw [h1, Bool.true_and] at hf
      exact br_f (cx_lt64 hj) ⟨cx_inY hp hj, br_f (cx_has1 H hp hj h1) ⟨cx_inY hq hj, br_t (cx_has0 H hq hj hf) (nm_r (nI_1 j) hw)⟩⟩
theorem cx_ex (a b : Int64) : (nI (cx_n (cx_b a)) + nI (cx_n (cx_b b))) - nI (cx_n (cx_b (a &&& b))) = nI (cx_n (cx_b (a ||| b))) := by
  have e1 : cx_b (a ||| b) = fun i => cx_b a i || cx_b b i := funext (cx_b_or a b)
  have e2 : cx_b (a &&& b) = fun i => cx_b a i && cx_b b i := funext (cx_b_and a b)
  have h := cx_c_oa (cx_b a) (cx_b b) 64 0
  rw [← e1, ← e2] at h
  change cx_n _ + cx_n _ = cx_n _ + cx_n _ at h
  rw [nI_add, pk_sub (by omega)]
  exact congrArg nI (by omega)
theorem cx_note {post : SY → Prop} (H : cx_H sets has) {p q : Nat} (hp : p < 3) (hq : q < 3) (h : post (cx_le le sets p q, has, wts)) : wpY_note post (le, has, wts) (nI p) (nI q) := by
  unfold wpY_note
  dsimp only
  unfold cx_le at h
  by_cases e : p = q
  · rw [if_pos e] at h
    exact br_t (by rw [e]) h
  · rw [if_neg e] at h
    refine br_f (fun z => e ((nI_eq (by omega) (by omega)).mp z)) ?_
    refine cx_size H hp ?_
    refine cx_size H hq ?_
    refine cx_shared H hp hq ?_
    exact nm_r (cx_ex (sets p) (sets q)) h
theorem cx_holders {post : Int32 → Prop} (H : cx_H sets has) {i : Nat} (hi : i < 64) (h : post (nI (cx_h sets i))) : wpY_holders post (le, has, wts) (nI i) := by
  unfold wpY_holders
  refine ⟨4, ?_⟩
  refine cx_loopc (W := fun n x y => wY_holders_4 post (nI i) le has wts n x y) (post := post) (fun p => cx_b (sets p) i) 3 ?_ ?_ ?_ h
  · intro n x hq
    exact br_t cx_3le hq
  · intro n x j hj hf hw
    exact br_f (cx_lt3 hj) ⟨cx_inY hj hi, br_f (cx_has1 H hj hi hf) (nm_e (nm_r (nI_1 j) hw))⟩
  · intro n x j hj hf hw
    exact br_f (cx_lt3 hj) ⟨cx_inY hj hi, br_t (cx_has0 H hj hi hf) (nm_r (nI_1 j) hw)⟩
theorem cx_heldBy {post : Int32 → Prop} (H : cx_H sets has) {k : Int32} (h : post (nI (cx_n (fun i => decide (nI (cx_h sets i) = k))))) : wpY_heldBy post (le, has, wts) k := by
  unfold wpY_heldBy
  refine ⟨65, ?_⟩
  refine cx_loopc (W := fun n x y => wY_heldBy_4 post k le has wts n x y) (post := post) (fun i => decide (nI (cx_h sets i) = k)) 64 ?_ ?_ ?_ h
  · intro n x hq
    exact br_t cx_64le hq
  · intro n x j hj hf hw
    refine br_f (cx_lt64 hj) (cx_holders H hj ?_)
    exact br_t (of_decide_eq_true hf) (nm_e (nm_r (nI_1 j) hw))
  · intro n x j hj hf hw
    refine br_f (cx_lt64 hj) (cx_holders H hj ?_)
    exact br_f (of_decide_eq_false hf) (nm_r (nI_1 j) hw)
theorem cx_among {post : Int32 → Prop} {a c s j : Nat} (ha : a < 64) (hc : c < 17) (hs : s < 64) (hj : j < 64) (h : post (if cx_am a s c 0 j then 1 else 0)) : wpY_among post (le, has, wts) (nI a) (nI c) (nI s) (nI j) := by
  have t : ∀ d i, i + d = c → post (if cx_am a s d i j then 1 else 0) → wY_among_3 post (nI a) (nI c) (nI s) (nI j) le has wts (d + 1) (nI i) := by
    intro d
    induction d with
    | zero =>
      intro i e hp
      exact br_t (nI_le (by omega) (by omega)) hp
    | succ d ih =>
      intro i e hp
      have e2 := cx_arg ha (show i < 16 by omega) hs
      rw [cx_am] at hp
      refine br_f (nI_ge (by omega) (by omega)) ⟨by decide, ?_⟩
      rw [e2]
      by_cases z : (a + i * s) % 64 = j
      · rw [decide_eq_true z, Bool.true_or, if_pos rfl] at hp
        exact br_t (by rw [z]) hp
      · rw [decide_eq_false z, Bool.false_or] at hp
        exact br_f (fun y => z ((nI_eq (by omega) (by omega)).mp y)) (nm_r (nI_1 i) (ih (i + 1) (by omega) hp))
  unfold wpY_among
  refine ⟨c + 1, ?_⟩
  have t2 := t c 0 (by omega) h
  rw [nI_0] at t2
  exact t2
theorem cx_amT {post : Int32 → Prop} {a c s j : Nat} (ha : a < 64) (hc : c < 17) (hs : s < 64) (hj : j < 64) (e : cx_am a s c 0 j = true) (h : post 1) : wpY_among post (le, has, wts) (nI a) (nI c) (nI s) (nI j) := cx_among ha hc hs hj (by rw [e]; exact h)
theorem cx_amF {post : Int32 → Prop} {a c s j : Nat} (ha : a < 64) (hc : c < 17) (hs : s < 64) (hj : j < 64) (e : cx_am a s c 0 j = false) (h : post 0) : wpY_among post (le, has, wts) (nI a) (nI c) (nI s) (nI j) := cx_among ha hc hs hj (by rw [e]; exact h)
end
