/-! the methods that compare -/
section
variable {sets : Nat → Int64} {has : Nat → Int32} {le : Int32} {wts secs : Nat → Int32}
theorem cx_commonItemY {post : Int32 → SY → Prop} (H : cx_H sets has) {p q : Nat} {i : Int32} (hp : p < 3) (hq : q < 3) (h : post (cx_o (-2) (cx_a (cx_b (sets p &&& sets q)) i 64 0 0)) (le, has, wts)) : wY_commonItem_30 post (nI p) (nI q) i le has wts 65 0 0 := by
  have t := cx_loopa (W := fun n x y => wY_commonItem_30 post (nI p) (nI q) i le has wts n x y) (P := fun o => post (cx_o (-2) o) (le, has, wts)) (cx_b (sets p &&& sets q)) i 64 ?_ ?_ ?_ ?_ 64 0 0 (by omega) h
  · rw [nI_0] at t; exact t
  · intro n b hz
    exact br_t cx_64le hz
  · intro n b j hj hf hw
    rw [cx_b_and] at hf
    cases h1 : cx_b (sets p) j with
    | false => exact br_f (cx_lt64 hj) ⟨cx_inY hp hj, br_t (cx_has0 H hp hj h1) (nm_r (nI_1 j) hw)⟩
    | true =>
      rw [h1, Bool.true_and] at hf
      exact br_f (cx_lt64 hj) ⟨cx_inY hp hj, br_f (cx_has1 H hp hj h1) ⟨cx_inY hq hj, br_t (cx_has0 H hq hj hf) (nm_r (nI_1 j) hw)⟩⟩
  · intro n b j hj hf hb hz
    rw [cx_b_and, Bool.and_eq_true] at hf
    exact br_f (cx_lt64 hj) ⟨cx_inY hp hj, br_f (cx_has1 H hp hj hf.1) ⟨cx_inY hq hj, br_f (cx_has1 H hq hj hf.2) (br_t hb hz)⟩⟩
  · intro n b j hj hf hb hw
    rw [cx_b_and, Bool.and_eq_true] at hf
    exact br_f (cx_lt64 hj) ⟨cx_inY hp hj, br_f (cx_has1 H hp hj hf.1) ⟨cx_inY hq hj, br_f (cx_has1 H hq hj hf.2) (br_f hb (nm_e (nm_r (nI_1 j) hw)))⟩⟩
theorem cx_commonWeightY {post : Int32 → SY → Prop} (H : cx_H sets has) {p q : Nat} (hp : p < 3) (hq : q < 3) (h : post (cx_s (cx_b (sets p &&& sets q)) (fun j => wts (64 * p + j)) 64 0 0) (le, has, wts)) : wY_commonWeight_29 post (nI p) (nI q) le has wts 65 0 0 := by
  have t := cx_loop (W := fun n x y => wY_commonWeight_29 post (nI p) (nI q) le has wts n x y) (post := fun x => post x (le, has, wts)) (cx_b (sets p &&& sets q)) (fun j => wts (64 * p + j)) 64 ?_ ?_ ?_ 64 0 0 (by omega) h
  · rw [nI_0] at t; exact t
  · intro n x hz
    exact br_t cx_64le hz
  · intro n x j hj hf hw
    rw [cx_b_and, Bool.and_eq_true] at hf
    exact br_f (cx_lt64 hj) ⟨cx_inY hp hj, br_f (cx_has1 H hp hj hf.1) ⟨cx_inY hq hj, br_f (cx_has1 H hq hj hf.2) ⟨cx_inY hp hj, nm_r (by rw [cx_clY hp hj]) (nm_r (nI_1 j) hw)⟩⟩⟩
  · intro n x j hj hf hw
    rw [cx_b_and] at hf
    cases h1 : cx_b (sets p) j with
    | false => exact br_f (cx_lt64 hj) ⟨cx_inY hp hj, br_t (cx_has0 H hp hj h1) (nm_r (nI_1 j) hw)⟩
    | true =>
      rw [h1, Bool.true_and] at hf
      exact br_f (cx_lt64 hj) ⟨cx_inY hp hj, br_f (cx_has1 H hp hj h1) ⟨cx_inY hq hj, br_t (cx_has0 H hq hj hf) (nm_r (nI_1 j) hw)⟩⟩
theorem cx_commonWeightX {post : Int32 → SX → Prop} {p : Nat} {w : Int64} (hp : p < 3) (h : post (cx_s (cx_b w) (fun j => wts (64 * p + j)) 64 0 0) (le, sets, wts, secs)) : wX_commonWeight_29 post (nI p) w le sets wts secs 65 0 0 := by
  have t := cx_loop (W := fun n x y => wX_commonWeight_29 post (nI p) w le sets wts secs n x y) (post := fun x => post x (le, sets, wts, secs)) (cx_b w) (fun j => wts (64 * p + j)) 64 ?_ ?_ ?_ 64 0 0 (by omega) h
  · rw [nI_0] at t; exact t
  · intro n x hz
    exact br_t cx_64le hz
  · intro n x j hj hf hw
    exact br_f (cx_lt64 hj) (cx_con1 hj hf (br_f (by decide) ⟨cx_inX hp hj, nm_r (by rw [cx_clX hp hj]) (nm_r (nI_1 j) hw)⟩))
  · intro n x j hj hf hw
    exact br_f (cx_lt64 hj) (cx_con0 hj hf (br_t rfl (nm_r (nI_1 j) hw)))
theorem cx_heldByJustX {post : Int32 → Prop} {k : Int32} (h : post (nI (cx_n (fun i => decide (nI (cx_h sets i) = k))))) : wX_heldByJust_16 post k le sets wts secs 65 0 0 := by
  refine cx_loopc (W := fun n x y => wX_heldByJust_16 post k le sets wts secs n x y) (post := post) (fun i => decide (nI (cx_h sets i) = k)) 64 ?_ ?_ ?_ h
  · intro n x hq
    exact br_t cx_64le hq
  · intro n x j hj hf hw
    refine br_f (cx_lt64 hj) (cx_holdersOf hj ?_)
    exact br_t (of_decide_eq_true hf) (nm_e (nm_r (nI_1 j) hw))
  · intro n x j hj hf hw
    refine br_f (cx_lt64 hj) (cx_holdersOf hj ?_)
    exact br_f (of_decide_eq_false hf) (nm_r (nI_1 j) hw)
theorem cx_itemOfAllY {post : Int32 → Prop} (H : cx_H sets has) {i : Int32} (h : post (cx_o (-1) (cx_a (fun j => decide (nI (cx_h sets j) = 3)) i 64 0 0))) : wY_itemOfAll_4 post i le has wts 65 0 0 := by
  have t := cx_loopa (W := fun n x y => wY_itemOfAll_4 post i le has wts n x y) (P := fun o => post (cx_o (-1) o)) (fun j => decide (nI (cx_h sets j) = 3)) i 64 ?_ ?_ ?_ ?_ 64 0 0 (by omega) h
  · rw [nI_0] at t; exact t
  · intro n b hz
    exact br_t cx_64le hz
  · intro n b j hj hf hw
    exact br_f (cx_lt64 hj) (cx_holders H hj (br_f (of_decide_eq_false hf) (nm_r (nI_1 j) hw)))
  · intro n b j hj hf hb hz
    exact br_f (cx_lt64 hj) (cx_holders H hj (br_t (of_decide_eq_true hf) (br_t hb hz)))
  · intro n b j hj hf hb hw
    exact br_f (cx_lt64 hj) (cx_holders H hj (br_t (of_decide_eq_true hf) (br_f hb (nm_e (nm_r (nI_1 j) hw)))))
theorem cx_aloneY {post : Int32 → Prop} (H : cx_H sets has) {p : Nat} (hp : p < 3) (h : post (nI (cx_n (fun i => cx_b (sets p) i && decide (nI (cx_h sets i) = 1))))) : wY_alone_14 post (nI p) le has wts 65 0 0 := by
  refine cx_loopc (W := fun n x y => wY_alone_14 post (nI p) le has wts n x y) (post := post) (fun i => cx_b (sets p) i && decide (nI (cx_h sets i) = 1)) 64 ?_ ?_ ?_ h
  · intro n x hq
    exact br_t cx_64le hq
  · intro n x j hj hf hw
    rw [Bool.and_eq_true] at hf
    exact br_f (cx_lt64 hj) ⟨cx_inY hp hj, br_f (cx_has1 H hp hj hf.1) (cx_holders H hj (br_t (of_decide_eq_true hf.2) (nm_e (nm_r (nI_1 j) hw))))⟩
  · intro n x j hj hf hw
    cases h1 : cx_b (sets p) j with
    | false => exact br_f (cx_lt64 hj) ⟨cx_inY hp hj, br_t (cx_has0 H hp hj h1) (nm_r (nI_1 j) hw)⟩
    | true =>
      rw [h1, Bool.true_and] at hf
      exact br_f (cx_lt64 hj) ⟨cx_inY hp hj, br_f (cx_has1 H hp hj h1) (cx_holders H hj (br_f (of_decide_eq_false hf) (nm_r (nI_1 j) hw)))⟩
theorem cx_hb (sets : Nat → Int64) (i : Nat) : cx_h sets i = (cx_b (sets 0) i).toNat + ((cx_b (sets 1) i).toNat + ((cx_b (sets 2) i).toNat + 0)) := rfl
theorem cx_b3 : ∀ a b c : Bool, ((a && b) && c) = decide (nI (a.toNat + (b.toNat + (c.toNat + 0))) = 3) := by decide +kernel
theorem cx_b0 : ∀ a b c : Bool, decide (nI (a.toNat + (b.toNat + (c.toNat + 0))) = 0) = !((a || b) || c) := by decide +kernel
theorem cx_a0 : ∀ a b c : Bool, (a && !(b || c)) = (a && decide (nI (a.toNat + (b.toNat + (c.toNat + 0))) = 1)) := by decide +kernel
theorem cx_a1 : ∀ a b c : Bool, (b && !(c || a)) = (b && decide (nI (a.toNat + (b.toNat + (c.toNat + 0))) = 1)) := by decide +kernel
theorem cx_a2 : ∀ a b c : Bool, (c && !(a || b)) = (c && decide (nI (a.toNat + (b.toNat + (c.toNat + 0))) = 1)) := by decide +kernel
theorem cx_all (sets : Nat → Int64) (i : Nat) : cx_b (((sets 0) &&& (sets 1)) &&& (sets 2)) i = decide (nI (cx_h sets i) = 3) := by
  rw [cx_b_and, cx_b_and, cx_hb]
  exact cx_b3 _ _ _
theorem cx_none (sets : Nat → Int64) (i : Nat) : decide (nI (cx_h sets i) = 0) = !cx_b (((sets 0) ||| (sets 1)) ||| (sets 2)) i := by
  rw [cx_b_or, cx_b_or, cx_hb]
  exact cx_b0 _ _ _
theorem cx_sole (sets : Nat → Int64) {p i : Nat} (hp : p < 3) (hi : i < 64) : cx_b ((sets p) &&& ((sets ((p + 1) % 3) ||| sets ((p + 2) % 3)) ^^^ (-1))) i = (cx_b (sets p) i && decide (nI (cx_h sets i) = 1)) := by
  rw [cx_b_and, cx_b_not _ hi, cx_b_or, cx_hb]
  have e : p = 0 ∨ p = 1 ∨ p = 2 := by omega
  rcases e with rfl | rfl | rfl
  · exact cx_a0 _ _ _
  · exact cx_a1 _ _ _
  · exact cx_a2 _ _ _
theorem cx_rem3 {a : Nat} (ha : a < 2 ^ 31) : nI a - nI a / 3 * 3 = nI (a % 3) := pk_rem (d := 3) ha (by decide) (by decide)
theorem cx_ne1 {p : Nat} (hp : p < 3) : (nI p + 1) - (nI p + 1) / 3 * 3 = nI ((p + 1) % 3) := by
  rw [nI_1, cx_rem3 (by omega)]
theorem cx_ne2 {p : Nat} (hp : p < 3) : (nI p + 2) - (nI p + 2) / 3 * 3 = nI ((p + 2) % 3) := by
  rw [show nI p + 2 = nI (p + 2) from nI_add p 2, cx_rem3 (by omega)]
end
theorem i_vc_common {k : Nat} {u : SX} {v : SY} (I : i_Rel k u v) (hk : k + 4 ≤ 2051) (v1 : Int32) (v2 : Int32) : wpX_common (fun r u' => wpY_common (fun r' v' => r' = r ∧ i_Rel (k + 4) u' v') v v1 v2) u v1 v2 := by
  obtain ⟨le, sets, wts, secs, has, rfl, rfl, H, M⟩ := I
  unfold wpX_common wpY_common
  dsimp only
  rcases cx_party v1 with ⟨p, hp, rfl, hX, hY⟩ | ⟨hX, hY⟩
  · refine hX (br_f (by decide) ?_)
    rcases cx_party v2 with ⟨q, hq, rfl, gX, gY⟩ | ⟨gX, gY⟩
    · refine gX (br_f (by decide) ?_)
      refine cx_cmp hp hq ?_
      dsimp only
      refine cx_sizeOf ?_
      refine hY (br_t rfl ?_)
      refine gY (br_t rfl ?_)
      refine cx_note H hp hq ?_
      dsimp only
      exact cx_shared H hp hq ⟨rfl, cx_R H M⟩
    · refine gX (br_t rfl ?_)
      refine hY (br_t rfl ?_)
      exact gY (br_f (by decide) ⟨rfl, cx_R H M⟩)
  · exact hX (br_t rfl (hY (br_f (by decide) ⟨rfl, cx_R H M⟩)))
theorem i_vc_commonItem {k : Nat} {u : SX} {v : SY} (I : i_Rel k u v) (hk : k + 4 ≤ 2051) (v1 : Int32) (v2 : Int32) (v3 : Int32) : wpX_commonItem (fun r u' => wpY_commonItem (fun r' v' => r' = r ∧ i_Rel (k + 4) u' v') v v1 v2 v3) u v1 v2 v3 := by
  obtain ⟨le, sets, wts, secs, has, rfl, rfl, H, M⟩ := I
  unfold wpX_commonItem wpY_commonItem
  dsimp only
  rcases cx_party v1 with ⟨p, hp, rfl, hX, hY⟩ | ⟨hX, hY⟩
  · refine hX (br_f (by decide) ?_)
    rcases cx_party v2 with ⟨q, hq, rfl, gX, gY⟩ | ⟨gX, gY⟩
    · refine gX (br_f (by decide) ?_)
      refine cx_cmp hp hq ?_
      dsimp only
      refine cx_itemAt ?_
      cases ho : cx_a (cx_b (sets p &&& sets q)) v3 64 0 0 with
      | none =>
        refine br_f (by decide) ?_
        refine hY (br_t rfl ?_)
        refine gY (br_t rfl ?_)
        refine cx_note H hp hq ?_
        dsimp only
        exact ⟨65, cx_commonItemY H hp hq (by rw [ho]; exact ⟨rfl, cx_R H M⟩)⟩
      | some j =>
        have hj := cx_a_lt _ _ _ _ _ ho
        refine br_t (nI_pos' (by omega)) ?_
        refine hY (br_t rfl ?_)
        refine gY (br_t rfl ?_)
        refine cx_note H hp hq ?_
        dsimp only
        exact ⟨65, cx_commonItemY H hp hq (by rw [ho]; exact ⟨rfl, cx_R H M⟩)⟩
    · refine gX (br_t rfl ?_)
      refine hY (br_t rfl ?_)
      exact gY (br_f (by decide) ⟨rfl, cx_R H M⟩)
  · exact hX (br_t rfl (hY (br_f (by decide) ⟨rfl, cx_R H M⟩)))
theorem i_vc_commonWeight {k : Nat} {u : SX} {v : SY} (I : i_Rel k u v) (hk : k + 4 ≤ 2051) (v1 : Int32) (v2 : Int32) : wpX_commonWeight (fun r u' => wpY_commonWeight (fun r' v' => r' = r ∧ i_Rel (k + 4) u' v') v v1 v2) u v1 v2 := by
  obtain ⟨le, sets, wts, secs, has, rfl, rfl, H, M⟩ := I
  unfold wpX_commonWeight wpY_commonWeight
  dsimp only
  rcases cx_party v1 with ⟨p, hp, rfl, hX, hY⟩ | ⟨hX, hY⟩
  · refine hX (br_f (by decide) ?_)
    rcases cx_party v2 with ⟨q, hq, rfl, gX, gY⟩ | ⟨gX, gY⟩
    · refine gX (br_f (by decide) ?_)
      refine cx_cmp hp hq ?_
      dsimp only
      refine ⟨65, cx_commonWeightX hp ?_⟩
      refine hY (br_t rfl ?_)
      refine gY (br_t rfl ?_)
      refine cx_note H hp hq ?_
      dsimp only
      exact ⟨65, cx_commonWeightY H hp hq ⟨rfl, cx_R H M⟩⟩
    · refine gX (br_t rfl ?_)
      refine hY (br_t rfl ?_)
      exact gY (br_f (by decide) ⟨rfl, cx_R H M⟩)
  · exact hX (br_t rfl (hY (br_f (by decide) ⟨rfl, cx_R H M⟩)))
theorem i_vc_within {k : Nat} {u : SX} {v : SY} (I : i_Rel k u v) (hk : k + 4 ≤ 2051) (v1 : Int32) (v2 : Int32) : wpX_within (fun r u' => wpY_within (fun r' v' => r' = r ∧ i_Rel (k + 4) u' v') v v1 v2) u v1 v2 := by
  obtain ⟨le, sets, wts, secs, has, rfl, rfl, H, M⟩ := I
  unfold wpX_within wpY_within
  dsimp only
  rcases cx_party v1 with ⟨p, hp, rfl, hX, hY⟩ | ⟨hX, hY⟩
  · refine hX (br_f (by decide) ?_)
    rcases cx_party v2 with ⟨q, hq, rfl, gX, gY⟩ | ⟨gX, gY⟩
    · refine gX (br_f (by decide) ?_)
      refine cx_cmp hp hq ?_
      dsimp only
      refine ⟨vp_in_nI hp (by decide), ?_⟩
      rw [nI_clamp (show p < 2 ^ 31 by omega)]
      by_cases e : sets p &&& sets q = sets p
      · refine br_t e ?_
        refine hY (br_t rfl ?_)
        refine gY (br_t rfl ?_)
        refine cx_note H hp hq ?_
        dsimp only
        refine cx_shared H hp hq ?_
        refine cx_size H hp ?_
        exact br_t (by rw [e]) ⟨rfl, cx_R H M⟩
      · refine br_f e ?_
        refine hY (br_t rfl ?_)
        refine gY (br_t rfl ?_)
        refine cx_note H hp hq ?_
        dsimp only
        refine cx_shared H hp hq ?_
        refine cx_size H hp ?_
        refine br_f (fun z => e ?_) ⟨rfl, cx_R H M⟩
        have h1 := cx_n_le (cx_b (sets p &&& sets q))
        have h2 := cx_n_le (cx_b (sets p))
        have h3 := (nI_eq (by omega) (by omega)).mp z
        have e2 : cx_b (sets p &&& sets q) = fun i => cx_b (sets p) i && cx_b (sets q) i := funext (cx_b_and (sets p) (sets q))
        rw [e2] at h3
        refine cx_ext (fun j hj => ?_)
        rw [cx_b_and]
        exact cx_c_sub (cx_b (sets p)) (cx_b (sets q)) 64 0 h3 j (by omega) (by omega)
    · refine gX (br_t rfl ?_)
      refine hY (br_t rfl ?_)
      exact gY (br_f (by decide) ⟨rfl, cx_R H M⟩)
  · exact hX (br_t rfl (hY (br_f (by decide) ⟨rfl, cx_R H M⟩)))
theorem i_vc_commonToAll {k : Nat} {u : SX} {v : SY} (I : i_Rel k u v) (hk : k + 4 ≤ 2051) : wpX_commonToAll (fun r => wpY_commonToAll (fun r' => r' = r ∧ i_Rel (k + 4) u v) v) u := by
  obtain ⟨le, sets, wts, secs, has, rfl, rfl, H, M⟩ := I
  unfold wpX_commonToAll wpY_commonToAll
  dsimp only
  refine cx_sizeOf ?_
  refine cx_heldBy H ⟨?_, cx_R H M⟩
  rw [cx_n_congr (fun i _ => cx_all sets i)]
theorem i_vc_itemOfAll {k : Nat} {u : SX} {v : SY} (I : i_Rel k u v) (hk : k + 4 ≤ 2051) (v1 : Int32) : wpX_itemOfAll (fun r => wpY_itemOfAll (fun r' => r' = r ∧ i_Rel (k + 4) u v) v v1) u v1 := by
  obtain ⟨le, sets, wts, secs, has, rfl, rfl, H, M⟩ := I
  unfold wpX_itemOfAll wpY_itemOfAll
  dsimp only
  refine cx_itemAt ?_
  refine ⟨65, cx_itemOfAllY H ⟨?_, cx_R H M⟩⟩
  rw [cx_a_congr v1 64 0 0 (fun i _ _ => cx_all sets i)]
theorem i_vc_any {k : Nat} {u : SX} {v : SY} (I : i_Rel k u v) (hk : k + 4 ≤ 2051) : wpX_any (fun r => wpY_any (fun r' => r' = r ∧ i_Rel (k + 4) u v) v) u := by
  obtain ⟨le, sets, wts, secs, has, rfl, rfl, H, M⟩ := I
  unfold wpX_any wpY_any
  dsimp only
  refine cx_sizeOf ?_
  refine cx_heldBy H ⟨?_, cx_R H M⟩
  have h := cx_c_not (cx_b (((sets 0) ||| (sets 1)) ||| (sets 2))) 64 0
  change cx_n _ + cx_n _ = 64 at h
  rw [← cx_n_congr (fun i _ => cx_none sets i)] at h
  rw [cx_64, pk_sub (by omega)]
  exact congrArg nI (by omega)
theorem i_vc_heldByJust {k : Nat} {u : SX} {v : SY} (I : i_Rel k u v) (hk : k + 4 ≤ 2051) (v1 : Int32) : wpX_heldByJust (fun r => wpY_heldByJust (fun r' => r' = r ∧ i_Rel (k + 4) u v) v v1) u v1 := by
  obtain ⟨le, sets, wts, secs, has, rfl, rfl, H, M⟩ := I
  unfold wpX_heldByJust wpY_heldByJust
  dsimp only
  by_cases h1 : v1 < 1
  · exact br_t h1 (br_t h1 ⟨rfl, cx_R H M⟩)
  · by_cases h3 : v1 ≤ 3
    · refine br_f h1 (br_t h3 ⟨65, cx_heldByJustX ?_⟩)
      exact br_f h1 (br_t h3 (cx_heldBy H ⟨rfl, cx_R H M⟩))
    · exact br_f h1 (br_f h3 (br_f h1 (br_f h3 ⟨rfl, cx_R H M⟩)))
theorem i_vc_alone {k : Nat} {u : SX} {v : SY} (I : i_Rel k u v) (hk : k + 4 ≤ 2051) (v1 : Int32) : wpX_alone (fun r => wpY_alone (fun r' => r' = r ∧ i_Rel (k + 4) u v) v v1) u v1 := by
  obtain ⟨le, sets, wts, secs, has, rfl, rfl, H, M⟩ := I
  unfold wpX_alone wpY_alone
  dsimp only
  rcases cx_party v1 with ⟨p, hp, rfl, hX, hY⟩ | ⟨hX, hY⟩
  · refine hX (br_f (by decide) ?_)
    rw [cx_ne1 hp, cx_ne2 hp, nI_clamp (show p < 2 ^ 31 by omega), nI_clamp (show (p + 1) % 3 < 2 ^ 31 by omega), nI_clamp (show (p + 2) % 3 < 2 ^ 31 by omega)]
    refine ⟨by decide, vp_in_nI (by omega) (by decide), by decide, vp_in_nI (by omega) (by decide), nm_e ⟨vp_in_nI hp (by decide), ?_⟩⟩
    refine cx_sizeOf ?_
    refine hY (br_t rfl ⟨65, cx_aloneY H hp ⟨?_, cx_R H M⟩⟩)
    rw [cx_n_congr (fun i hi => cx_sole sets hp hi)]
  · exact hX (br_t rfl (hY (br_f (by decide) ⟨rfl, cx_R H M⟩)))
