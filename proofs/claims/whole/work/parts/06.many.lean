/-! giveMany -/
section
variable {sets : Nat → Int64} {has : Nat → Int32} {le : Int32} {wts : Nat → Int32}
theorem cx_fresh {post : Int32 → SY → Prop} (H : cx_H sets has) {p a c s : Nat} (hp : p < 3) (ha : a < 64) (hc : c < 17) (hs : s < 64) (h : ∀ n, wY_giveMany_58 post (nI p) (nI s) (nI c) (nI a) le has wts (n + 1) (nI (cx_n (fun i => cx_am a s c 0 i && !cx_b (sets p) i))) (nI 64)) : wY_giveMany_58 post (nI p) (nI s) (nI c) (nI a) le has wts 65 0 0 := by
  refine cx_loopc (W := fun n x y => wY_giveMany_58 post (nI p) (nI s) (nI c) (nI a) le has wts n x y) (post := fun x => ∀ n, wY_giveMany_58 post (nI p) (nI s) (nI c) (nI a) le has wts (n + 1) x (nI 64)) (fun i => cx_am a s c 0 i && !cx_b (sets p) i) 64 ?_ ?_ ?_ h
  · intro n x hq
    exact hq n
  · intro n x j hj hf hw
    rw [Bool.and_eq_true, Bool.not_eq_true'] at hf
    exact br_f (cx_lt64 hj) (cx_amT ha hc hs hj hf.1 (br_f (by decide) ⟨cx_inY hp hj, br_t (cx_has0 H hp hj hf.2) (nm_e (nm_r (nI_1 j) hw))⟩))
  · intro n x j hj hf hw
    cases h1 : cx_am a s c 0 j with
    | false => exact br_f (cx_lt64 hj) (cx_amF ha hc hs hj h1 (br_t rfl (nm_r (nI_1 j) hw)))
    | true =>
      rw [h1, Bool.true_and, Bool.not_eq_false'] at hf
      exact br_f (cx_lt64 hj) (cx_amT ha hc hs hj h1 (br_f (by decide) ⟨cx_inY hp hj, br_f (cx_has1 H hp hj hf) (nm_r (nI_1 j) hw)⟩))
theorem cx_fill {post : Int32 → SY → Prop} {f : Nat → Bool} {p a c s : Nat} (hp : p < 3) (ha : a < 64) (hc : c < 17) (hs : s < 64) : ∀ d j h w, j + d = 64 → (∀ i, j ≤ i → i < 64 → f i = (cx_am a s c 0 i && decide (h (64 * p + i) = 0))) → wpY_size (fun r => post r (le, cx_u f p (vp_nar .boolean 1) d j h, cx_u f p 1 d j w)) (le, cx_u f p (vp_nar .boolean 1) d j h, cx_u f p 1 d j w) (nI p) → wY_giveMany_122 post (nI p) (nI s) (nI c) (nI a) le (d + 1) (nI j) h w := by
  intro d
  induction d with
  | zero =>
    intro j h w e _ hq
    have e1 : j = 64 := by omega
    subst e1
    exact br_t cx_64le hq
  | succ d ih =>
    intro j h w e hf hq
    have hj : j < 64 := by omega
    have h0 := hf j (by omega) hj
    rw [cx_u, cx_u] at hq
    cases h1 : cx_am a s c 0 j with
    | false =>
      rw [h1, Bool.false_and] at h0
      rw [h0, if_neg (by decide), if_neg (by decide)] at hq
      exact br_f (cx_lt64 hj) (cx_amF ha hc hs hj h1 (br_t rfl (nm_r (nI_1 j) (ih (j + 1) h w (by omega) (fun i h2 h3 => hf i (by omega) h3) hq))))
    | true =>
      rw [h1, Bool.true_and] at h0
      by_cases z : h (64 * p + j) = 0
      · rw [h0, decide_eq_true z, if_pos rfl, if_pos rfl] at hq
        refine br_f (cx_lt64 hj) (cx_amT ha hc hs hj h1 (br_f (by decide) ⟨cx_inY hp hj, br_t (by rw [cx_clY hp hj]; exact z) ⟨cx_inY hp hj, nm_r (by rw [cx_clY hp hj]) ⟨cx_inY hp hj, nm_r (by rw [cx_clY hp hj]) (nm_r (nI_1 j) (ih (j + 1) _ _ (by omega) (fun i h2 h3 => ?_) hq))⟩⟩⟩))
        rw [pk_un (by omega)]
        exact hf i (by omega) h3
      · rw [h0, decide_eq_false z, if_neg (by decide), if_neg (by decide)] at hq
        exact br_f (cx_lt64 hj) (cx_amT ha hc hs hj h1 (br_f (by decide) ⟨cx_inY hp hj, br_f (by rw [cx_clY hp hj]; exact z) (nm_r (nI_1 j) (ih (j + 1) h w (by omega) (fun i h2 h3 => hf i (by omega) h3) hq))⟩))
theorem cx_free (H : cx_H sets has) {p i : Nat} (hp : p < 3) (hi : i < 64) : decide (has (64 * p + i) = 0) = !cx_b (sets p) i := by
  have hh := H p hp i hi
  cases z : cx_b (sets p) i with
  | true => exact decide_eq_false (fun y => by rw [hh.mp y] at z; cases z)
  | false => exact decide_eq_true (hh.mpr z)
theorem cx_manyH (H : cx_H sets has) {p : Nat} (hp : p < 3) {w : Int64} {g : Nat → Bool} (hb : ∀ j, cx_b w j = (cx_b (sets p) j || g j)) : cx_H (vp_updL sets p w) (cx_u (fun i => g i && !cx_b (sets p) i) p (vp_nar .boolean 1) 64 0 has) := by
  refine cx_H_upd H (fun i hi => ?_) (fun m hm => cx_u_out _ _ _ _ _ _ _ (by omega))
  rw [cx_u_in _ _ _ _ _ _ _ (by omega) (by omega), hb, cx_nb1]
  have hh := H p hp i hi
  generalize has (64 * p + i) = y at hh ⊢
  generalize cx_b (sets p) i = z at hh ⊢
  generalize g i = x
  cases z with
  | true =>
    have e : (if (x && !true) = true then (1 : Int32) else y) = y := by cases x <;> rfl
    rw [e]
    exact hh
  | false =>
    cases x with
    | true => exact ⟨fun q => absurd (show (1 : Int32) = 0 from q) (by decide), fun q => nomatch q⟩
    | false => exact hh
end
theorem i_vc_giveMany {k : Nat} {u : SX} {v : SY} (I : i_Rel k u v) (hk : k + 4 ≤ 2051) (v1 : Int32) (v2 : Int32) (v3 : Int32) : wpX_giveMany (fun r u' => wpY_giveMany (fun r' v' => r' = r ∧ i_Rel (k + 4) u' v') v v1 v2 v3) u v1 v2 v3 := by
  obtain ⟨le, sets, wts, secs, has, rfl, rfl, H, M⟩ := I
  unfold wpX_giveMany wpY_giveMany
  dsimp only
  rcases cx_party v1 with ⟨p, hp, rfl, hX, hY⟩ | ⟨hX, hY⟩
  · refine hX (br_f (by decide) ?_)
    by_cases h1 : v2 < 64
    · exact br_t h1 (hY (br_t rfl (br_t h1 ⟨rfl, cx_R H M⟩)))
    by_cases h2 : v2 ≤ 1087
    · by_cases h3 : v3 < 1
      · exact br_f h1 (br_t h2 (br_t h3 (hY (br_t rfl (br_f h1 (br_t h2 (br_t h3 ⟨rfl, cx_R H M⟩)))))))
      by_cases h4 : v3 < 64
      · obtain ⟨s, s1, s2, rfl⟩ := cx_rng 1 64 (by decide) (by decide) h3 (Int32.le_of_lt h4)
        have hs : s < 64 := (nI_ltI (b := 64) (by omega) (by decide)).mp h4
        have h5 : nI s ≤ 63 := nI_le (b := 63) (by omega) (by decide)
        obtain ⟨m, m1, m2, rfl⟩ := cx_rng 64 1087 (by decide) (by decide) h1 h2
        refine br_f h1 (br_t h2 (br_f h3 (br_t h4 ⟨vp_in_nI hp (by decide), ?_⟩)))
        rw [nI_clamp (show p < 2 ^ 31 by omega), cx_rem (show m < 2 ^ 31 by omega), cx_div (show m < 2 ^ 31 by omega)]
        have ha : m % 64 < 64 := by omega
        have hc : m / 64 < 17 := by omega
        generalize m % 64 = a at ha
        generalize m / 64 = c at hc
        refine nm_e ⟨by decide, by decide, ?_⟩
        refine cx_stepped ha hc hs ?_
        intro w ew
        have hb : ∀ j, cx_b w j = (cx_b (sets p) j || cx_am a s c 0 j) := fun j => by rw [ew, cx_b_or, cx_st_b, cx_b_0, Bool.false_or]
        have hn : cx_n (cx_b w) = cx_n (cx_b (sets p)) + cx_n (fun i => cx_am a s c 0 i && !cx_b (sets p) i) := by
          rw [show cx_b w = _ from funext hb]
          exact cx_c_split (cx_b (sets p)) (fun i => cx_am a s c 0 i) 64 0
        have h64 := cx_n_le (cx_b w)
        refine cx_sizeOf ?_
        by_cases hle : cx_n (cx_b w) ≤ 16
        · refine br_t (nI_le (b := 16) hle (by decide)) ⟨vp_in_nI hp (by decide), nm_e ?_⟩
          refine cx_weighOne hp ?_
          dsimp only
          refine hY (br_t rfl ?_)
          refine br_f h1 (br_t h2 (br_f h3 (br_t h5 ⟨by decide, nm_e ⟨by decide, nm_e ⟨65, cx_fresh H hp ha hc hs (fun n => br_t cx_64le ?_)⟩⟩⟩)))
          refine cx_size H hp ?_
          rw [nI_add, ← hn]
          refine br_t (nI_le (b := 16) hle (by decide)) ⟨65, ?_⟩
          have hw : cx_u (cx_b (w &&& (sets p ^^^ (-1)))) p 1 64 0 wts = cx_u (fun i => cx_am a s c 0 i && !cx_b (sets p) i) p 1 64 0 wts := by
            refine cx_u_congr p 1 64 0 wts (fun i _ hi => ?_)
            rw [cx_b_and, cx_b_not _ (by omega), hb]
            cases cx_b (sets p) i <;> cases cx_am a s c 0 i <;> rfl
          rw [hw]
          have Hs := cx_manyH H hp hb
          have t := cx_fill (post := fun r' v' => r' = nI (cx_n (cx_b w)) ∧ i_Rel (k + 4) (le, vp_updL sets p w, cx_u (fun i => cx_am a s c 0 i && !cx_b (sets p) i) p 1 64 0 wts, secs) v') (le := le) (f := fun i => cx_am a s c 0 i && !cx_b (sets p) i) hp ha hc hs 64 0 has wts (by omega) (fun i _ hi => ?_) (cx_size Hs hp ?_)
          · rw [nI_0] at t
            exact t
          · exact congrArg (fun z => cx_am a s c 0 i && z) (cx_free H hp hi).symm
          · rw [pk_uLs]
            exact ⟨rfl, cx_R Hs (cx_M_upd M hle)⟩
        · refine br_f (nI_ge (a := 16) (by omega) (by omega)) ?_
          refine hY (br_t rfl ?_)
          refine br_f h1 (br_t h2 (br_f h3 (br_t h5 ⟨by decide, nm_e ⟨by decide, nm_e ⟨65, cx_fresh H hp ha hc hs (fun n => br_t cx_64le ?_)⟩⟩⟩)))
          refine cx_size H hp ?_
          rw [nI_add, ← hn]
          exact br_f (nI_ge (a := 16) (by omega) (by omega)) ⟨rfl, cx_R H M⟩
      · have h5 : ¬ v3 ≤ 63 := by
          intro z
          apply h4
          rw [Int32.lt_iff_toInt_lt]
          rw [Int32.le_iff_toInt_le] at z
          have e1 : (63 : Int32).toInt = 63 := rfl
          have e2 : (64 : Int32).toInt = 64 := rfl
          omega
        exact br_f h1 (br_t h2 (br_f h3 (br_f h4 (hY (br_t rfl (br_f h1 (br_t h2 (br_f h3 (br_f h5 ⟨rfl, cx_R H M⟩)))))))))
    · exact br_f h1 (br_f h2 (hY (br_t rfl (br_f h1 (br_f h2 ⟨rfl, cx_R H M⟩)))))
  · exact hX (br_t rfl (hY (br_f (by decide) ⟨rfl, cx_R H M⟩)))
