/-! the methods that don't fill many places at once -/
theorem cx_H_upd {sets : Nat → Int64} {has has' : Nat → Int32} (H : cx_H sets has) {p : Nat} {w : Int64} (h1 : ∀ i, i < 64 → (has' (64 * p + i) = 0 ↔ cx_b w i = false)) (h2 : ∀ m, (m < 64 * p ∨ 64 * p + 64 ≤ m) → has' m = has m) : cx_H (vp_updL sets p w) has' := by
  intro q hq i hi
  by_cases e : q = p
  · subst e
    rw [pk_uLs]
    exact h1 i hi
  · rw [pk_uLn e, h2 (64 * q + i) (by omega)]
    exact H q hq i hi
theorem cx_M_upd {sets : Nat → Int64} (M : cx_M sets) {p : Nat} {w : Int64} (h : cx_n (cx_b w) ≤ 16) : cx_M (vp_updL sets p w) := by
  intro q hq
  by_cases e : q = p
  · subst e
    rw [pk_uLs]
    exact h
  · rw [pk_uLn e]
    exact M q hq
theorem i_up {k : Nat} {u : SX} {v : SY} (h : i_Rel k u v) : i_Rel (k + 4) u v := h
theorem i_vc0 (k0 : Int32) (k1 : Int32) (k2 : Int32) : wpX_init (fun u => wpY_init (fun v => i_Rel 3 u v) k0 k1 k2) k0 k1 k2 := by
  intro a _ b _ c _
  refine cx_R (k := 3) (fun p _ i _ => ⟨fun _ => cx_b_0 i, fun _ => rfl⟩) (fun p _ => ?_)
  have e : cx_n (cx_b 0) = cx_n (fun _ => false) := cx_n_congr (fun i _ => cx_b_0 i)
  show cx_n (cx_b 0) ≤ 16
  rw [e]
  decide
theorem i_vc_secret {k : Nat} {u : SX} {v : SY} (I : i_Rel k u v) (hk : k + 4 ≤ 2051) (v1 : Int32) (v2 : Int32) : wpX_secret (fun r u' => wpY_secret (fun r' => r' = r ∧ i_Rel (k + 4) u' v) v v1 v2) u v1 v2 := by
  obtain ⟨le, sets, wts, secs, has, rfl, rfl, H, M⟩ := I
  unfold wpX_secret wpY_secret
  dsimp only
  rcases cx_party v1 with ⟨p, hp, rfl, hX, hY⟩ | ⟨hX, hY⟩
  · exact hX (br_f (by decide) ⟨vp_in_nI hp (by decide), nm_e (hY (br_t rfl ⟨rfl, cx_R H M⟩))⟩)
  · exact hX (br_t rfl (hY (br_f (by decide) ⟨rfl, cx_R H M⟩)))
theorem i_vc_give {k : Nat} {u : SX} {v : SY} (I : i_Rel k u v) (hk : k + 4 ≤ 2051) (v1 : Int32) (v2 : Int32) (v3 : Int32) : wpX_give (fun r u' => wpY_give (fun r' v' => r' = r ∧ i_Rel (k + 4) u' v') v v1 v2 v3) u v1 v2 v3 := by
  obtain ⟨le, sets, wts, secs, has, rfl, rfl, H, M⟩ := I
  unfold wpX_give wpY_give
  dsimp only
  rcases cx_party v1 with ⟨p, hp, rfl, hX, hY⟩ | ⟨hX, hY⟩
  · refine hX (br_f (by decide) ?_)
    rcases cx_item v2 with ⟨i, hi, rfl, gX, gY⟩ | ⟨gX, gY⟩
    · refine gX (br_f (by decide) ⟨vp_in_nI hp (by decide), ?_⟩)
      rw [nI_clamp (show p < 2 ^ 31 by omega)]
      intro w ew
      have hb : ∀ j, cx_b w j = (cx_b (sets p) j || decide (i = j)) := fun j => by rw [ew, cx_b_or, cx_b_one hi]
      have hn : cx_n (cx_b w) = cx_n (cx_b (sets p)) + (!cx_b (sets p) i).toNat := by
        rw [show cx_b w = _ from funext hb]
        exact cx_n_one _ hi
      have hM := M p hp
      have Hs : cx_H (vp_updL sets p w) (upd has (64 * p + i) (vp_nar .boolean 1)) := by
        refine cx_H_upd H (fun j hj => ?_) (fun m hm => pk_un (by omega))
        rw [hb j]
        by_cases e : i = j
        · subst e
          rw [pk_us, cx_nb1, decide_eq_true rfl, Bool.or_true]
          exact ⟨fun z => absurd z (by decide), fun z => nomatch z⟩
        · rw [pk_un (by omega), decide_eq_false e, Bool.or_false]
          exact H p hp j hj
      have G : cx_n (cx_b w) ≤ 16 → wY_give_48 (fun r' v' => r' = nI (cx_n (cx_b w)) ∧ i_Rel (k + 4) (le, vp_updL sets p w, upd wts (64 * p + i) v3, secs) v') (nI p) (nI i) v3 le has wts := by
        intro hle
        refine ⟨cx_inY hp hi, nm_r (by rw [cx_clY hp hi]) ⟨cx_inY hp hi, nm_r (by rw [cx_clY hp hi]) ?_⟩⟩
        refine cx_size Hs hp ?_
        rw [pk_uLs]
        exact ⟨rfl, cx_R Hs (cx_M_upd M hle)⟩
      refine cx_sizeOf ?_
      by_cases hle : cx_n (cx_b w) ≤ 16
      · refine br_t (nI_le (b := 16) hle (by decide)) ⟨vp_in_nI hp (by decide), nm_e ⟨cx_inX hp hi, nm_r (by rw [cx_clX hp hi]) ?_⟩⟩
        refine hY (br_t rfl ?_)
        refine gY (br_t rfl ?_)
        refine cx_size H hp ?_
        by_cases h16 : cx_n (cx_b (sets p)) = 16
        · have hf : cx_b (sets p) i = true := by
            cases hz : cx_b (sets p) i with
            | true => rfl
            | false =>
              rw [hz, h16] at hn
              rw [hn] at hle
              exact absurd hle (by decide)
          exact br_t (by rw [h16]; rfl) ⟨cx_inY hp hi, br_f (cx_has1 H hp hi hf) (G hle)⟩
        · exact br_f (fun z => h16 ((nI_eq (b := 16) (by omega) (by decide)).mp z)) (G hle)
      · have h64 := cx_n_le (cx_b w)
        refine br_f (nI_ge (a := 16) (by omega) (by omega)) ?_
        refine hY (br_t rfl ?_)
        refine gY (br_t rfl ?_)
        refine cx_size H hp ?_
        have hf : cx_b (sets p) i = false := by
          cases hz : cx_b (sets p) i with
          | false => rfl
          | true =>
            rw [hz] at hn
            change cx_n (cx_b w) = cx_n (cx_b (sets p)) + 0 at hn
            omega
        have h16 : cx_n (cx_b (sets p)) = 16 := by
          rw [hf] at hn
          change cx_n (cx_b w) = cx_n (cx_b (sets p)) + 1 at hn
          omega
        exact br_t (by rw [h16]; rfl) ⟨cx_inY hp hi, br_t (cx_has0 H hp hi hf) ⟨rfl, cx_R H M⟩⟩
    · refine gX (br_t rfl ?_)
      refine hY (br_t rfl ?_)
      exact gY (br_f (by decide) ⟨rfl, cx_R H M⟩)
  · exact hX (br_t rfl (hY (br_f (by decide) ⟨rfl, cx_R H M⟩)))
theorem i_vc_take {k : Nat} {u : SX} {v : SY} (I : i_Rel k u v) (hk : k + 4 ≤ 2051) (v1 : Int32) (v2 : Int32) : wpX_take (fun r u' => wpY_take (fun r' v' => r' = r ∧ i_Rel (k + 4) u' v') v v1 v2) u v1 v2 := by
  obtain ⟨le, sets, wts, secs, has, rfl, rfl, H, M⟩ := I
  unfold wpX_take wpY_take
  dsimp only
  rcases cx_party v1 with ⟨p, hp, rfl, hX, hY⟩ | ⟨hX, hY⟩
  · refine hX (br_f (by decide) ?_)
    rcases cx_item v2 with ⟨i, hi, rfl, gX, gY⟩ | ⟨gX, gY⟩
    · refine gX (br_f (by decide) ⟨vp_in_nI hp (by decide), ?_⟩)
      rw [nI_clamp (show p < 2 ^ 31 by omega)]
      cases hf : cx_b (sets p) i with
      | false =>
        refine cx_con0 hi hf (br_t rfl ?_)
        refine hY (br_t rfl ?_)
        refine gY (br_t rfl ?_)
        exact ⟨cx_inY hp hi, br_t (cx_has0 H hp hi hf) ⟨rfl, cx_R H M⟩⟩
      | true =>
        have hw : ∀ w, w = (sets p) &&& (((1 : Int64) <<< ((nI i).toInt64 &&& 63)) ^^^ (-1)) → ∀ j, j < 64 → cx_b w j = (cx_b (sets p) j && !decide (i = j)) := by
          intro w ew j hj
          rw [ew, cx_b_and, cx_b_not _ hj, cx_b_one hi]
        generalize (sets p) &&& (((1 : Int64) <<< ((nI i).toInt64 &&& 63)) ^^^ (-1)) = w at hw ⊢
        have hb := hw w rfl
        have hle : cx_n (cx_b w) ≤ 16 := by
          have e : cx_n (cx_b w) = cx_n (fun j => cx_b (sets p) j && !decide (i = j)) := cx_n_congr hb
          have h1 := cx_c_al (cx_b (sets p)) (fun j => !decide (i = j)) 64 0
          have h2 := M p hp
          rw [e]
          exact Nat.le_trans h1 h2
        have Hs : cx_H (vp_updL sets p w) (upd has (64 * p + i) (vp_nar .boolean 0)) := by
          refine cx_H_upd H (fun j hj => ?_) (fun m hm => pk_un (by omega))
          rw [hb j hj]
          by_cases e : i = j
          · subst e
            rw [pk_us, cx_nb0, decide_eq_true rfl, Bool.not_true, Bool.and_false]
            exact ⟨fun _ => rfl, fun _ => rfl⟩
          · rw [pk_un (by omega), decide_eq_false e, Bool.not_false, Bool.and_true]
            exact H p hp j hj
        refine cx_con1 hi hf (br_f (by decide) ⟨vp_in_nI hp (by decide), vp_in_nI hp (by decide), nm_e ⟨vp_in_nI hp (by decide), ?_⟩⟩)
        rw [pk_uLs]
        refine cx_sizeOf ?_
        refine hY (br_t rfl ?_)
        refine gY (br_t rfl ?_)
        refine ⟨cx_inY hp hi, br_f (cx_has1 H hp hi hf) ⟨cx_inY hp hi, nm_r (by rw [cx_clY hp hi]) ?_⟩⟩
        refine cx_size Hs hp ?_
        rw [pk_uLs]
        exact ⟨rfl, cx_R Hs (cx_M_upd M hle)⟩
    · refine gX (br_t rfl ?_)
      refine hY (br_t rfl ?_)
      exact gY (br_f (by decide) ⟨rfl, cx_R H M⟩)
  · exact hX (br_t rfl (hY (br_f (by decide) ⟨rfl, cx_R H M⟩)))
theorem cx_clear {post : Int32 → SY → Prop} {le r : Int32} {has wts : Nat → Int32} {p : Nat} (hp : p < 3) (h : post r (le, cx_u (fun _ => true) p (vp_nar .boolean 0) 64 0 has, wts)) : wY_clear_18 post (nI p) r le 65 0 has wts := by
  have t : ∀ d j a, j + d = 64 → post r (le, cx_u (fun _ => true) p (vp_nar .boolean 0) d j a, wts) → wY_clear_18 post (nI p) r le (d + 1) (nI j) a wts := by
    intro d
    induction d with
    | zero =>
      intro j a e hq
      have e1 : j = 64 := by omega
      subst e1
      exact br_t cx_64le hq
    | succ d ih =>
      intro j a e hq
      have hj : j < 64 := by omega
      rw [cx_u, if_pos rfl] at hq
      exact br_f (cx_lt64 hj) ⟨cx_inY hp hj, nm_r (by rw [cx_clY hp hj]) (nm_r (nI_1 j) (ih (j + 1) _ (by omega) hq))⟩
  have t2 := t 64 0 has (by omega) h
  rw [nI_0] at t2
  exact t2
theorem i_vc_clear {k : Nat} {u : SX} {v : SY} (I : i_Rel k u v) (hk : k + 4 ≤ 2051) (v1 : Int32) : wpX_clear (fun r u' => wpY_clear (fun r' v' => r' = r ∧ i_Rel (k + 4) u' v') v v1) u v1 := by
  obtain ⟨le, sets, wts, secs, has, rfl, rfl, H, M⟩ := I
  unfold wpX_clear wpY_clear
  dsimp only
  rcases cx_party v1 with ⟨p, hp, rfl, hX, hY⟩ | ⟨hX, hY⟩
  · refine hX (br_f (by decide) ⟨vp_in_nI hp (by decide), ?_⟩)
    rw [nI_clamp (show p < 2 ^ 31 by omega)]
    refine cx_sizeOf ⟨vp_in_nI hp (by decide), nm_e ?_⟩
    refine hY (br_t rfl ?_)
    refine cx_size H hp ⟨65, cx_clear hp ⟨rfl, cx_R ?_ (cx_M_upd M ?_)⟩⟩
    · refine cx_H_upd H (fun i hi => ?_) (fun m hm => cx_u_out _ _ _ _ _ _ _ (by omega))
      rw [cx_u_in _ _ _ _ _ _ _ (by omega) (by omega), if_pos rfl, cx_b_0, cx_nb0]
      exact ⟨fun _ => rfl, fun _ => rfl⟩
    · have e : cx_n (cx_b 0) = cx_n (fun _ => false) := cx_n_congr (fun i _ => cx_b_0 i)
      rw [e]
      decide
  · exact hX (br_t rfl (hY (br_f (by decide) ⟨rfl, cx_R H M⟩)))
theorem i_vc_held {k : Nat} {u : SX} {v : SY} (I : i_Rel k u v) (hk : k + 4 ≤ 2051) (v1 : Int32) : wpX_held (fun r => wpY_held (fun r' => r' = r ∧ i_Rel (k + 4) u v) v v1) u v1 := by
  obtain ⟨le, sets, wts, secs, has, rfl, rfl, H, M⟩ := I
  unfold wpX_held wpY_held
  dsimp only
  rcases cx_party v1 with ⟨p, hp, rfl, hX, hY⟩ | ⟨hX, hY⟩
  · refine hX (br_f (by decide) ⟨vp_in_nI hp (by decide), ?_⟩)
    rw [nI_clamp (show p < 2 ^ 31 by omega)]
    refine cx_sizeOf ?_
    refine hY (br_t rfl ?_)
    exact cx_size H hp ⟨rfl, cx_R H M⟩
  · exact hX (br_t rfl (hY (br_f (by decide) ⟨rfl, cx_R H M⟩)))
theorem i_vc_holds {k : Nat} {u : SX} {v : SY} (I : i_Rel k u v) (hk : k + 4 ≤ 2051) (v1 : Int32) (v2 : Int32) : wpX_holds (fun r => wpY_holds (fun r' => r' = r ∧ i_Rel (k + 4) u v) v v1 v2) u v1 v2 := by
  obtain ⟨le, sets, wts, secs, has, rfl, rfl, H, M⟩ := I
  unfold wpX_holds wpY_holds
  dsimp only
  rcases cx_party v1 with ⟨p, hp, rfl, hX, hY⟩ | ⟨hX, hY⟩
  · refine hX (br_f (by decide) ?_)
    rcases cx_item v2 with ⟨i, hi, rfl, gX, gY⟩ | ⟨gX, gY⟩
    · refine gX (br_f (by decide) ⟨vp_in_nI hp (by decide), ?_⟩)
      rw [nI_clamp (show p < 2 ^ 31 by omega)]
      cases hf : cx_b (sets p) i with
      | false =>
        refine cx_con0 hi hf (br_t rfl ?_)
        refine hY (br_t rfl ?_)
        refine gY (br_t rfl ?_)
        exact ⟨cx_inY hp hi, br_t (cx_has0 H hp hi hf) ⟨rfl, cx_R H M⟩⟩
      | true =>
        refine cx_con1 hi hf (br_f (by decide) ?_)
        refine hY (br_t rfl ?_)
        refine gY (br_t rfl ?_)
        exact ⟨cx_inY hp hi, br_f (cx_has1 H hp hi hf) ⟨rfl, cx_R H M⟩⟩
    · refine gX (br_t rfl ?_)
      refine hY (br_t rfl ?_)
      exact gY (br_f (by decide) ⟨rfl, cx_R H M⟩)
  · exact hX (br_t rfl (hY (br_f (by decide) ⟨rfl, cx_R H M⟩)))
theorem i_vc_traffic {k : Nat} {u : SX} {v : SY} (I : i_Rel k u v) (hk : k + 4 ≤ 2051) : wpX_traffic (fun r => wpY_traffic (fun r' => r' = r ∧ i_Rel (k + 4) u v) v) u := by
  obtain ⟨le, sets, wts, secs, has, rfl, rfl, H, M⟩ := I
  exact ⟨rfl, cx_R H M⟩
