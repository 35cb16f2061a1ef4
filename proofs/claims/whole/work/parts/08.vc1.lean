theorem i_vc_put {k : Nat} {u : SX} {v : SY} (I : i_Rel k u v) (hk : k + 4 ≤ 2048) (v1 : Int32) (v2 : Int32) : wpX_put (fun r u' => wpY_put (fun r' v' => r' = r ∧ i_Rel (k + 4) u' v') v v1 v2) u v1 v2 := by
  obtain ⟨c, z⟩ := u
  obtain ⟨a, q, lf⟩ := v
  have I' : i_Rel (k + 4) (c, z) (a, q, lf) := I
  obtain ⟨L, H, hS, HY⟩ := I
  dsimp only at H HY
  unfold wpX_put wpY_put
  dsimp only
  rcases kd_cas 4 (by decide) v1 with h1 | ⟨e, he, rfl⟩
  · refine xm_isE_f h1 ?_
    refine br_t rfl ?_
    refine ym_ex_f h1 ?_
    exact br_t rfl ⟨rfl, I'⟩
  · refine xm_isE_t he ?_
    refine br_f (by decide) ?_
    rcases kd_cas 128 (by decide) v2 with h2 | ⟨b, hb, rfl⟩
    · refine xm_isC_f h2 ?_
      refine br_t rfl ?_
      refine ym_ex_t he ?_
      refine br_f (by decide) ?_
      refine ym_cu_f h2 ?_
      exact br_t rfl ⟨rfl, I'⟩
    · refine xm_isC_t hb ?_
      refine br_f (by decide) ?_
      refine xm_containsN H (by omega) hb ?_
      refine kd_bb (fun h => ?_) (fun h => ?_)
      · refine ⟨vp_in_nI (N := 6) (by omega) (by omega), ?_⟩
        rw [kd_zs H (by omega)]
        rw [kd_iy, nI_clamp (n := 128 * e + b) (by omega), HY e he b hb, h]
        have h8 := (H e (by omega)).2.1
        by_cases hl : (L e).length < 8
        · refine br_t (nI_lt (b := 8) hl (by decide)) ?_
          refine xm_insert H (by omega) hb hl fun c' z' H' => ?_
          refine ym_ex_t he ?_
          refine br_f (by decide) ?_
          refine ym_cu_t hb ?_
          refine br_f (by decide) ?_
          refine ⟨vp_in_nI (by omega) (by omega), br_t rfl ?_⟩
          refine ym_many he (HY e he) (hS e he) ?_
          refine br_t (nI_lt (b := 8) hl (by decide)) ?_
          unfold wY_put_43
          rw [kd_iy, nI_clamp (n := 128 * e + b) (by omega), kd_nar1]
          have hi := kd_ins (hS e he) hb (decide_eq_false_iff_not.mp h)
          refine ⟨vp_in_nI (by omega) (by omega), nm_e ⟨rfl, kd_rel (kd_XEI H') (kd_SU hS hi.1) (kd_Y_upd HY he hb ?_ ?_)⟩⟩
          · intro x hx
            rw [hi.2 x]
            exact ⟨fun h => h.resolve_left hx, Or.inr⟩
          · rw [decide_eq_true_eq, hi.2 b]
            exact Or.inl rfl
        · refine br_f (nI_nlt (b := 8) (by omega) (by omega)) ?_
          refine ym_ex_t he ?_
          refine br_f (by decide) ?_
          refine ym_cu_t hb ?_
          refine br_f (by decide) ?_
          refine ⟨vp_in_nI (by omega) (by omega), br_t rfl ?_⟩
          refine ym_many he (HY e he) (hS e he) ?_
          exact br_f (nI_nlt (b := 8) (by omega) (by omega)) ⟨rfl, I'⟩
      · refine ym_ex_t he ?_
        refine br_f (by decide) ?_
        refine ym_cu_t hb ?_
        refine br_f (by decide) ?_
        rw [kd_iy, nI_clamp (n := 128 * e + b) (by omega), HY e he b hb, h]
        refine ⟨vp_in_nI (by omega) (by omega), br_f (by decide) ?_⟩
        unfold wY_put_43
        rw [kd_iy, nI_clamp (n := 128 * e + b) (by omega), kd_nar1]
        have HY' := kd_Y_upd (l := L e) HY he hb (fun x _ => Iff.rfl) h
        rw [kd_UI] at HY'
        exact ⟨vp_in_nI (by omega) (by omega), nm_e ⟨rfl, kd_rel (kd_XEI H) hS HY'⟩⟩
theorem i_vc_take {k : Nat} {u : SX} {v : SY} (I : i_Rel k u v) (hk : k + 4 ≤ 2048) (v1 : Int32) (v2 : Int32) : wpX_take (fun r u' => wpY_take (fun r' v' => r' = r ∧ i_Rel (k + 4) u' v') v v1 v2) u v1 v2 := by
  obtain ⟨c, z⟩ := u
  obtain ⟨a, q, lf⟩ := v
  have I' : i_Rel (k + 4) (c, z) (a, q, lf) := I
  obtain ⟨L, H, hS, HY⟩ := I
  dsimp only at H HY
  unfold wpX_take wpY_take
  dsimp only
  rcases kd_cas 4 (by decide) v1 with h1 | ⟨e, he, rfl⟩
  · refine xm_isE_f h1 ?_
    refine br_t rfl ?_
    refine ym_ex_f h1 ?_
    exact br_t rfl ⟨rfl, I'⟩
  · refine xm_isE_t he ?_
    refine br_f (by decide) ?_
    rcases kd_cas 128 (by decide) v2 with h2 | ⟨b, hb, rfl⟩
    · refine xm_containsB H (by omega) h2 ?_
      refine br_t rfl ?_
      refine ym_ex_t he ?_
      refine br_f (by decide) ?_
      refine ym_cu_f h2 ?_
      exact br_t rfl ⟨rfl, I'⟩
    · refine xm_containsN H (by omega) hb ?_
      rw [kd_iy, nI_clamp (n := 128 * e + b) (by omega), HY e he b hb, kd_nar0]
      refine kd_bb (fun h => ?_) (fun h => ?_)
      · rw [h]
        refine ym_ex_t he ?_
        refine br_f (by decide) ?_
        refine ym_cu_t hb ?_
        refine br_f (by decide) ?_
        exact ⟨vp_in_nI (by omega) (by omega), br_t rfl ⟨rfl, I'⟩⟩
      · rw [h]
        have hr := kd_rem (hS e he) (decide_eq_true_eq.mp h)
        refine xm_remove H (by omega) hb hr.1 fun c' z' H' => ?_
        refine ym_ex_t he ?_
        refine br_f (by decide) ?_
        refine ym_cu_t hb ?_
        refine br_f (by decide) ?_
        refine ⟨vp_in_nI (by omega) (by omega), br_f (by decide) ⟨vp_in_nI (by omega) (by omega), nm_e ⟨rfl, kd_rel (kd_XEI H') (kd_SU hS hr.2.1) (kd_Y_upd HY he hb ?_ ?_)⟩⟩⟩
        · intro x hx
          rw [hr.2.2 x]
          exact ⟨And.right, fun h => ⟨hx, h⟩⟩
        · rw [decide_eq_false_iff_not, hr.2.2 b]
          exact fun h => h.1 rfl
theorem i_vc_clear {k : Nat} {u : SX} {v : SY} (I : i_Rel k u v) (hk : k + 4 ≤ 2048) (v1 : Int32) : wpX_clear (fun r u' => wpY_clear (fun r' v' => r' = r ∧ i_Rel (k + 4) u' v') v v1) u v1 := by
  obtain ⟨c, z⟩ := u
  obtain ⟨a, q, lf⟩ := v
  have I' : i_Rel (k + 4) (c, z) (a, q, lf) := I
  obtain ⟨L, H, hS, HY⟩ := I
  dsimp only at H HY
  unfold wpX_clear
  dsimp only
  rcases kd_cas 4 (by decide) v1 with h1 | ⟨e, he, rfl⟩
  · refine xm_isE_f h1 ?_
    refine br_t rfl ?_
    refine ⟨1, br_f (by decide) ?_⟩
    refine ym_ex_f h1 ?_
    refine br_t rfl ?_
    refine ym_ex_f h1 ?_
    exact ⟨kd_nrw false, rfl, I'⟩
  · refine xm_isE_t he ?_
    refine br_f (by decide) ?_
    rw [nI_clamp (n := e) (by omega)]
    refine ⟨vp_in_nI (N := 6) (by omega) (by omega), nm_e ?_⟩
    refine ⟨129, yl_clear (a0 := a) he 128 0 129 a rfl (by omega) (fun x hx => by omega) (fun _ _ => rfl) fun a' h1 h2 => ⟨rfl, ?_⟩⟩
    refine kd_rel (kd_XEI (kd_X_clr H)) (kd_SU hS ⟨List.Pairwise.nil, by simp⟩) ?_
    intro j hj x hx
    by_cases h : j = e
    · subst h
      rw [kd_Us, h1 x hx]
      rfl
    · rw [kd_Un h, h2 _ (by omega)]
      exact HY j hj x hx
theorem i_vc_size {k : Nat} {u : SX} {v : SY} (I : i_Rel k u v) (hk : k + 4 ≤ 2048) (v1 : Int32) : wpX_size (fun r => wpY_size (fun r' => r' = r ∧ i_Rel (k + 4) u v) v v1) u v1 := by
  obtain ⟨c, z⟩ := u
  obtain ⟨a, q, lf⟩ := v
  have I' : i_Rel (k + 4) (c, z) (a, q, lf) := I
  obtain ⟨L, H, hS, HY⟩ := I
  dsimp only at H HY
  unfold wpX_size wpY_size
  dsimp only
  rcases kd_cas 4 (by decide) v1 with h1 | ⟨e, he, rfl⟩
  · refine xm_isE_f h1 ?_
    refine br_t rfl ?_
    refine ym_ex_f h1 ?_
    exact br_t rfl ⟨rfl, I'⟩
  · refine xm_isE_t he ?_
    refine br_f (by decide) ?_
    refine ⟨vp_in_nI (N := 6) (by omega) (by omega), ?_⟩
    rw [kd_zs H (by omega)]
    refine ym_ex_t he ?_
    refine br_f (by decide) ?_
    exact ym_many he (HY e he) (hS e he) ⟨rfl, I'⟩
theorem i_vc_cube {k : Nat} {u : SX} {v : SY} (I : i_Rel k u v) (hk : k + 4 ≤ 2048) (v1 : Int32) (v2 : Int32) : wpX_cube (fun r => wpY_cube (fun r' => r' = r ∧ i_Rel (k + 4) u v) v v1 v2) u v1 v2 := by
  obtain ⟨c, z⟩ := u
  obtain ⟨a, q, lf⟩ := v
  have I' : i_Rel (k + 4) (c, z) (a, q, lf) := I
  obtain ⟨L, H, hS, HY⟩ := I
  dsimp only at H HY
  unfold wpX_cube
  dsimp only
  rcases kd_cas 4 (by decide) v1 with h1 | ⟨e, he, rfl⟩
  · refine xm_isE_f h1 ?_
    refine br_t rfl ?_
    refine ⟨1, br_f (by decide) ?_⟩
    refine ym_ex_f h1 ?_
    exact br_t rfl ⟨rfl, I'⟩
  · refine xm_isE_t he ?_
    refine br_f (by decide) ?_
    obtain ⟨g1, g2, g3, g4⟩ := H e (by omega)
    have Y : ∀ r : Int32, kd_cb v2 (L e) 0 = r → wpY_cube (fun r' => r' = r ∧ i_Rel (k + 4) (c, z) (a, q, lf)) (a, q, lf) (nI e) v2 := by
      intro r hr
      refine ⟨129, yl_cube he (HY e he) 128 0 129 0 rfl (by omega) ?_⟩
      rw [kd_sv (hS e he).1 (hS e he).2]
      exact ⟨hr, I'⟩
    by_cases hn : v2 < 0
    · exact br_t hn (Y _ (kd_cb_neg hn _ _ (by omega)))
    · refine br_f hn ?_
      obtain ⟨j, hj, rfl⟩ := nI_of hn
      refine ⟨vp_in_nI (N := 6) (by omega) (by omega), ?_⟩
      rw [kd_zs H (by omega), nI_ltI hj (by omega)]
      by_cases hl : j < (L e).length
      · rw [kd_ix, nI_clamp (n := 8 * e + j) (by omega), kd_At_get (L e) (8 * e) j g4 hl]
        refine br_t hl ⟨vp_in_nI (by omega) (by omega), Y _ ?_⟩
        rw [kd_cb_pos hj _ _ (by omega), dif_pos ⟨by omega, hl⟩]
        rfl
      · refine br_f hl (Y _ ?_)
        rw [kd_cb_pos hj _ _ (by omega), dif_neg]
        exact fun h => hl h.2
