/-- e's list becomes l, by way of a work slot -/
theorem kd_XE_U2 {L : Nat → List Nat} {c z : Nat → Int32} {s e : Nat} {l l' : List Nat} (hs : 4 ≤ s) (H : kd_X (kd_U (kd_U L s l') e l) c z) : kd_XE (kd_U L e l) c z := by
  refine ⟨_, fun j hj => ?_, H⟩
  by_cases h : j = e
  · rw [h, kd_Us, kd_Us]
  · rw [kd_Un h, kd_Un h, kd_Un (by omega)]
theorem kd_XE_U3 {L : Nat → List Nat} {c z : Nat → Int32} {s t e : Nat} {l l' l2 : List Nat} (hs : 4 ≤ s) (ht : 4 ≤ t) (H : kd_X (kd_U (kd_U (kd_U L s l') t l2) e l) c z) : kd_XE (kd_U L e l) c z := by
  refine ⟨_, fun j hj => ?_, H⟩
  by_cases h : j = e
  · rw [h, kd_Us, kd_Us]
  · rw [kd_Un h, kd_Un h, kd_Un (by omega), kd_Un (by omega)]
theorem i_vc_divideBy {k : Nat} {u : SX} {v : SY} (I : i_Rel k u v) (hk : k + 4 ≤ 2048) (v1 : Int32) (v2 : Int32) (v3 : Int32) : wpX_divideBy (fun r u' => wpY_divideBy (fun r' v' => r' = r ∧ i_Rel (k + 4) u' v') v v1 v2 v3) u v1 v2 v3 := by
  obtain ⟨c, z⟩ := u
  obtain ⟨a, q, lf⟩ := v
  have I' : i_Rel (k + 4) (c, z) (a, q, lf) := I
  obtain ⟨L, H, hS, HY⟩ := I
  dsimp only at H HY
  unfold wpX_divideBy wpY_divideBy
  dsimp only
  rcases kd_cas 4 (by decide) v1 with h1 | ⟨e, he, rfl⟩
  · refine xm_isE_f h1 ?_
    refine br_t rfl ?_
    refine ym_ex_f h1 ?_
    exact br_t rfl ⟨rfl, I'⟩
  · refine xm_isE_t he ?_
    refine br_f (by decide) ?_
    rcases kd_cas 4 (by decide) v2 with h2 | ⟨f, hf, rfl⟩
    · refine xm_isE_f h2 ?_
      refine br_t rfl ?_
      refine ym_ex_t he ?_
      refine br_f (by decide) ?_
      refine ym_ex_f h2 ?_
      exact br_t rfl ⟨rfl, I'⟩
    · refine xm_isE_t hf ?_
      refine br_f (by decide) ?_
      rcases kd_cas 128 (by decide) v3 with h3 | ⟨b, hb, rfl⟩
      · refine xm_isC_f h3 ?_
        refine br_t rfl ?_
        refine ym_ex_t he ?_
        refine br_f (by decide) ?_
        refine ym_ex_t hf ?_
        refine br_f (by decide) ?_
        refine ym_cu_f h3 ?_
        exact br_t rfl ⟨rfl, I'⟩
      · refine xm_isC_t hb ?_
        refine br_f (by decide) ?_
        refine xm_mqc (s := 4) H (by omega) (by omega) (by omega) hb fun c1 z1 H1 => ?_
        refine xm_copy (f := 4) H1 (by omega) (by omega) (by omega) fun c2 z2 H2 => ?_
        rw [kd_Us] at H2
        refine ⟨vp_in_nI (N := 6) (by omega) (by omega), ?_⟩
        dsimp only
        rw [kd_zs H2 (by omega), kd_Us]
        refine ym_ex_t he ?_
        refine br_f (by decide) ?_
        refine ym_ex_t hf ?_
        refine br_f (by decide) ?_
        refine ym_cu_t hb ?_
        refine br_f (by decide) ?_
        exact ⟨129, yl_divBy he hf hb HY (hS f hf) 128 0 129 q rfl (by omega) (fun x hx => by omega) fun a' q' HY' => ⟨rfl, kd_rel (kd_XE_U2 (by omega) H2) (kd_SU hS ⟨kd_q_S hb (hS f hf).1 (hS f hf).2, kd_q_128 hb (hS f hf).2⟩) HY'⟩⟩
theorem i_vc_divide {k : Nat} {u : SX} {v : SY} (I : i_Rel k u v) (hk : k + 4 ≤ 2048) (v1 : Int32) (v2 : Int32) (v3 : Int32) : wpX_divide (fun r u' => wpY_divide (fun r' v' => r' = r ∧ i_Rel (k + 4) u' v') v v1 v2 v3) u v1 v2 v3 := by
  obtain ⟨c, z⟩ := u
  obtain ⟨a, q, lf⟩ := v
  have I' : i_Rel (k + 4) (c, z) (a, q, lf) := I
  obtain ⟨L, H, hS, HY⟩ := I
  dsimp only at H HY
  unfold wpX_divide wpY_divide
  dsimp only
  rcases kd_cas 4 (by decide) v1 with h1 | ⟨e, he, rfl⟩
  · refine xm_isE_f h1 ?_
    refine br_t rfl ?_
    refine ym_ex_f h1 ?_
    exact br_t rfl ⟨rfl, I'⟩
  · refine xm_isE_t he ?_
    refine br_f (by decide) ?_
    have B : (kd_bad 4 v2 ∨ kd_bad 4 v3) ∨ ∃ f g, f < 4 ∧ g < 4 ∧ v2 = nI f ∧ v3 = nI g := by
      rcases kd_cas 4 (by decide) v2 with h2 | ⟨f, hf, e2⟩
      · exact Or.inl (Or.inl h2)
      · rcases kd_cas 4 (by decide) v3 with h3 | ⟨g, hg, e3⟩
        · exact Or.inl (Or.inr h3)
        · exact Or.inr ⟨f, g, hf, hg, e2, e3⟩
    rcases B with hB | ⟨f, g, hf, hg, rfl, rfl⟩
    · refine xm_canDivide_f hB ?_
      refine br_t rfl ?_
      refine ym_ex_t he ?_
      refine br_f (by decide) ?_
      refine ym_div_f hB ?_
      exact br_t rfl ⟨rfl, I'⟩
    · have g8 := (H g (by omega)).2.1
      refine xm_canDivide H hf hg ?_
      by_cases hz : L g = []
      · have ez : decide (L g ≠ []) = false := by simp [hz]
        rw [ez]
        refine br_t rfl ?_
        refine ym_ex_t he ?_
        refine br_f (by decide) ?_
        refine ym_div hf hg HY (hS g hg) g8 ?_
        rw [ez]
        exact br_t rfl ⟨rfl, I'⟩
      · have ez : decide (L g ≠ []) = true := by simp [hz]
        rw [ez]
        obtain ⟨d, tg, hd⟩ : ∃ d tg, L g = d :: tg := List.exists_cons_of_ne_nil hz
        have hd8 : d < 128 := (hS g hg).2 d (by rw [hd]; simp)
        refine br_f (by decide) ?_
        refine xm_mq (s := 4) H (by omega) (by omega) (by omega) (by omega) (by omega) hd fun c1 z1 H1 => ?_
        refine xm_copy (f := 4) H1 (by omega) (by omega) (by omega) fun c2 z2 H2 => ?_
        rw [kd_Us] at H2
        refine ⟨vp_in_nI (N := 6) (by omega) (by omega), ?_⟩
        dsimp only
        rw [kd_zs H2 (by omega), kd_Us]
        refine ym_ex_t he ?_
        refine br_f (by decide) ?_
        refine ym_div hf hg HY (hS g hg) g8 ?_
        rw [ez]
        refine br_f (by decide) ?_
        refine ym_work hf hg HY (hS f hf) (hS g hg) hd fun q' l' hq' hl' => ?_
        refine ym_store (r := false) he HY hq' fun a' HY' => ?_
        have Hl := HY' e he
        rw [kd_Us] at Hl
        refine ym_many he Hl (kd_Q_S hd8 (hS f hf)) ?_
        exact ⟨rfl, kd_rel (kd_XE_U2 (by omega) H2) (kd_SU hS (kd_Q_S hd8 (hS f hf))) HY'⟩
theorem i_vc_rest {k : Nat} {u : SX} {v : SY} (I : i_Rel k u v) (hk : k + 4 ≤ 2048) (v1 : Int32) (v2 : Int32) (v3 : Int32) : wpX_rest (fun r u' => wpY_rest (fun r' v' => r' = r ∧ i_Rel (k + 4) u' v') v v1 v2 v3) u v1 v2 v3 := by
  obtain ⟨c, z⟩ := u
  obtain ⟨a, q, lf⟩ := v
  have I' : i_Rel (k + 4) (c, z) (a, q, lf) := I
  obtain ⟨L, H, hS, HY⟩ := I
  dsimp only at H HY
  unfold wpX_rest wpY_rest
  dsimp only
  rcases kd_cas 4 (by decide) v1 with h1 | ⟨e, he, rfl⟩
  · refine xm_isE_f h1 ?_
    refine br_t rfl ?_
    refine ym_ex_f h1 ?_
    exact br_t rfl ⟨rfl, I'⟩
  · refine xm_isE_t he ?_
    refine br_f (by decide) ?_
    have B : (kd_bad 4 v2 ∨ kd_bad 4 v3) ∨ ∃ f g, f < 4 ∧ g < 4 ∧ v2 = nI f ∧ v3 = nI g := by
      rcases kd_cas 4 (by decide) v2 with h2 | ⟨f, hf, e2⟩
      · exact Or.inl (Or.inl h2)
      · rcases kd_cas 4 (by decide) v3 with h3 | ⟨g, hg, e3⟩
        · exact Or.inl (Or.inr h3)
        · exact Or.inr ⟨f, g, hf, hg, e2, e3⟩
    rcases B with hB | ⟨f, g, hf, hg, rfl, rfl⟩
    · refine xm_canDivide_f hB ?_
      refine br_t rfl ?_
      refine ym_ex_t he ?_
      refine br_f (by decide) ?_
      refine ym_div_f hB ?_
      exact br_t rfl ⟨rfl, I'⟩
    · have g8 := (H g (by omega)).2.1
      refine xm_canDivide H hf hg ?_
      by_cases hz : L g = []
      · have ez : decide (L g ≠ []) = false := by simp [hz]
        rw [ez]
        refine br_t rfl ?_
        refine ym_ex_t he ?_
        refine br_f (by decide) ?_
        refine ym_div hf hg HY (hS g hg) g8 ?_
        rw [ez]
        exact br_t rfl ⟨rfl, I'⟩
      · have ez : decide (L g ≠ []) = true := by simp [hz]
        rw [ez]
        obtain ⟨d, tg, hd⟩ : ∃ d tg, L g = d :: tg := List.exists_cons_of_ne_nil hz
        refine br_f (by decide) ?_
        refine xm_mq (s := 4) H (by omega) (by omega) (by omega) (by omega) (by omega) hd fun c1 z1 H1 => ?_
        refine xm_mr (s := 5) (q := 4) H1 (by omega) (by omega) (by omega) (by omega) (by omega) (by omega) (by omega) fun c2 z2 H2 => ?_
        rw [kd_Us, kd_Un (j := f) (by omega), kd_Un (j := g) (by omega)] at H2
        refine xm_copy (f := 5) H2 (by omega) (by omega) (by omega) fun c3 z3 H3 => ?_
        rw [kd_Us] at H3
        refine ⟨vp_in_nI (N := 6) (by omega) (by omega), ?_⟩
        dsimp only
        rw [kd_zs H3 (by omega), kd_Us]
        refine ym_ex_t he ?_
        refine br_f (by decide) ?_
        refine ym_div hf hg HY (hS g hg) g8 ?_
        rw [ez]
        refine br_f (by decide) ?_
        refine ym_work hf hg HY (hS f hf) (hS g hg) hd fun q' l' hq' hl' => ?_
        refine ym_store (r := true) he HY hl' fun a' HY' => ?_
        have Hl := HY' e he
        rw [kd_Us] at Hl
        refine ym_many he Hl (kd_R_S (hS f hf)) ?_
        exact ⟨rfl, kd_rel (kd_XE_U3 (by omega) (by omega) H3) (kd_SU hS (kd_R_S (hS f hf))) HY'⟩
theorem i_vc_common {k : Nat} {u : SX} {v : SY} (I : i_Rel k u v) (hk : k + 4 ≤ 2048) (v1 : Int32) : wpX_common (fun r => wpY_common (fun r' => r' = r ∧ i_Rel (k + 4) u v) v v1) u v1 := by
  obtain ⟨c, z⟩ := u
  obtain ⟨a, q, lf⟩ := v
  have I' : i_Rel (k + 4) (c, z) (a, q, lf) := I
  obtain ⟨L, H, hS, HY⟩ := I
  dsimp only at H HY
  unfold wpX_common wpY_common
  dsimp only
  rcases kd_cas 4 (by decide) v1 with h1 | ⟨e, he, rfl⟩
  · refine xm_isE_f h1 ?_
    refine br_t rfl ?_
    refine ym_ex_f h1 ?_
    exact br_t rfl ⟨rfl, I'⟩
  · refine xm_isE_t he ?_
    refine br_f (by decide) ?_
    have h8 := (H e (by omega)).2.1
    refine ⟨vp_in_nI (N := 6) (by omega) (by omega), ?_⟩
    rw [kd_zs H (by omega)]
    by_cases hz : (L e).length = 0
    · have hz' : nI (L e).length = 0 := by rw [hz]; rfl
      refine br_t hz' ?_
      refine ym_ex_t he ?_
      refine br_f (by decide) ?_
      refine ym_many he (HY e he) (hS e he) ?_
      exact br_t hz' ⟨rfl, I'⟩
    · have hz' : ¬ nI (L e).length = 0 := nI_ne0 (by omega) (by omega)
      refine br_f hz' ?_
      refine xm_letters H (by omega) ?_
      refine ym_ex_t he ?_
      refine br_f (by decide) ?_
      refine ym_many he (HY e he) (hS e he) ?_
      refine br_f hz' ⟨129, yl_common he (HY e he) 128 0 129 127 rfl (by omega) ?_⟩
      rw [kd_sv (hS e he).1 (hS e he).2]
      exact ⟨rfl, I'⟩
theorem i_vc_free {k : Nat} {u : SX} {v : SY} (I : i_Rel k u v) (hk : k + 4 ≤ 2048) (v1 : Int32) : wpX_free (fun r => wpY_free (fun r' => r' = r ∧ i_Rel (k + 4) u v) v v1) u v1 := by
  obtain ⟨c, z⟩ := u
  obtain ⟨a, q, lf⟩ := v
  have I' : i_Rel (k + 4) (c, z) (a, q, lf) := I
  obtain ⟨L, H, hS, HY⟩ := I
  dsimp only at H HY
  unfold wpX_free wpY_free
  dsimp only
  rcases kd_cas 4 (by decide) v1 with h1 | ⟨e, he, rfl⟩
  · refine xm_isE_f h1 ?_
    refine br_t rfl ?_
    refine ym_ex_f h1 ?_
    exact br_t rfl ⟨rfl, I'⟩
  · refine xm_isE_t he ?_
    refine br_f (by decide) ?_
    refine xm_isFree H (by omega) ?_
    refine kd_bb (fun h => ?_) (fun h => ?_)
    · refine ym_ex_t he ?_
      refine br_f (by decide) ?_
      refine ym_free (c := 0) he (by omega) (HY e he) (hS e he) ?_
      rw [kd_q0, h]
      exact br_t rfl ⟨rfl, I'⟩
    · refine ym_ex_t he ?_
      refine br_f (by decide) ?_
      refine ym_free (c := 0) he (by omega) (HY e he) (hS e he) ?_
      rw [kd_q0, h]
      exact br_f (by decide) ⟨rfl, I'⟩
theorem i_vc_kernels {k : Nat} {u : SX} {v : SY} (I : i_Rel k u v) (hk : k + 4 ≤ 2048) (v1 : Int32) : wpX_kernels (fun r u' => wpY_kernels (fun r' => r' = r ∧ i_Rel (k + 4) u' v) v v1) u v1 := by
  obtain ⟨c, z⟩ := u
  obtain ⟨a, q, lf⟩ := v
  have I' : i_Rel (k + 4) (c, z) (a, q, lf) := I
  obtain ⟨L, H, hS, HY⟩ := I
  dsimp only at H HY
  unfold wpX_kernels
  dsimp only
  rcases kd_cas 4 (by decide) v1 with h1 | ⟨e, he, rfl⟩
  · refine xm_isE_f h1 ?_
    refine br_t rfl ?_
    refine ⟨1, br_f (by decide) ?_⟩
    refine ym_ex_f h1 ?_
    refine br_t rfl ?_
    refine ym_ex_f h1 ?_
    exact br_t rfl ⟨rfl, I'⟩
  · refine xm_isE_t he ?_
    refine br_f (by decide) ?_
    exact ⟨129, xl_ker he 128 0 129 0 c z rfl (by omega) (kd_XEI H) fun c' z' H' => ⟨129, yl_ker he (HY e he) (hS e he) 128 0 129 0 rfl (by omega) ⟨rfl, kd_rel H' hS HY⟩⟩⟩
theorem i_vc_cokernels {k : Nat} {u : SX} {v : SY} (I : i_Rel k u v) (hk : k + 4 ≤ 2048) (v1 : Int32) : wpX_cokernels (fun r u' => wpY_cokernels (fun r' => r' = r ∧ i_Rel (k + 4) u' v) v v1) u v1 := by
  obtain ⟨c, z⟩ := u
  obtain ⟨a, q, lf⟩ := v
  have I' : i_Rel (k + 4) (c, z) (a, q, lf) := I
  obtain ⟨L, H, hS, HY⟩ := I
  dsimp only at H HY
  unfold wpX_cokernels
  dsimp only
  rcases kd_cas 4 (by decide) v1 with h1 | ⟨e, he, rfl⟩
  · refine xm_isE_f h1 ?_
    refine br_t rfl ?_
    refine ⟨1, br_f (by decide) ?_⟩
    refine ym_ex_f h1 ?_
    refine br_t rfl ?_
    refine ym_ex_f h1 ?_
    exact br_t rfl ⟨rfl, I'⟩
  · refine xm_isE_t he ?_
    refine br_f (by decide) ?_
    exact ⟨129, xl_cok he 128 0 129 0 c z rfl (by omega) (kd_XEI H) fun c' z' H' => ⟨129, yl_cok he (HY e he) (hS e he) 128 0 129 0 rfl (by omega) ⟨rfl, kd_rel H' hS HY⟩⟩⟩
theorem i_vc_nextCokernel {k : Nat} {u : SX} {v : SY} (I : i_Rel k u v) (hk : k + 4 ≤ 2048) (v1 : Int32) (v2 : Int32) : wpX_nextCokernel (fun r u' => wpY_nextCokernel (fun r' => r' = r ∧ i_Rel (k + 4) u' v) v v1 v2) u v1 v2 := by
  obtain ⟨c, z⟩ := u
  obtain ⟨a, q, lf⟩ := v
  have I' : i_Rel (k + 4) (c, z) (a, q, lf) := I
  obtain ⟨L, H, hS, HY⟩ := I
  dsimp only at H HY
  unfold wpX_nextCokernel
  dsimp only
  rcases kd_cas 4 (by decide) v1 with h1 | ⟨e, he, rfl⟩
  · refine xm_isE_f h1 ?_
    refine br_t rfl ?_
    refine ⟨1, br_f (by decide) ?_⟩
    refine ym_ex_f h1 ?_
    exact br_t rfl ⟨rfl, I'⟩
  · refine xm_isE_t he ?_
    refine br_f (by decide) ?_
    by_cases hn : v2 < 0
    · refine br_f (Int32.not_le.mpr hn) ?_
      refine ⟨129, xl_next he 128 0 129 c z (Or.inl rfl) (by omega) (kd_XEI H) fun c' z' H' => ⟨129, yl_next he (HY e he) (hS e he) 128 0 129 rfl (by omega) (fun y _ hy hlt => ?_) ⟨rfl, kd_rel H' hS HY⟩⟩⟩
      exact nI_pos (n := y) (by omega) (Int32.lt_trans hlt hn)
    · refine br_t (Int32.not_lt.mp hn) ?_
      obtain ⟨j, hj, rfl⟩ := nI_of hn
      refine ⟨129, xl_next he (128 - j) j 129 c z (by omega) (by omega) (kd_XEI H) fun c' z' H' => ⟨129, yl_skip he (HY e he) (hS e he) hj 128 0 129 rfl (by omega) ?_⟩⟩
      rw [show max 0 j = j by omega]
      exact ⟨rfl, kd_rel H' hS HY⟩
theorem i_vc_holding {k : Nat} {u : SX} {v : SY} (I : i_Rel k u v) (hk : k + 4 ≤ 2048) (v1 : Int32) (v2 : Int32) : wpX_holding (fun r => wpY_holding (fun r' => r' = r ∧ i_Rel (k + 4) u v) v v1 v2) u v1 v2 := by
  obtain ⟨c, z⟩ := u
  obtain ⟨a, q, lf⟩ := v
  have I' : i_Rel (k + 4) (c, z) (a, q, lf) := I
  obtain ⟨L, H, hS, HY⟩ := I
  dsimp only at H HY
  unfold wpX_holding wpY_holding
  dsimp only
  rcases kd_cas 4 (by decide) v1 with h1 | ⟨e, he, rfl⟩
  · refine xm_isE_f h1 ?_
    refine br_t rfl ?_
    refine ym_ex_f h1 ?_
    exact br_t rfl ⟨rfl, I'⟩
  · refine xm_isE_t he ?_
    refine br_f (by decide) ?_
    rcases kd_cas 128 (by decide) v2 with h2 | ⟨b, hb, rfl⟩
    · refine xm_isC_f h2 ?_
      refine br_t rfl ?_
      refine ym_ex_t he ?_
      refine br_f (by decide) ?_
      refine ym_cu_f h2 ?_
      exact br_t rfl ⟨rfl, I'⟩
    · refine xm_isC_t hb ?_
      refine br_f (by decide) ?_
      obtain ⟨g1, g2, g3, g4⟩ := H e (by omega)
      refine ⟨vp_in_nI (N := 6) (by omega) (by omega), nm_r (kd_zs H (by omega)) ⟨(L e).length + 1, ?_⟩⟩
      refine xl_hold (s := e) (by omega) g2 hb (L e) 0 0 _ (by omega) g3 g4 (by omega) ?_
      refine ym_ex_t he ?_
      refine br_f (by decide) ?_
      refine ym_cu_t hb ?_
      refine br_f (by decide) ?_
      refine ⟨129, yl_hold he hb (HY e he) 128 0 129 0 0 rfl (by omega) ?_⟩
      rw [kd_sv (hS e he).1 (hS e he).2]
      exact ⟨rfl, I'⟩
theorem kd_sm_l {l : List Nat} (h : kd_S l) : kd_sm (fun x => decide (x ∈ l)) (List.range' 0 128) = kd_clv l 0 := by
  rw [kd_sm, kd_sv h.1 h.2]
theorem i_vc_saving {k : Nat} {u : SX} {v : SY} (I : i_Rel k u v) (hk : k + 4 ≤ 2048) (v1 : Int32) (v2 : Int32) : wpX_saving (fun r u' => wpY_saving (fun r' v' => r' = r ∧ i_Rel (k + 4) u' v') v v1 v2) u v1 v2 := by
  obtain ⟨c, z⟩ := u
  obtain ⟨a, q, lf⟩ := v
  have I' : i_Rel (k + 4) (c, z) (a, q, lf) := I
  obtain ⟨L, H, hS, HY⟩ := I
  dsimp only at H HY
  unfold wpX_saving wpY_saving
  dsimp only
  have B : (kd_bad 4 v1 ∨ kd_bad 4 v2) ∨ ∃ f g, f < 4 ∧ g < 4 ∧ v1 = nI f ∧ v2 = nI g := by
    rcases kd_cas 4 (by decide) v1 with h2 | ⟨f, hf, e2⟩
    · exact Or.inl (Or.inl h2)
    · rcases kd_cas 4 (by decide) v2 with h3 | ⟨g, hg, e3⟩
      · exact Or.inl (Or.inr h3)
      · exact Or.inr ⟨f, g, hf, hg, e2, e3⟩
  rcases B with hB | ⟨f, g, hf, hg, rfl, rfl⟩
  · refine xm_canDivide_f hB ?_
    refine br_t rfl ?_
    refine ym_div_f hB ?_
    exact br_t rfl ⟨rfl, I'⟩
  · have g8 := (H g (by omega)).2.1
    refine xm_canDivide H hf hg ?_
    by_cases hz : L g = []
    · have ez : decide (L g ≠ []) = false := by simp [hz]
      rw [ez]
      refine br_t rfl ?_
      refine ym_div hf hg HY (hS g hg) g8 ?_
      rw [ez]
      exact br_t rfl ⟨rfl, I'⟩
    · have ez : decide (L g ≠ []) = true := by simp [hz]
      rw [ez]
      obtain ⟨d, tg, hd⟩ : ∃ d tg, L g = d :: tg := List.exists_cons_of_ne_nil hz
      have hd8 : d < 128 := (hS g hg).2 d (by rw [hd]; simp)
      refine br_f (by decide) ?_
      refine xm_mq (s := 4) H (by omega) (by omega) (by omega) (by omega) (by omega) hd fun c1 z1 H1 => ?_
      refine xm_mr (s := 5) (q := 4) H1 (by omega) (by omega) (by omega) (by omega) (by omega) (by omega) (by omega) fun c2 z2 H2 => ?_
      rw [kd_Us, kd_Un (j := f) (by omega), kd_Un (j := g) (by omega)] at H2
      refine xm_let H2 (by omega) ?_
      refine xm_let (s := 4) H2 (by omega) ?_
      refine xm_let (s := 5) H2 (by omega) ?_
      refine xm_let H2 (by omega) ?_
      rw [kd_Us, kd_Un (j := f) (by omega), kd_Un (j := g) (by omega), kd_Un (j := 4) (by omega), kd_Us, kd_Un (j := f) (by omega), kd_Un (j := g) (by omega)]
      refine ym_div hf hg HY (hS g hg) g8 ?_
      rw [ez]
      refine br_f (by decide) ?_
      refine ym_work hf hg HY (hS f hf) (hS g hg) hd fun q' l' hq' hl' => ?_
      refine ⟨129, yl_sav hf hg (HY f hf) hq' hl' (HY g hg) 128 0 129 0 rfl (by omega) ?_⟩
      rw [kd_sm_l (hS f hf), kd_sm_l (hS g hg), kd_sm_l (kd_Q_S hd8 (hS f hf)), kd_sm_l (kd_R_S (hS f hf)), Int32.zero_add]
      refine ⟨rfl, kd_rel (E := L) ⟨_, fun j hj => ?_, H2⟩ hS HY⟩
      rw [kd_Un (by omega), kd_Un (by omega)]
