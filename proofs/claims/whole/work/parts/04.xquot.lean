theorem xl_mqc {post : SX → Prop} {L : Nat → List Nat} {s f b : Nat} (hs : s < 6) (hf : f < 6) (hne : f ≠ s) (hb : b < 128) : ∀ (t p acc : List Nat) (i n : Nat) (cc z : Nat → Int32), L f = p ++ t → p.length = i → acc.length ≤ i → kd_X (kd_U L s acc) cc z → t.length < n → (∀ c' z', kd_X (kd_U L s (acc ++ kd_q b t)) c' z' → post (c', z')) → wX_makeQuotientByCube_18 post (nI s) (nI f) (nI b) (nI (L f).length) n (nI i) cc z := by
  intro t
  induction t with
  | nil =>
    intro p acc i n cc z hL hi hac H hn hp
    obtain ⟨n, rfl⟩ : ∃ m, n = m + 1 := ⟨n - 1, by omega⟩
    obtain ⟨h1, h2, h3, h4⟩ := H f hf
    rw [kd_Un hne] at h1 h2 h3 h4
    rw [List.append_nil] at hL
    have hlen := congrArg List.length hL
    refine br_t (nI_le (by omega) (by omega)) (hp _ _ ?_)
    rw [kd_q_nil, List.append_nil]
    exact H
  | cons a t ih =>
    intro p acc i n cc z hL hi hac H hn hp
    obtain ⟨n, rfl⟩ : ∃ m, n = m + 1 := ⟨n - 1, by omega⟩
    obtain ⟨h1, h2, h3, h4⟩ := H f hf
    rw [kd_Un hne] at h1 h2 h3 h4
    have hlen := congrArg List.length hL
    rw [List.length_append, List.length_cons] at hlen
    rw [List.length_cons] at hn
    have hat := h4
    rw [hL, kd_At_app, hi] at hat
    have h8a : a < 128 := h3 a (by rw [hL]; simp)
    have hL' : L f = (p ++ [a]) ++ t := by rw [hL, List.append_assoc]; rfl
    have hi' : (p ++ [a]).length = i + 1 := by rw [List.length_append, hi]; rfl
    refine br_f (nI_ge (by omega) (by omega)) ?_
    rw [kd_ix, nI_clamp (n := 8 * f + i) (by omega), hat.2.1]
    refine ⟨vp_in_nI (by omega) (by omega), nm_e ?_⟩
    refine xm_holds h8a hb ?_
    refine kd_bb (fun e => ?_) (fun e => ?_)
    · rw [decide_eq_false_iff_not] at e
      rw [kd_q_f e] at hp
      exact nm_r (nI_1 i) (ih (p ++ [a]) acc (i + 1) n cc z hL' hi' (by omega) H (by omega) hp)
    · rw [decide_eq_true_eq] at e
      rw [kd_q_t e] at hp
      rw [kd_out e]
      refine xm_append H hs (by rw [kd_Us]; omega) (kd_x128 h8a hb) fun c' z' H' => ?_
      rw [kd_Us, kd_UU] at H'
      refine nm_r (nI_1 i) (ih (p ++ [a]) (acc ++ [a ^^^ b]) (i + 1) n c' z' hL' hi' ?_ H' (by omega) ?_)
      · rw [List.length_append, List.length_singleton]
        omega
      · rw [List.append_assoc]
        exact hp
theorem xm_mqc {post : SX → Prop} {L : Nat → List Nat} {c z : Nat → Int32} {s f b : Nat} (H : kd_X L c z) (hs : s < 6) (hf : f < 6) (hne : f ≠ s) (hb : b < 128) (hp : ∀ c' z', kd_X (kd_U L s (kd_q b (L f))) c' z' → post (c', z')) : wpX_makeQuotientByCube post (c, z) (nI s) (nI f) (nI b) := by
  refine ⟨vp_in_nI hf (by omega), nm_r (kd_zs H hf) ⟨vp_in_nI hs (by omega), ?_⟩⟩
  rw [nI_clamp (n := s) (by omega)]
  exact nm_e ⟨(L f).length + 1, xl_mqc hs hf hne hb (L f) [] [] 0 _ c _ rfl rfl (Nat.le_refl _) (kd_X_clr H) (by omega) hp⟩
/-- the quotient by an expression whose first cube is d, as a list -/
def kd_Q (d : Nat) (g : List Nat) (f t : List Nat) : List Nat := (t.filter fun w => decide (w &&& d = d) && kd_inq (w ^^^ d) f g).map fun w => w ^^^ d
theorem xl_mq {post : SX → Prop} {L : Nat → List Nat} {s f g d : Nat} (hs : s < 6) (hf : f < 6) (hg : g < 6) (hne : f ≠ s) (hng : g ≠ s) (hd : d < 128) : ∀ (t p acc : List Nat) (i n : Nat) (cc z : Nat → Int32), L f = p ++ t → p.length = i → acc.length ≤ i → kd_X (kd_U L s acc) cc z → t.length < n → (∀ c' z', kd_X (kd_U L s (acc ++ kd_Q d (L g) (L f) t)) c' z' → post (c', z')) → wX_makeQuotient_29 post (nI s) (nI f) (nI g) (nI (L f).length) (nI d) n (nI i) cc z := by
  intro t
  induction t with
  | nil =>
    intro p acc i n cc z hL hi hac H hn hp
    obtain ⟨n, rfl⟩ : ∃ m, n = m + 1 := ⟨n - 1, by omega⟩
    obtain ⟨h1, h2, h3, h4⟩ := H f hf
    rw [kd_Un hne] at h1 h2 h3 h4
    rw [List.append_nil] at hL
    have hlen := congrArg List.length hL
    refine br_t (nI_le (by omega) (by omega)) (hp _ _ ?_)
    rw [show kd_Q d (L g) (L f) [] = [] from rfl, List.append_nil]
    exact H
  | cons a t ih =>
    intro p acc i n cc z hL hi hac H hn hp
    obtain ⟨n, rfl⟩ : ∃ m, n = m + 1 := ⟨n - 1, by omega⟩
    obtain ⟨h1, h2, h3, h4⟩ := H f hf
    rw [kd_Un hne] at h1 h2 h3 h4
    have hlen := congrArg List.length hL
    rw [List.length_append, List.length_cons] at hlen
    rw [List.length_cons] at hn
    have hat := h4
    rw [hL, kd_At_app, hi] at hat
    have h8a : a < 128 := h3 a (by rw [hL]; simp)
    have hL' : L f = (p ++ [a]) ++ t := by rw [hL, List.append_assoc]; rfl
    have hi' : (p ++ [a]).length = i + 1 := by rw [List.length_append, hi]; rfl
    have hf_ : (decide (a &&& d = d) && kd_inq (a ^^^ d) (L f) (L g)) = false → kd_Q d (L g) (L f) (a :: t) = kd_Q d (L g) (L f) t := by
      intro e
      rw [kd_Q, List.filter_cons_of_neg (by rw [e]; decide)]
      rfl
    refine br_f (nI_ge (by omega) (by omega)) ?_
    rw [kd_ix, nI_clamp (n := 8 * f + i) (by omega), hat.2.1]
    refine ⟨vp_in_nI (by omega) (by omega), nm_e (nm_e ?_)⟩
    refine xm_holds h8a hd ?_
    refine kd_bb (fun e => ?_) (fun e => ?_)
    · rw [hf_ (by rw [e, Bool.false_and])] at hp
      exact nm_r (nI_1 i) (ih (p ++ [a]) acc (i + 1) n cc z hL' hi' (by omega) H (by omega) hp)
    · have e' := e
      rw [decide_eq_true_eq] at e'
      rw [kd_out e']
      refine xm_inAll H hf hg (kd_x128 h8a hd) ?_
      rw [kd_Un hne, kd_Un hng]
      refine kd_bb (fun e2 => ?_) (fun e2 => ?_)
      · rw [hf_ (by rw [e2, Bool.and_false])] at hp
        exact nm_r (nI_1 i) (ih (p ++ [a]) acc (i + 1) n cc z hL' hi' (by omega) H (by omega) hp)
      · refine xm_append H hs (by rw [kd_Us]; omega) (kd_x128 h8a hd) fun c' z' H' => ?_
        rw [kd_Us, kd_UU] at H'
        refine nm_r (nI_1 i) (ih (p ++ [a]) (acc ++ [a ^^^ d]) (i + 1) n c' z' hL' hi' ?_ H' (by omega) ?_)
        · rw [List.length_append, List.length_singleton]
          omega
        · have hc : kd_Q d (L g) (L f) (a :: t) = (a ^^^ d) :: kd_Q d (L g) (L f) t := by
            rw [kd_Q, List.filter_cons_of_pos (by rw [e, e2]; rfl)]
            rfl
          rw [hc] at hp
          rw [List.append_assoc]
          exact hp
theorem xm_mq {post : SX → Prop} {L : Nat → List Nat} {c z : Nat → Int32} {s f g d : Nat} {tg : List Nat} (H : kd_X L c z) (hs : s < 6) (hf : f < 6) (hg : g < 6) (hne : f ≠ s) (hng : g ≠ s) (hd : L g = d :: tg) (hp : ∀ c' z', kd_X (kd_U L s (kd_Q d (L g) (L f) (L f))) c' z' → post (c', z')) : wpX_makeQuotient post (c, z) (nI s) (nI f) (nI g) := by
  obtain ⟨h1, h2, h3, h4⟩ := H g hg
  have hd8 : d < 128 := h3 d (by rw [hd]; simp)
  rw [hd] at h4
  have hix : nI g * 8 = nI (8 * g) := by
    show nI g * nI 8 = _
    rw [pk_mul, Nat.mul_comm]
  refine ⟨vp_in_nI hf (by omega), nm_r (kd_zs H hf) ?_⟩
  rw [hix, nI_clamp (n := 8 * g) (by omega), nI_clamp (n := s) (by omega), h4.1]
  exact ⟨vp_in_nI (by omega) (by omega), nm_e ⟨vp_in_nI hs (by omega), nm_e ⟨(L f).length + 1, xl_mq hs hf hg hne hng hd8 (L f) [] [] 0 _ c _ rfl rfl (Nat.le_refl _) (kd_X_clr H) (by omega) hp⟩⟩⟩
def kd_R (q g t : List Nat) : List Nat := t.filter fun w => !kd_jn w q g
theorem xl_mr {post : SX → Prop} {L : Nat → List Nat} {s f q g : Nat} (hs : s < 6) (hf : f < 6) (hq : q < 6) (hg : g < 6) (hne : f ≠ s) (hnq : q ≠ s) (hng : g ≠ s) : ∀ (t p acc : List Nat) (i n : Nat) (cc z : Nat → Int32), L f = p ++ t → p.length = i → acc.length ≤ i → kd_X (kd_U L s acc) cc z → t.length < n → (∀ c' z', kd_X (kd_U L s (acc ++ kd_R (L q) (L g) t)) c' z' → post (c', z')) → wX_makeRest_18 post (nI s) (nI f) (nI q) (nI g) (nI (L f).length) n (nI i) cc z := by
  intro t
  induction t with
  | nil =>
    intro p acc i n cc z hL hi hac H hn hp
    obtain ⟨n, rfl⟩ : ∃ m, n = m + 1 := ⟨n - 1, by omega⟩
    obtain ⟨h1, h2, h3, h4⟩ := H f hf
    rw [kd_Un hne] at h1 h2 h3 h4
    rw [List.append_nil] at hL
    have hlen := congrArg List.length hL
    refine br_t (nI_le (by omega) (by omega)) (hp _ _ ?_)
    rw [show kd_R (L q) (L g) [] = [] from rfl, List.append_nil]
    exact H
  | cons a t ih =>
    intro p acc i n cc z hL hi hac H hn hp
    obtain ⟨n, rfl⟩ : ∃ m, n = m + 1 := ⟨n - 1, by omega⟩
    obtain ⟨h1, h2, h3, h4⟩ := H f hf
    rw [kd_Un hne] at h1 h2 h3 h4
    have hlen := congrArg List.length hL
    rw [List.length_append, List.length_cons] at hlen
    rw [List.length_cons] at hn
    have hat := h4
    rw [hL, kd_At_app, hi] at hat
    have h8a : a < 128 := h3 a (by rw [hL]; simp)
    have hL' : L f = (p ++ [a]) ++ t := by rw [hL, List.append_assoc]; rfl
    have hi' : (p ++ [a]).length = i + 1 := by rw [List.length_append, hi]; rfl
    refine br_f (nI_ge (by omega) (by omega)) ?_
    rw [kd_ix, nI_clamp (n := 8 * f + i) (by omega), hat.2.1]
    refine ⟨vp_in_nI (by omega) (by omega), nm_e ?_⟩
    refine xm_isJoin H hq hg h8a ?_
    rw [kd_Un hnq, kd_Un hng]
    refine kd_bb (fun e => ?_) (fun e => ?_)
    · refine xm_append H hs (by rw [kd_Us]; omega) h8a fun c' z' H' => ?_
      rw [kd_Us, kd_UU] at H'
      refine nm_r (nI_1 i) (ih (p ++ [a]) (acc ++ [a]) (i + 1) n c' z' hL' hi' ?_ H' (by omega) ?_)
      · rw [List.length_append, List.length_singleton]
        omega
      · rw [kd_R, List.filter_cons_of_pos (by rw [e]; rfl)] at hp
        rw [List.append_assoc]
        exact hp
    · rw [kd_R, List.filter_cons_of_neg (by rw [e]; decide)] at hp
      exact nm_r (nI_1 i) (ih (p ++ [a]) acc (i + 1) n cc z hL' hi' (by omega) H (by omega) hp)
theorem xm_mr {post : SX → Prop} {L : Nat → List Nat} {c z : Nat → Int32} {s f q g : Nat} (H : kd_X L c z) (hs : s < 6) (hf : f < 6) (hq : q < 6) (hg : g < 6) (hne : f ≠ s) (hnq : q ≠ s) (hng : g ≠ s) (hp : ∀ c' z', kd_X (kd_U L s (kd_R (L q) (L g) (L f))) c' z' → post (c', z')) : wpX_makeRest post (c, z) (nI s) (nI f) (nI q) (nI g) := by
  refine ⟨vp_in_nI hf (by omega), nm_r (kd_zs H hf) ⟨vp_in_nI hs (by omega), ?_⟩⟩
  rw [nI_clamp (n := s) (by omega)]
  exact nm_e ⟨(L f).length + 1, xl_mr hs hf hq hg hne hnq hng (L f) [] [] 0 _ c _ rfl rfl (Nat.le_refl _) (kd_X_clr H) (by omega) hp⟩
theorem xm_isCo {post : Int32 → SX → Prop} {L : Nat → List Nat} {c z : Nat → Int32} {e b : Nat} (H : kd_X L c z) (he : e < 4) (hb : b < 128) (hp : ∀ c' z', kd_X (kd_U L 4 (kd_q b (L e))) c' z' → post (kd_b (kd_fr (kd_q b (L e)))) (c', z')) : wpX_isCokernel post (c, z) (nI e) (nI b) := by
  unfold wpX_isCokernel
  dsimp only
  refine xm_mqc (s := 4) H (by omega) (by omega) (by omega) hb fun c' z' H' => ?_
  refine xm_isFree (s := 4) H' (by omega) ?_
  rw [kd_Us]
  exact ⟨kd_nrw _, hp _ _ H'⟩
/-- is no cube from d on, m of them, one with the same quotient -/
def kd_new (l l4 : List Nat) (d m : Nat) : Bool := (List.range' d m).all fun x => !decide (l4 = kd_q x l)
theorem xl_first {post : Int32 → SX → Prop} {L : Nat → List Nat} {e b : Nat} (he : e < 4) (hb : b < 128) : ∀ (m d n : Nat) (l5 : List Nat) (cc z : Nat → Int32), d + m = b → m < n → kd_X (kd_U L 5 l5) cc z → (∀ l c' z', kd_X (kd_U L 5 l) c' z' → post (kd_b (kd_new (L e) (L 4) d m)) (c', z')) → wX_isFirstWithItsQuotient_2 post (nI e) (nI b) n (nI d) cc z := by
  intro m
  induction m with
  | zero =>
    intro d n l5 cc z hd hn H hp
    obtain ⟨n, rfl⟩ : ∃ m, n = m + 1 := ⟨n - 1, by omega⟩
    exact br_t (nI_le (by omega) (by omega)) (hp _ _ _ H)
  | succ m ih =>
    intro d n l5 cc z hd hn H hp
    obtain ⟨n, rfl⟩ : ∃ m, n = m + 1 := ⟨n - 1, by omega⟩
    refine br_f (nI_ge (by omega) (by omega)) ?_
    refine xm_mqc (s := 5) H (by omega) (by omega) (by omega) (by omega) fun c' z' H' => ?_
    rw [kd_UU, kd_Un (by omega)] at H'
    refine xm_isSame (s := 4) (s' := 5) H' (by omega) (by omega) ?_
    rw [kd_Us, kd_Un (by omega)]
    rw [kd_new, List.range'_succ, List.all_cons] at hp
    refine kd_bb (fun h => ?_) (fun h => ?_)
    · rw [h, Bool.not_false, Bool.true_and] at hp
      exact nm_r (nI_1 d) (ih (d + 1) n _ c' z' (by omega) (by omega) H' hp)
    · rw [h, Bool.not_true, Bool.false_and] at hp
      exact hp _ _ _ H'
theorem xm_first {post : Int32 → SX → Prop} {L : Nat → List Nat} {c z : Nat → Int32} {e b : Nat} (H : kd_X L c z) (he : e < 4) (hb : b < 128) (hp : ∀ l c' z', kd_X (kd_U L 5 l) c' z' → post (kd_b (kd_new (L e) (L 4) 0 b)) (c', z')) : wpX_isFirstWithItsQuotient post (c, z) (nI e) (nI b) :=
  ⟨b + 1, xl_first he hb b 0 _ (L 5) c z (by omega) (by omega) (by rw [kd_UI]; exact H) hp⟩
/-- the expressions' lists; what lies in the work slots is free -/
def kd_XE (E : Nat → List Nat) (c z : Nat → Int32) : Prop := ∃ L, (∀ e, e < 4 → L e = E e) ∧ kd_X L c z
theorem kd_XE_U {E L : Nat → List Nat} {c z : Nat → Int32} {s : Nat} {l : List Nat} (h : ∀ e, e < 4 → L e = E e) (hs : 4 ≤ s) (H : kd_X (kd_U L s l) c z) : kd_XE E c z :=
  ⟨_, fun e he => by rw [kd_Un (by omega)]; exact h e he, H⟩
def kd_cnt (p : Nat → Bool) (l : List Nat) (k : Int32) : Int32 := l.foldl (fun k x => if p x = true then k + 1 else k) k
theorem xl_cok {post : Int32 → SX → Prop} {E : Nat → List Nat} {e : Nat} (he : e < 4) : ∀ (m d n : Nat) (k : Int32) (cc z : Nat → Int32), d + m = 128 → m < n → kd_XE E cc z → (∀ c' z', kd_XE E c' z' → post (kd_cnt (fun x => kd_fr (kd_q x (E e))) (List.range' d m) k) (c', z')) → wX_cokernels_13 post (nI e) n k (nI d) cc z := by
  intro m
  induction m with
  | zero =>
    intro d n k cc z hd hn H hp
    obtain ⟨n, rfl⟩ : ∃ m, n = m + 1 := ⟨n - 1, by omega⟩
    exact br_t (nI_le (a := 128) (by omega) (by omega)) (hp _ _ H)
  | succ m ih =>
    intro d n k cc z hd hn H hp
    obtain ⟨n, rfl⟩ : ∃ m, n = m + 1 := ⟨n - 1, by omega⟩
    obtain ⟨L, hL, HL⟩ := H
    refine br_f (nI_ge (b := 128) (by omega) (by decide)) ?_
    refine xm_isCo HL he (by omega) fun c' z' H' => ?_
    rw [hL e he] at H' ⊢
    have HE := kd_XE_U hL (by omega) H'
    rw [kd_cnt, List.range'_succ, List.foldl_cons] at hp
    refine kd_bb (fun h => ?_) (fun h => ?_)
    · rw [h, if_neg (by decide)] at hp
      exact nm_r (nI_1 d) (ih (d + 1) n _ c' z' (by omega) (by omega) HE hp)
    · rw [h, if_pos rfl] at hp
      exact nm_e (nm_r (nI_1 d) (ih (d + 1) n _ c' z' (by omega) (by omega) HE hp))
def kd_ker (l : List Nat) (x : Nat) : Bool := kd_fr (kd_q x l) && kd_new l (kd_q x l) 0 x
theorem xl_ker {post : Int32 → SX → Prop} {E : Nat → List Nat} {e : Nat} (he : e < 4) : ∀ (m d n : Nat) (k : Int32) (cc z : Nat → Int32), d + m = 128 → m < n → kd_XE E cc z → (∀ c' z', kd_XE E c' z' → post (kd_cnt (kd_ker (E e)) (List.range' d m) k) (c', z')) → wX_kernels_13 post (nI e) n k (nI d) cc z := by
  intro m
  induction m with
  | zero =>
    intro d n k cc z hd hn H hp
    obtain ⟨n, rfl⟩ : ∃ m, n = m + 1 := ⟨n - 1, by omega⟩
    exact br_t (nI_le (a := 128) (by omega) (by omega)) (hp _ _ H)
  | succ m ih =>
    intro d n k cc z hd hn H hp
    obtain ⟨n, rfl⟩ : ∃ m, n = m + 1 := ⟨n - 1, by omega⟩
    obtain ⟨L, hL, HL⟩ := H
    refine br_f (nI_ge (b := 128) (by omega) (by decide)) ?_
    refine xm_isCo HL he (by omega) fun c' z' H' => ?_
    rw [hL e he] at H' ⊢
    have HE := kd_XE_U hL (by omega) H'
    rw [kd_cnt, List.range'_succ, List.foldl_cons] at hp
    refine kd_bb (fun h => ?_) (fun h => ?_)
    · rw [kd_ker, h, Bool.false_and, if_neg (by decide)] at hp
      exact nm_r (nI_1 d) (ih (d + 1) n _ c' z' (by omega) (by omega) HE hp)
    · refine xm_first H' he (by omega) fun l c2 z2 H2 => ?_
      rw [kd_Us, kd_Un (by omega), hL e he]
      have HE2 : kd_XE E c2 z2 := kd_XE_U (L := kd_U L 4 (kd_q d (E e))) (fun j hj => by rw [kd_Un (by omega)]; exact hL j hj) (by omega) H2
      rw [kd_ker, h, Bool.true_and] at hp
      refine kd_bb (fun h2 => ?_) (fun h2 => ?_)
      · rw [h2, if_neg (by decide)] at hp
        exact nm_r (nI_1 d) (ih (d + 1) n _ c2 z2 (by omega) (by omega) HE2 hp)
      · rw [h2, if_pos rfl] at hp
        exact nm_e (nm_r (nI_1 d) (ih (d + 1) n _ c2 z2 (by omega) (by omega) HE2 hp))
def kd_nxt (l : List Nat) : List Nat → Int32
  | [] => -1
  | x :: t => if kd_fr (kd_q x l) = true then nI x else kd_nxt l t
theorem xl_next {post : Int32 → SX → Prop} {E : Nat → List Nat} {e : Nat} (he : e < 4) : ∀ (m d n : Nat) (cc z : Nat → Int32), (d + m = 128 ∨ (m = 0 ∧ 128 ≤ d ∧ d < 2 ^ 31)) → m < n → kd_XE E cc z → (∀ c' z', kd_XE E c' z' → post (kd_nxt (E e) (List.range' d m)) (c', z')) → wX_nextCokernel_22 post (nI e) n (nI d) cc z := by
  intro m
  induction m with
  | zero =>
    intro d n cc z hd hn H hp
    obtain ⟨n, rfl⟩ : ∃ m, n = m + 1 := ⟨n - 1, by omega⟩
    exact br_t (nI_le (a := 128) (by omega) (by omega)) (hp _ _ H)
  | succ m ih =>
    intro d n cc z hd hn H hp
    obtain ⟨n, rfl⟩ : ∃ m, n = m + 1 := ⟨n - 1, by omega⟩
    obtain ⟨L, hL, HL⟩ := H
    refine br_f (nI_ge (b := 128) (by omega) (by decide)) ?_
    refine xm_isCo HL he (by omega) fun c' z' H' => ?_
    rw [hL e he] at H' ⊢
    have HE := kd_XE_U hL (by omega) H'
    rw [List.range'_succ, kd_nxt] at hp
    refine kd_bb (fun h => ?_) (fun h => ?_)
    · rw [h, if_neg (by decide)] at hp
      exact nm_r (nI_1 d) (ih (d + 1) n c' z' (by omega) (by omega) HE hp)
    · rw [h, if_pos rfl] at hp
      exact hp _ _ HE
def kd_hold (b : Nat) (s : Int32 × Nat) (a : Nat) : Int32 × Nat := (if a &&& b = b then s.1 ||| ((1 : Int32) <<< (nI s.2 &&& 31)) else s.1, s.2 + 1)
theorem xl_hold {post : Int32 → Prop} {s len b : Nat} {c z : Nat → Int32} (hs : s < 6) (hl : len ≤ 8) (hb : b < 128) : ∀ (t : List Nat) (i : Nat) (v : Int32) (n : Nat), i + t.length = len → (∀ a ∈ t, a < 128) → kd_At c (8 * s + i) t → t.length < n → post (t.foldl (kd_hold b) (v, i)).1 → wX_holding_29 post (nI s) (nI b) (nI len) c z n v (nI i) := by
  intro t
  induction t with
  | nil =>
    intro i v n hi h8 ha hn hp
    obtain ⟨n, rfl⟩ : ∃ m, n = m + 1 := ⟨n - 1, by omega⟩
    rw [List.length_nil] at hi
    exact br_t (nI_le (by omega) (by omega)) hp
  | cons a t ih =>
    intro i v n hi h8 ha hn hp
    obtain ⟨n, rfl⟩ : ∃ m, n = m + 1 := ⟨n - 1, by omega⟩
    rw [List.length_cons] at hi hn
    have h8a : a < 128 := h8 a (by simp)
    refine br_f (nI_ge (by omega) (by omega)) ?_
    rw [kd_ix, nI_clamp (by omega), ha.1]
    refine ⟨vp_in_nI (by omega) (by omega), ?_⟩
    refine xm_holds h8a hb ?_
    rw [List.foldl_cons, kd_hold] at hp
    refine kd_bb (fun e => ?_) (fun e => ?_)
    · rw [decide_eq_false_iff_not] at e
      rw [if_neg e] at hp
      exact nm_r (nI_1 i) (ih (i + 1) _ n (by omega) (fun y hy => h8 y (by simp [hy])) ha.2 (by omega) hp)
    · rw [decide_eq_true_eq] at e
      rw [if_pos e] at hp
      exact nm_e (nm_r (nI_1 i) (ih (i + 1) _ n (by omega) (fun y hy => h8 y (by simp [hy])) ha.2 (by omega) hp))
def kd_lsv (a : Nat) (l : List Nat) (v : Int32) : Int32 := l.foldl (fun s x => s + ((nI a >>> (nI x &&& 31)) &&& 1)) v
def kd_ls (a : Nat) : Int32 := kd_lsv a (List.range' 0 7) 0
theorem kd_lsv_add (a : Nat) : ∀ (l : List Nat) (v w : Int32), kd_lsv a l (v + w) = v + kd_lsv a l w
  | [], v, w => rfl
  | x :: t, v, w => by
    have := kd_lsv_add a t v (w + ((nI a >>> (nI x &&& 31)) &&& 1))
    rw [← Int32.add_assoc] at this
    exact this
theorem xl_let2 {post : Int32 → Prop} {J : Int32 → Int32 → Prop} {x1 x2 : Int32} {i a : Nat} {c z : Nat → Int32} : ∀ (m d n : Nat) (v : Int32), d + m = 7 → m < n → J (kd_lsv a (List.range' d m) v) (nI (i + 1)) → wX_countLetters_35 post J x1 x2 (nI i) (nI a) c z n v (nI d) := by
  intro m
  induction m with
  | zero =>
    intro d n v hd hn hp
    obtain ⟨n, rfl⟩ : ∃ m, n = m + 1 := ⟨n - 1, by omega⟩
    exact br_t (nI_le (a := 7) (by omega) (by omega)) (nm_r (nI_1 i) hp)
  | succ m ih =>
    intro d n v hd hn hp
    obtain ⟨n, rfl⟩ : ∃ m, n = m + 1 := ⟨n - 1, by omega⟩
    refine br_f (nI_ge (b := 7) (by omega) (by decide)) (nm_e (nm_r (nI_1 d) (ih (d + 1) n _ (by omega) (by omega) ?_)))
    rw [kd_lsv, List.range'_succ, List.foldl_cons] at hp
    exact hp
def kd_clv (l : List Nat) (v : Int32) : Int32 := l.foldl (fun s a => s + kd_ls a) v
theorem xl_let {post : Int32 → Prop} {s len : Nat} {c z : Nat → Int32} (hs : s < 6) (hl : len ≤ 8) : ∀ (t : List Nat) (i : Nat) (v : Int32) (n : Nat), i + t.length = len → kd_At c (8 * s + i) t → t.length < n → post (kd_clv t v) → wX_countLetters_12 post (nI s) (nI len) c z n v (nI i) := by
  intro t
  induction t with
  | nil =>
    intro i v n hi ha hn hp
    obtain ⟨n, rfl⟩ : ∃ m, n = m + 1 := ⟨n - 1, by omega⟩
    rw [List.length_nil] at hi
    exact br_t (nI_le (by omega) (by omega)) hp
  | cons a t ih =>
    intro i v n hi ha hn hp
    obtain ⟨n, rfl⟩ : ∃ m, n = m + 1 := ⟨n - 1, by omega⟩
    rw [List.length_cons] at hi hn
    refine br_f (nI_ge (by omega) (by omega)) ?_
    rw [kd_ix, nI_clamp (by omega), ha.1]
    refine ⟨vp_in_nI (by omega) (by omega), nm_e ⟨8, xl_let2 7 0 8 v rfl (by omega) ?_⟩⟩
    have e : kd_lsv a (List.range' 0 7) v = v + kd_ls a := by
      have := kd_lsv_add a (List.range' 0 7) v 0
      rw [Int32.add_zero] at this
      exact this
    rw [e]
    exact ih (i + 1) _ n (by omega) ha.2 (by omega) hp
theorem xm_let {post : Int32 → Prop} {L : Nat → List Nat} {c z : Nat → Int32} {s : Nat} (H : kd_X L c z) (hs : s < 6) (hp : post (kd_clv (L s) 0)) : wpX_countLetters post (c, z) (nI s) := by
  obtain ⟨h1, h2, h3, h4⟩ := H s hs
  exact ⟨vp_in_nI hs (by omega), nm_r (kd_zs H hs) ⟨(L s).length + 1, xl_let hs h2 (L s) 0 _ _ (by omega) h4 (by omega) hp⟩⟩
