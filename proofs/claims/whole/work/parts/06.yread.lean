theorem yl_common {post : Int32 → Prop} {e : Nat} {p : Nat → Bool} {a q lf : Nat → Int32} (he : e < 4) (ha : ∀ x, x < 128 → a (128 * e + x) = kd_b (p x)) : ∀ (m d n : Nat) (v : Int32), d + m = 128 → m < n → post (((List.range' d m).filter p).foldl (fun a x => a &&& nI x) v) → wY_common_23 post (nI e) a q lf n v (nI d) := by
  intro m
  induction m with
  | zero =>
    intro d n v hd hn hp
    obtain ⟨n, rfl⟩ : ∃ m, n = m + 1 := ⟨n - 1, by omega⟩
    exact br_t (nI_le (a := 128) (by omega) (by omega)) hp
  | succ m ih =>
    intro d n v hd hn hp
    obtain ⟨n, rfl⟩ : ∃ m, n = m + 1 := ⟨n - 1, by omega⟩
    refine br_f (nI_ge (b := 128) (by omega) (by decide)) ?_
    rw [kd_iy, nI_clamp (by omega), ha d (by omega)]
    rw [List.range'_succ] at hp
    refine ⟨vp_in_nI (by omega) (by omega), kd_bb (fun h => ?_) (fun h => ?_)⟩
    · rw [List.filter_cons_of_neg (by rw [h]; decide)] at hp
      exact nm_r (nI_1 d) (ih (d + 1) n _ (by omega) (by omega) hp)
    · rw [List.filter_cons_of_pos h, List.foldl_cons] at hp
      exact nm_e (nm_r (nI_1 d) (ih (d + 1) n _ (by omega) (by omega) hp))
theorem yl_free {post : Int32 → Prop} {e c : Nat} {l : List Nat} {a q lf : Nat → Int32} (he : e < 4) (hc : c < 128) (ha : kd_Yl a e l) : ∀ (m d n k : Nat) (v : Int32), d + m = 128 → m < n → k + m ≤ 128 → post (kd_b (decide (2 ≤ k + ((List.range' d m).filter fun x => decide (x ∈ kd_q c l)).length) && decide (((List.range' d m).filter fun x => decide (x ∈ kd_q c l)).foldl (fun a x => a &&& nI x) v = 0))) → wY_freeBy_9 post (nI e) (nI c) a q lf n (nI k) v (nI d) := by
  intro m
  induction m with
  | zero =>
    intro d n k v hd hn hk hp
    obtain ⟨n, rfl⟩ : ∃ m, n = m + 1 := ⟨n - 1, by omega⟩
    refine br_t (nI_le (a := 128) (by omega) (by omega)) ?_
    simp only [List.range'_zero, List.filter_nil, List.length_nil, Nat.add_zero, List.foldl_nil] at hp
    by_cases h : 2 ≤ k
    · rw [decide_eq_true h, Bool.true_and] at hp
      refine br_f (nI_nlt (b := 2) h (by omega)) ?_
      by_cases h0 : v = 0
      · rw [decide_eq_true h0] at hp
        exact br_t h0 hp
      · rw [decide_eq_false h0] at hp
        exact br_f h0 hp
    · rw [decide_eq_false h, Bool.false_and] at hp
      exact br_t (nI_lt (b := 2) (by omega) (by decide)) hp
  | succ m ih =>
    intro d n k v hd hn hk hp
    obtain ⟨n, rfl⟩ : ∃ m, n = m + 1 := ⟨n - 1, by omega⟩
    refine br_f (nI_ge (b := 128) (by omega) (by decide)) ?_
    refine ym_qh he ha hc (by omega) ?_
    rw [List.range'_succ] at hp
    refine kd_bb (fun h => ?_) (fun h => ?_)
    · rw [List.filter_cons_of_neg (by rw [h]; decide)] at hp
      rw [h]
      exact br_t rfl (nm_r (nI_1 d) (ih (d + 1) n k _ (by omega) (by omega) (by omega) hp))
    · rw [List.filter_cons_of_pos (p := fun x => decide (x ∈ kd_q c l)) (a := d) h, List.foldl_cons, List.length_cons] at hp
      rw [h, nI_1 k]
      refine br_f (by decide) (nm_e (nm_r (nI_1 d) (ih (d + 1) n (k + 1) _ (by omega) (by omega) (by omega) ?_)))
      rw [Nat.add_right_comm]
      exact hp
theorem ym_free {post : Int32 → Prop} {e c : Nat} {l : List Nat} {a q lf : Nat → Int32} (he : e < 4) (hc : c < 128) (ha : kd_Yl a e l) (hS : kd_S l) (hp : post (kd_b (kd_fr (kd_q c l)))) : wpY_freeBy post (a, q, lf) (nI e) (nI c) := by
  refine ⟨129, yl_free he hc ha 128 0 129 0 127 rfl (by omega) (by omega) ?_⟩
  rw [kd_sv (kd_q_S hc hS.1 hS.2) (kd_q_128 hc hS.2), Nat.zero_add]
  exact hp
theorem kd_q0 (l : List Nat) : kd_q 0 l = l := by
  have h1 : (l.filter fun w => decide (w &&& 0 = 0)) = l := by
    rw [List.filter_eq_self]
    intro a _
    simp
  have h2 : (fun w : Nat => w ^^^ 0) = id := by
    funext w
    simp
  rw [kd_q, h1, h2, List.map_id]
theorem yl_same {post : Int32 → Prop} {e c d : Nat} {l : List Nat} {a q lf : Nat → Int32} (he : e < 4) (hc : c < 128) (hd : d < 128) (ha : kd_Yl a e l) : ∀ (m y n : Nat) (ok : Bool), y + m = 128 → m < n → post (kd_b (ok && (List.range' y m).all fun x => decide (x ∈ kd_q c l) == decide (x ∈ kd_q d l))) → wY_same_6 post (nI e) (nI c) (nI d) a q lf n (kd_b ok) (nI y) := by
  intro m
  induction m with
  | zero =>
    intro y n ok hy hn hp
    obtain ⟨n, rfl⟩ : ∃ m, n = m + 1 := ⟨n - 1, by omega⟩
    rw [List.range'_zero, List.all_nil, Bool.and_true] at hp
    exact br_t (nI_le (a := 128) (by omega) (by omega)) ⟨kd_nrw _, hp⟩
  | succ m ih =>
    intro y n ok hy hn hp
    obtain ⟨n, rfl⟩ : ∃ m, n = m + 1 := ⟨n - 1, by omega⟩
    refine br_f (nI_ge (b := 128) (by omega) (by decide)) ?_
    refine kd_bb (fun h => ?_) (fun h => ?_)
    · rw [h, Bool.false_and] at hp
      rw [h]
      exact ⟨kd_nrw _, hp⟩
    · rw [h, Bool.true_and, List.range'_succ, List.all_cons] at hp
      refine ym_qh he ha hc (by omega) ?_
      refine ym_qh he ha hd (by omega) ?_
      rw [kd_bi]
      by_cases h2 : decide (y ∈ kd_q c l) = decide (y ∈ kd_q d l)
      · refine br_t h2 (nm_r (nI_1 y) (ih (y + 1) n true (by omega) (by omega) ?_))
        rw [h2, beq_self_eq_true, Bool.true_and] at hp
        exact hp
      · refine br_f h2 (nm_r (nI_1 y) (ih (y + 1) n false (by omega) (by omega) ?_))
        rw [beq_false_of_ne h2, Bool.false_and] at hp
        exact hp
theorem ym_same {post : Int32 → Prop} {e c d : Nat} {l : List Nat} {a q lf : Nat → Int32} (he : e < 4) (hc : c < 128) (hd : d < 128) (ha : kd_Yl a e l) (hS : kd_S l) (hp : post (kd_b (decide (kd_q c l = kd_q d l)))) : wpY_same post (a, q, lf) (nI e) (nI c) (nI d) := by
  refine ⟨129, yl_same he hc hd ha 128 0 129 true rfl (by omega) ?_⟩
  have e : (true && (List.range' 0 128).all fun x => decide (x ∈ kd_q c l) == decide (x ∈ kd_q d l)) = decide (kd_q c l = kd_q d l) := by
    rw [Bool.true_and, Bool.eq_iff_iff, List.all_eq_true, decide_eq_true_eq]
    constructor
    · intro h
      apply kd_ext _ _ (kd_q_S hc hS.1 hS.2) (kd_q_S hd hS.1 hS.2)
      intro x
      constructor
      · intro hx
        have := h x ((kd_r128 x).mpr (kd_q_128 hc hS.2 x hx))
        rw [decide_eq_true hx, beq_iff_eq] at this
        exact decide_eq_true_eq.mp this.symm
      · intro hx
        have := h x ((kd_r128 x).mpr (kd_q_128 hd hS.2 x hx))
        rw [decide_eq_true hx, beq_iff_eq] at this
        exact decide_eq_true_eq.mp this
    · intro h x _
      rw [h, beq_self_eq_true]
  rw [e]
  exact hp
theorem yl_cok {post : Int32 → Prop} {e : Nat} {l : List Nat} {a q lf : Nat → Int32} (he : e < 4) (ha : kd_Yl a e l) (hS : kd_S l) : ∀ (m d n : Nat) (k : Int32), d + m = 128 → m < n → post (kd_cnt (fun x => kd_fr (kd_q x l)) (List.range' d m) k) → wY_cokernels_4 post (nI e) a q lf n k (nI d) := by
  intro m
  induction m with
  | zero =>
    intro d n k hd hn hp
    obtain ⟨n, rfl⟩ : ∃ m, n = m + 1 := ⟨n - 1, by omega⟩
    refine br_t (nI_le (a := 128) (by omega) (by omega)) ?_
    refine ym_ex_t he ?_
    exact br_f (by decide) hp
  | succ m ih =>
    intro d n k hd hn hp
    obtain ⟨n, rfl⟩ : ∃ m, n = m + 1 := ⟨n - 1, by omega⟩
    refine br_f (nI_ge (b := 128) (by omega) (by decide)) ?_
    refine ym_ex_t he ?_
    refine br_f (by decide) ?_
    refine ym_free he (by omega) ha hS ?_
    rw [kd_cnt, List.range'_succ, List.foldl_cons] at hp
    refine kd_bb (fun h => ?_) (fun h => ?_)
    · rw [h, if_neg (by decide)] at hp
      exact nm_r (nI_1 d) (ih (d + 1) n _ (by omega) (by omega) hp)
    · rw [h, if_pos rfl] at hp
      exact nm_e (nm_r (nI_1 d) (ih (d + 1) n _ (by omega) (by omega) hp))
theorem yl_ker2 {post : Int32 → Prop} {J : Int32 → Int32 → Prop} {e c : Nat} {k : Int32} {l : List Nat} {a q lf : Nat → Int32} (he : e < 4) (hc : c < 128) (ha : kd_Yl a e l) (hS : kd_S l) : ∀ (m d n : Nat) (fr : Bool), d + m = c → m < n → wY_kernels_65 post J (nI e) k (nI c) (kd_b (fr && kd_new l (kd_q c l) d m)) a q lf → wY_kernels_30 post J (nI e) k (nI c) a q lf n (kd_b fr) (nI d) := by
  intro m
  induction m with
  | zero =>
    intro d n fr hd hn hp
    obtain ⟨n, rfl⟩ : ∃ m, n = m + 1 := ⟨n - 1, by omega⟩
    rw [show kd_new l (kd_q c l) d 0 = true from rfl, Bool.and_true] at hp
    exact br_t (nI_le (by omega) (by omega)) hp
  | succ m ih =>
    intro d n fr hd hn hp
    obtain ⟨n, rfl⟩ : ∃ m, n = m + 1 := ⟨n - 1, by omega⟩
    refine br_f (nI_ge (by omega) (by omega)) ?_
    refine kd_bb (fun h => ?_) (fun h => ?_)
    · rw [h, Bool.false_and] at hp
      rw [h]
      exact hp
    · rw [h, Bool.true_and, kd_new, List.range'_succ, List.all_cons] at hp
      refine ym_same he hc (by omega) ha hS ?_
      refine kd_bb (fun h2 => ?_) (fun h2 => ?_)
      · rw [h2, Bool.not_false] at hp
        exact nm_r (nI_1 d) (ih (d + 1) n true (by omega) (by omega) hp)
      · rw [h2, Bool.not_true] at hp
        exact nm_r (nI_1 d) (ih (d + 1) n false (by omega) (by omega) hp)
theorem yl_ker {post : Int32 → Prop} {e : Nat} {l : List Nat} {a q lf : Nat → Int32} (he : e < 4) (ha : kd_Yl a e l) (hS : kd_S l) : ∀ (m d n : Nat) (k : Int32), d + m = 128 → m < n → post (kd_cnt (kd_ker l) (List.range' d m) k) → wY_kernels_4 post (nI e) a q lf n k (nI d) := by
  intro m
  induction m with
  | zero =>
    intro d n k hd hn hp
    obtain ⟨n, rfl⟩ : ∃ m, n = m + 1 := ⟨n - 1, by omega⟩
    refine br_t (nI_le (a := 128) (by omega) (by omega)) ?_
    refine ym_ex_t he ?_
    exact br_f (by decide) hp
  | succ m ih =>
    intro d n k hd hn hp
    obtain ⟨n, rfl⟩ : ∃ m, n = m + 1 := ⟨n - 1, by omega⟩
    refine br_f (nI_ge (b := 128) (by omega) (by decide)) ?_
    refine ym_ex_t he ?_
    refine br_f (by decide) ?_
    refine ym_free he (by omega) ha hS ?_
    rw [kd_cnt, List.range'_succ, List.foldl_cons] at hp
    refine ⟨d + 1, yl_ker2 he (by omega) ha hS d 0 (d + 1) _ (by omega) (by omega) ?_⟩
    refine kd_bb (fun h => ?_) (fun h => ?_)
    · rw [kd_ker, h, if_neg (by decide)] at hp
      exact nm_r (nI_1 d) (ih (d + 1) n _ (by omega) (by omega) hp)
    · rw [kd_ker, h, if_pos rfl] at hp
      exact nm_e (nm_r (nI_1 d) (ih (d + 1) n _ (by omega) (by omega) hp))
theorem yl_next {post : Int32 → Prop} {e : Nat} {x2 : Int32} {l : List Nat} {a q lf : Nat → Int32} (he : e < 4) (ha : kd_Yl a e l) (hS : kd_S l) : ∀ (m d n : Nat), d + m = 128 → m < n → (∀ y, d ≤ y → y < 128 → ¬ nI y < x2) → post (kd_nxt l (List.range' d m)) → wY_nextCokernel_2 post (nI e) x2 a q lf n (nI d) := by
  intro m
  induction m with
  | zero =>
    intro d n hd hn hf hp
    obtain ⟨n, rfl⟩ : ∃ m, n = m + 1 := ⟨n - 1, by omega⟩
    exact br_t (nI_le (a := 128) (by omega) (by omega)) hp
  | succ m ih =>
    intro d n hd hn hf hp
    obtain ⟨n, rfl⟩ : ∃ m, n = m + 1 := ⟨n - 1, by omega⟩
    refine br_f (nI_ge (b := 128) (by omega) (by decide)) ?_
    refine ym_ex_t he ?_
    refine br_f (by decide) ?_
    refine br_f (hf d (by omega) (by omega)) ?_
    refine ym_free he (by omega) ha hS ?_
    rw [List.range'_succ, kd_nxt] at hp
    refine kd_bb (fun h => ?_) (fun h => ?_)
    · rw [h, if_neg (by decide)] at hp
      exact nm_r (nI_1 d) (ih (d + 1) n (by omega) (by omega) (fun y h1 h2 => hf y (by omega) h2) hp)
    · rw [h, if_pos rfl] at hp
      exact hp
/-- the cubes below from are passed over -/
theorem yl_skip {post : Int32 → Prop} {e j : Nat} {l : List Nat} {a q lf : Nat → Int32} (he : e < 4) (ha : kd_Yl a e l) (hS : kd_S l) (hj : j < 2 ^ 31) : ∀ (m d n : Nat), d + m = 128 → m < n → post (kd_nxt l (List.range' (max d j) (128 - max d j))) → wY_nextCokernel_2 post (nI e) (nI j) a q lf n (nI d) := by
  intro m
  induction m with
  | zero =>
    intro d n hd hn hp
    refine yl_next he ha hS 0 d n hd hn (fun y _ _ => by omega) ?_
    rw [show 128 - max d j = 0 by omega] at hp
    exact hp
  | succ m ih =>
    intro d n hd hn hp
    by_cases hdj : d < j
    · obtain ⟨n, rfl⟩ : ∃ m, n = m + 1 := ⟨n - 1, by omega⟩
      refine br_f (nI_ge (b := 128) (by omega) (by decide)) ?_
      refine ym_ex_t he ?_
      refine br_f (by decide) ?_
      refine br_t (nI_lt hdj hj) (nm_r (nI_1 d) (ih (d + 1) n (by omega) (by omega) ?_))
      rw [show max (d + 1) j = max d j by omega]
      exact hp
    · rw [show max d j = d by omega, show 128 - d = m + 1 by omega] at hp
      exact yl_next he ha hS (m + 1) d n hd hn (fun y h1 h2 => nI_nlt (by omega) (by omega)) hp
theorem yl_hold {post : Int32 → Prop} {e b : Nat} {p : Nat → Bool} {a q lf : Nat → Int32} (he : e < 4) (hb : b < 128) (ha : ∀ x, x < 128 → a (128 * e + x) = kd_b (p x)) : ∀ (m d n k : Nat) (v : Int32), d + m = 128 → m < n → post (((List.range' d m).filter p).foldl (kd_hold b) (v, k)).1 → wY_holding_26 post (nI e) (nI b) a q lf n v (nI k) (nI d) := by
  intro m
  induction m with
  | zero =>
    intro d n k v hd hn hp
    obtain ⟨n, rfl⟩ : ∃ m, n = m + 1 := ⟨n - 1, by omega⟩
    exact br_t (nI_le (a := 128) (by omega) (by omega)) hp
  | succ m ih =>
    intro d n k v hd hn hp
    obtain ⟨n, rfl⟩ : ∃ m, n = m + 1 := ⟨n - 1, by omega⟩
    refine br_f (nI_ge (b := 128) (by omega) (by decide)) ?_
    rw [kd_iy, nI_clamp (by omega), ha d (by omega), kd_in (by omega) (by omega)]
    rw [List.range'_succ] at hp
    refine ⟨vp_in_nI (by omega) (by omega), kd_bb (fun h => ?_) (fun h => ?_)⟩
    · rw [List.filter_cons_of_neg (by rw [h]; decide)] at hp
      exact nm_r (nI_1 d) (ih (d + 1) n k _ (by omega) (by omega) hp)
    · rw [List.filter_cons_of_pos h, List.foldl_cons, kd_hold] at hp
      by_cases h2 : d &&& b = b
      · rw [if_pos h2] at hp
        exact br_t h2 (nm_e (nm_r (nI_1 k) (nm_r (nI_1 d) (ih (d + 1) n (k + 1) _ (by omega) (by omega) hp))))
      · rw [if_neg h2] at hp
        exact br_f h2 (nm_r (nI_1 k) (nm_r (nI_1 d) (ih (d + 1) n (k + 1) _ (by omega) (by omega) hp)))
theorem yl_let {post : Int32 → Prop} {b : Nat} {a q lf : Nat → Int32} : ∀ (m d n : Nat) (v : Int32), d + m = 7 → m < n → post (kd_lsv b (List.range' d m) v) → wY_letters_4 post (nI b) a q lf n v (nI d) := by
  intro m
  induction m with
  | zero =>
    intro d n v hd hn hp
    obtain ⟨n, rfl⟩ : ∃ m, n = m + 1 := ⟨n - 1, by omega⟩
    exact br_t (nI_le (a := 7) (by omega) (by omega)) hp
  | succ m ih =>
    intro d n v hd hn hp
    obtain ⟨n, rfl⟩ : ∃ m, n = m + 1 := ⟨n - 1, by omega⟩
    refine br_f (nI_ge (b := 7) (by omega) (by decide)) (nm_e (nm_r (nI_1 d) (ih (d + 1) n _ (by omega) (by omega) ?_)))
    rw [kd_lsv, List.range'_succ, List.foldl_cons] at hp
    exact hp
theorem ym_let {post : Int32 → Prop} {b : Nat} {a q lf : Nat → Int32} (hp : post (kd_ls b)) : wpY_letters post (a, q, lf) (nI b) := ⟨8, yl_let 7 0 8 0 rfl (by omega) hp⟩
/-- the letters of the cubes that p picks -/
def kd_sm (p : Nat → Bool) (l : List Nat) : Int32 := kd_clv (l.filter p) 0
theorem kd_clv_add : ∀ (l : List Nat) (v w : Int32), kd_clv l (v + w) = v + kd_clv l w
  | [], v, w => rfl
  | x :: t, v, w => by
    have := kd_clv_add t v (w + kd_ls x)
    rw [← Int32.add_assoc] at this
    exact this
theorem kd_sm_t {p : Nat → Bool} {x : Nat} {t : List Nat} (h : p x = true) : kd_sm p (x :: t) = kd_ls x + kd_sm p t := by
  rw [kd_sm, List.filter_cons_of_pos h]
  show kd_clv (t.filter p) (0 + kd_ls x) = _
  rw [Int32.add_comm 0 (kd_ls x), kd_clv_add]
  rfl
theorem kd_sm_f {p : Nat → Bool} {x : Nat} {t : List Nat} (h : p x = false) : kd_sm p (x :: t) = kd_sm p t := by
  rw [kd_sm, List.filter_cons_of_neg (by rw [h]; decide)]
  rfl
theorem yl_sav {post : Int32 → SY → Prop} {e g : Nat} {P Q R G : Nat → Bool} {a q lf : Nat → Int32} (he : e < 4) (hg : g < 4) (hP : ∀ x, x < 128 → a (128 * e + x) = kd_b (P x)) (hQ : ∀ x, x < 128 → q x = kd_b (Q x)) (hR : ∀ x, x < 128 → lf x = kd_b (R x)) (hG : ∀ x, x < 128 → a (128 * g + x) = kd_b (G x)) : ∀ (m d n : Nat) (v : Int32), d + m = 128 → m < n → post (v + kd_sm P (List.range' d m) - kd_sm Q (List.range' d m) - kd_sm R (List.range' d m) - kd_sm G (List.range' d m)) (a, q, lf) → wY_saving_22 post (nI e) (nI g) a q lf n v (nI d) := by
  intro m
  induction m with
  | zero =>
    intro d n v hd hn hp
    obtain ⟨n, rfl⟩ : ∃ m, n = m + 1 := ⟨n - 1, by omega⟩
    refine br_t (nI_le (a := 128) (by omega) (by omega)) ?_
    have h0 : ∀ p, kd_sm p (List.range' d 0) = 0 := fun _ => rfl
    rw [h0, h0, h0, h0] at hp
    have e : v + 0 - 0 - 0 - 0 = v := by grind
    rw [e] at hp
    exact hp
  | succ m ih =>
    intro d n v hd hn hp
    obtain ⟨n, rfl⟩ : ∃ m, n = m + 1 := ⟨n - 1, by omega⟩
    refine br_f (nI_ge (b := 128) (by omega) (by decide)) ?_
    refine ym_let ?_
    rw [List.range'_succ] at hp
    have F : ∀ w : Int32, w + kd_sm P (List.range' (d + 1) m) - kd_sm Q (List.range' (d + 1) m) - kd_sm R (List.range' (d + 1) m) - kd_sm G (List.range' (d + 1) m) = v + kd_sm P (d :: List.range' (d + 1) m) - kd_sm Q (d :: List.range' (d + 1) m) - kd_sm R (d :: List.range' (d + 1) m) - kd_sm G (d :: List.range' (d + 1) m) → ∀ x4, x4 = nI d + 1 → wY_saving_22 post (nI e) (nI g) a q lf n w x4 := by
      intro w hw
      refine nm_r (nI_1 d) (ih (d + 1) n w (by omega) (by omega) ?_)
      rw [hw]
      exact hp
    have S100 : ∀ w : Int32, w + kd_sm P (List.range' (d + 1) m) - kd_sm Q (List.range' (d + 1) m) - kd_sm R (List.range' (d + 1) m) - kd_sm G (d :: List.range' (d + 1) m) = v + kd_sm P (d :: List.range' (d + 1) m) - kd_sm Q (d :: List.range' (d + 1) m) - kd_sm R (d :: List.range' (d + 1) m) - kd_sm G (d :: List.range' (d + 1) m) → wY_saving_100 post (wY_saving_22 post (nI e) (nI g) a q lf n) (nI e) (nI g) (nI d) (kd_ls d) w a q lf := by
      intro w hw
      unfold wY_saving_100
      rw [kd_iy, nI_clamp (n := 128 * g + d) (by omega), hG d (by omega)]
      refine ⟨vp_in_nI (by omega) (by omega), kd_bb (fun h => ?_) (fun h => ?_)⟩
      · exact F w (by rw [← hw, kd_sm_f h])
      · exact nm_e (F _ (by rw [← hw, kd_sm_t h]; grind))
    have S81 : ∀ w : Int32, w + kd_sm P (List.range' (d + 1) m) - kd_sm Q (List.range' (d + 1) m) - kd_sm R (d :: List.range' (d + 1) m) - kd_sm G (d :: List.range' (d + 1) m) = v + kd_sm P (d :: List.range' (d + 1) m) - kd_sm Q (d :: List.range' (d + 1) m) - kd_sm R (d :: List.range' (d + 1) m) - kd_sm G (d :: List.range' (d + 1) m) → wY_saving_81 post (wY_saving_22 post (nI e) (nI g) a q lf n) (nI e) (nI g) (nI d) (kd_ls d) w a q lf := by
      intro w hw
      unfold wY_saving_81
      rw [nI_clamp (n := d) (by omega), hR d (by omega)]
      refine ⟨vp_in_nI (by omega) (by omega), kd_bb (fun h => ?_) (fun h => ?_)⟩
      · exact S100 w (by rw [← hw, kd_sm_f h])
      · exact S100 _ (by rw [← hw, kd_sm_t h]; grind)
    have S62 : ∀ w : Int32, w + kd_sm P (List.range' (d + 1) m) - kd_sm Q (d :: List.range' (d + 1) m) - kd_sm R (d :: List.range' (d + 1) m) - kd_sm G (d :: List.range' (d + 1) m) = v + kd_sm P (d :: List.range' (d + 1) m) - kd_sm Q (d :: List.range' (d + 1) m) - kd_sm R (d :: List.range' (d + 1) m) - kd_sm G (d :: List.range' (d + 1) m) → wY_saving_62 post (wY_saving_22 post (nI e) (nI g) a q lf n) (nI e) (nI g) (nI d) (kd_ls d) w a q lf := by
      intro w hw
      unfold wY_saving_62
      rw [nI_clamp (n := d) (by omega), hQ d (by omega)]
      refine ⟨vp_in_nI (by omega) (by omega), kd_bb (fun h => ?_) (fun h => ?_)⟩
      · exact S81 w (by rw [← hw, kd_sm_f h])
      · exact S81 _ (by rw [← hw, kd_sm_t h]; grind)
    rw [kd_iy, nI_clamp (n := 128 * e + d) (by omega), hP d (by omega)]
    refine ⟨vp_in_nI (by omega) (by omega), kd_bb (fun h => ?_) (fun h => ?_)⟩
    · exact S62 v (by rw [kd_sm_f h])
    · exact S62 _ (by rw [kd_sm_t h]; grind)
def kd_cb (i : Int32) : List Nat → Nat → Int32
  | [], _ => -1
  | a :: t, k => if nI k = i then nI a else kd_cb i t (k + 1)
theorem yl_cube {post : Int32 → Prop} {e : Nat} {i : Int32} {p : Nat → Bool} {a q lf : Nat → Int32} (he : e < 4) (ha : ∀ x, x < 128 → a (128 * e + x) = kd_b (p x)) : ∀ (m d n k : Nat), d + m = 128 → m < n → post (kd_cb i ((List.range' d m).filter p) k) → wY_cube_5 post (nI e) i a q lf n (nI k) (nI d) := by
  intro m
  induction m with
  | zero =>
    intro d n k hd hn hp
    obtain ⟨n, rfl⟩ : ∃ m, n = m + 1 := ⟨n - 1, by omega⟩
    exact br_t (nI_le (a := 128) (by omega) (by omega)) hp
  | succ m ih =>
    intro d n k hd hn hp
    obtain ⟨n, rfl⟩ : ∃ m, n = m + 1 := ⟨n - 1, by omega⟩
    refine br_f (nI_ge (b := 128) (by omega) (by decide)) ?_
    refine ym_ex_t he ?_
    refine br_f (by decide) ?_
    rw [kd_iy, nI_clamp (by omega), ha d (by omega)]
    rw [List.range'_succ] at hp
    refine ⟨vp_in_nI (by omega) (by omega), kd_bb (fun h => ?_) (fun h => ?_)⟩
    · rw [List.filter_cons_of_neg (by rw [h]; decide)] at hp
      exact nm_r (nI_1 d) (ih (d + 1) n k (by omega) (by omega) hp)
    · rw [List.filter_cons_of_pos h, kd_cb] at hp
      by_cases h2 : nI k = i
      · rw [if_pos h2] at hp
        exact br_t h2 hp
      · rw [if_neg h2] at hp
        exact br_f h2 (nm_r (nI_1 k) (nm_r (nI_1 d) (ih (d + 1) n (k + 1) (by omega) (by omega) hp)))
theorem kd_cb_neg {i : Int32} (hi : i < 0) : ∀ (l : List Nat) (k : Nat), k + l.length < 2 ^ 31 → kd_cb i l k = -1
  | [], _, _ => rfl
  | a :: t, k, h => by
    rw [List.length_cons] at h
    rw [kd_cb, if_neg, kd_cb_neg hi t (k + 1) (by omega)]
    intro e
    rw [← e] at hi
    exact nI_pos (by omega) hi
theorem kd_cb_pos {j : Nat} (hj : j < 2 ^ 31) : ∀ (l : List Nat) (k : Nat), k + l.length < 2 ^ 31 → kd_cb (nI j) l k = if h : k ≤ j ∧ j - k < l.length then nI (l[j - k]'h.2) else -1
  | [], _, _ => by simp [kd_cb]
  | a :: t, k, h => by
    rw [List.length_cons] at h
    rw [kd_cb]
    by_cases hk : k = j
    · subst hk
      rw [if_pos rfl, dif_pos ⟨by omega, by simp⟩]
      simp
    · rw [if_neg (by rw [nI_eq (by omega) hj]; exact hk), kd_cb_pos hj t (k + 1) (by omega)]
      by_cases hc : k + 1 ≤ j ∧ j - (k + 1) < t.length
      · rw [dif_pos hc, dif_pos ⟨by omega, by rw [List.length_cons]; omega⟩]
        have e : j - k = j - (k + 1) + 1 := by omega
        simp only [e, List.getElem_cons_succ]
      · rw [dif_neg hc, dif_neg]
        rw [List.length_cons]
        omega
theorem yl_clear {post : Int32 → SY → Prop} {e : Nat} {a0 q lf : Nat → Int32} (he : e < 4) : ∀ (m d n : Nat) (a : Nat → Int32), d + m = 128 → m < n → (∀ x, x < d → a (128 * e + x) = kd_b false) → (∀ j, (j < 128 * e ∨ 128 * e + 128 ≤ j) → a j = a0 j) → (∀ a', (∀ x, x < 128 → a' (128 * e + x) = kd_b false) → (∀ j, (j < 128 * e ∨ 128 * e + 128 ≤ j) → a' j = a0 j) → post 1 (a', q, lf)) → wY_clear_2 post (nI e) n (nI d) a q lf := by
  intro m
  induction m with
  | zero =>
    intro d n a hd hn h1 h2 hp
    obtain ⟨n, rfl⟩ : ∃ m, n = m + 1 := ⟨n - 1, by omega⟩
    refine br_t (nI_le (a := 128) (by omega) (by omega)) ?_
    refine ym_ex_t he ?_
    exact ⟨kd_nrw true, hp _ (fun x hx => h1 x (by omega)) h2⟩
  | succ m ih =>
    intro d n a hd hn h1 h2 hp
    obtain ⟨n, rfl⟩ : ∃ m, n = m + 1 := ⟨n - 1, by omega⟩
    refine br_f (nI_ge (b := 128) (by omega) (by decide)) ?_
    refine ym_ex_t he ?_
    refine br_f (by decide) ?_
    rw [kd_iy, nI_clamp (n := 128 * e + d) (by omega), kd_nar0]
    refine ⟨vp_in_nI (by omega) (by omega), nm_e (nm_r (nI_1 d) (ih (d + 1) n _ (by omega) (by omega) (fun x hx => ?_) (fun j hj => ?_) hp))⟩
    · by_cases h : x = d
      · rw [h, pk_us]
      · rw [pk_un (by omega)]
        exact h1 x (by omega)
    · rw [pk_un (by omega)]
      exact h2 j hj
