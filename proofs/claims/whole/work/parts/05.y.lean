/-! the reference's state: a table of yes and no for each expression -/
def kd_Yl (a : Nat → Int32) (e : Nat) (l : List Nat) : Prop := ∀ x, x < 128 → a (128 * e + x) = kd_b (decide (x ∈ l))
def kd_Y (E : Nat → List Nat) (a : Nat → Int32) : Prop := ∀ e, e < 4 → kd_Yl a e (E e)
/-- strictly rising, below 128 -/
def kd_S (l : List Nat) : Prop := l.Pairwise (· < ·) ∧ ∀ a ∈ l, a < 128
theorem kd_nar1 : vp_nar .boolean 1 = kd_b true := rfl
theorem kd_nar0 : vp_nar .boolean 0 = kd_b false := rfl
theorem ym_ex_t {post : Int32 → Prop} {a q lf : Nat → Int32} {e : Nat} (h : e < 4) (hp : post 1) : wpY_expression post (a, q, lf) (nI e) :=
  br_f (nI_pos (by omega)) (br_f (by
    have h3 : (3 : Int32) = nI 3 := rfl
    rw [h3, nI_ltI (by omega) (by omega)]
    omega) hp)
theorem ym_ex_f {post : Int32 → Prop} {a q lf : Nat → Int32} {x : Int32} (h : kd_bad 4 x) (hp : post 0) : wpY_expression post (a, q, lf) x := by
  rcases h with h | h
  · exact br_t h hp
  · exact br_c (fun _ => hp) (fun _ => br_t (Int32.lt_of_lt_of_le (show (3 : Int32) < nI 4 by decide) h) hp)
theorem ym_cu_t {post : Int32 → Prop} {a q lf : Nat → Int32} {e : Nat} (h : e < 128) (hp : post 1) : wpY_isCube post (a, q, lf) (nI e) :=
  br_f (nI_pos (by omega)) (br_f (by
    have h3 : (127 : Int32) = nI 127 := rfl
    rw [h3, nI_ltI (by omega) (by omega)]
    omega) hp)
theorem ym_cu_f {post : Int32 → Prop} {a q lf : Nat → Int32} {x : Int32} (h : kd_bad 128 x) (hp : post 0) : wpY_isCube post (a, q, lf) x := by
  rcases h with h | h
  · exact br_t h hp
  · exact br_c (fun _ => hp) (fun _ => br_t (Int32.lt_of_lt_of_le (show (127 : Int32) < nI 128 by decide) h) hp)
theorem yl_many {post : Int32 → Prop} {e : Nat} {p : Nat → Bool} {a q lf : Nat → Int32} (he : e < 4) (ha : ∀ x, x < 128 → a (128 * e + x) = kd_b (p x)) : ∀ (m d n k : Nat), d + m = 128 → m < n → post (nI (k + ((List.range' d m).filter p).length)) → wY_many_4 post (nI e) a q lf n (nI k) (nI d) := by
  intro m
  induction m with
  | zero =>
    intro d n k hd hn hp
    obtain ⟨n, rfl⟩ : ∃ m, n = m + 1 := ⟨n - 1, by omega⟩
    exact br_t (nI_le (a := 128) (by omega) (by omega)) hp
  | succ m ih =>
    intro d n k hd hn hp
    obtain ⟨n, rfl⟩ : ∃ m, n = m + 1 := ⟨n - 1, by omega⟩
    refine br_f (nI_ge (b := 128) (by omega) (by decide)) ?_
    rw [kd_iy, nI_clamp (by omega), ha d (by omega)]
    rw [List.range'_succ] at hp
    refine ⟨vp_in_nI (by omega) (by omega), kd_bb (fun h => ?_) (fun h => ?_)⟩
    · rw [List.filter_cons_of_neg (by rw [h]; decide)] at hp
      exact nm_r (nI_1 d) (ih (d + 1) n k (by omega) (by omega) hp)
    · rw [List.filter_cons_of_pos h, List.length_cons] at hp
      refine nm_r (nI_1 k) (nm_r (nI_1 d) (ih (d + 1) n (k + 1) (by omega) (by omega) ?_))
      rw [Nat.add_right_comm]
      exact hp
theorem ym_many {post : Int32 → Prop} {e : Nat} {l : List Nat} {a q lf : Nat → Int32} (he : e < 4) (ha : kd_Yl a e l) (hS : kd_S l) (hp : post (nI l.length)) : wpY_many post (a, q, lf) (nI e) := by
  refine ⟨129, yl_many he ha 128 0 129 0 rfl (by omega) ?_⟩
  rw [kd_sv hS.1 hS.2, Nat.zero_add]
  exact hp
theorem ym_qh {post : Int32 → Prop} {f c x : Nat} {l : List Nat} {a q lf : Nat → Int32} (hf : f < 4) (ha : kd_Yl a f l) (hc : c < 128) (hx : x < 128) (hp : post (kd_b (decide (x ∈ kd_q c l)))) : wpY_quotientHas post (a, q, lf) (nI f) (nI c) (nI x) := by
  unfold wpY_quotientHas
  dsimp only
  have ho := kd_o128 hx hc
  rw [nx_and, kd_or, kd_iy, nI_clamp (n := 128 * f + (x ||| c)) (by omega), ha _ ho, ← nI_0, nI_eq (Nat.lt_of_le_of_lt Nat.and_le_left (by omega)) (by omega), nI_0]
  by_cases h : x &&& c = 0
  · refine br_t h ⟨vp_in_nI (by omega) (by omega), ?_⟩
    have e : decide (x ∈ kd_q c l) = decide ((x ||| c) ∈ l) := by simp [kd_q_mem, h]
    rw [e] at hp
    refine kd_bb (fun h => ?_) (fun h => ?_)
    · rw [h] at hp
      exact hp
    · rw [h] at hp
      exact hp
  · refine br_f h ?_
    have e : decide (x ∈ kd_q c l) = false := by simp [kd_q_mem, h]
    rw [e] at hp
    exact hp
theorem yl_store {post : SY → Prop} {e : Nat} {r : Bool} {P : Nat → Bool} {a0 q lf : Nat → Int32} (he : e < 4) (hs : ∀ x, x < 128 → (if r = true then lf x else q x) = kd_b (P x)) : ∀ (m d n : Nat) (a : Nat → Int32), d + m = 128 → m < n → (∀ x, x < d → a (128 * e + x) = kd_b (P x)) → (∀ j, (j < 128 * e ∨ 128 * e + 128 ≤ j) → a j = a0 j) → (∀ a', (∀ x, x < 128 → a' (128 * e + x) = kd_b (P x)) → (∀ j, (j < 128 * e ∨ 128 * e + 128 ≤ j) → a' j = a0 j) → post (a', q, lf)) → wY_store_2 post (nI e) (kd_b r) n (nI d) a q lf := by
  intro m
  induction m with
  | zero =>
    intro d n a hd hn h1 h2 hp
    obtain ⟨n, rfl⟩ : ∃ m, n = m + 1 := ⟨n - 1, by omega⟩
    exact br_t (nI_le (a := 128) (by omega) (by omega)) (hp _ (fun x hx => h1 x (by omega)) h2)
  | succ m ih =>
    intro d n a hd hn h1 h2 hp
    obtain ⟨n, rfl⟩ : ∃ m, n = m + 1 := ⟨n - 1, by omega⟩
    refine br_f (nI_ge (b := 128) (by omega) (by decide)) ?_
    have hsd := hs d (by omega)
    rw [kd_iy, nI_clamp (n := 128 * e + d) (by omega), nI_clamp (n := d) (by omega)]
    have W : ∀ v : Int32, v = kd_b (P d) → (vp_in (nI d) 128 ∧ vp_in (nI (128 * e + d)) 512 ∧ ∀ a2, a2 = upd a (128 * e + d) (vp_nar .boolean v) → ∀ x3, x3 = nI d + 1 → wY_store_2 post (nI e) (kd_b r) n x3 a2 q lf) := by
      intro v hv
      rw [hv, kd_nar]
      refine ⟨vp_in_nI (by omega) (by omega), vp_in_nI (by omega) (by omega), nm_e (nm_r (nI_1 d) (ih (d + 1) n _ (by omega) (by omega) (fun x hx => ?_) (fun j hj => ?_) hp))⟩
      · by_cases h : x = d
        · rw [h, pk_us]
        · rw [pk_un (by omega)]
          exact h1 x (by omega)
      · rw [pk_un (by omega)]
        exact h2 j hj
    refine kd_bb (fun h => ?_) (fun h => ?_)
    · rw [h, if_neg (by decide)] at hsd
      exact W _ hsd
    · rw [h, if_pos rfl] at hsd
      exact W _ hsd
theorem ym_store {post : SY → Prop} {E : Nat → List Nat} {e : Nat} {r : Bool} {l : List Nat} {a q lf : Nat → Int32} (he : e < 4) (H : kd_Y E a) (hs : ∀ x, x < 128 → (if r = true then lf x else q x) = kd_b (decide (x ∈ l))) (hp : ∀ a', kd_Y (kd_U E e l) a' → post (a', q, lf)) : wpY_store post (a, q, lf) (nI e) (kd_b r) := by
  refine ⟨129, yl_store (a0 := a) he hs 128 0 129 a rfl (by omega) (fun x hx => by omega) (fun _ _ => rfl) fun a' h1 h2 => hp a' ?_⟩
  intro j hj
  by_cases h : j = e
  · subst h
    rw [kd_Us]
    exact h1
  · rw [kd_Un h]
    intro x hx
    rw [h2 _ (by omega)]
    exact H j hj x hx
theorem yl_divBy {post : Int32 → SY → Prop} {E : Nat → List Nat} {e f b : Nat} {a lf : Nat → Int32} (he : e < 4) (hf : f < 4) (hb : b < 128) (H : kd_Y E a) (hS : kd_S (E f)) : ∀ (m d n : Nat) (q : Nat → Int32), d + m = 128 → m < n → (∀ x, x < d → q x = kd_b (decide (x ∈ kd_q b (E f)))) → (∀ a' q', kd_Y (kd_U E e (kd_q b (E f))) a' → post (nI (kd_q b (E f)).length) (a', q', lf)) → wY_divideBy_29 post (nI e) (nI f) (nI b) n (nI d) a q lf := by
  intro m
  induction m with
  | zero =>
    intro d n q hd hn h1 hp
    obtain ⟨n, rfl⟩ : ∃ m, n = m + 1 := ⟨n - 1, by omega⟩
    refine br_t (nI_le (a := 128) (by omega) (by omega)) ?_
    refine ym_store (r := false) (l := kd_q b (E f)) he H (fun x hx => h1 x (by omega)) fun a' H' => ?_
    have Hl := H' e he
    rw [kd_Us] at Hl
    exact ym_many he Hl ⟨kd_q_S hb hS.1 hS.2, kd_q_128 hb hS.2⟩ (hp _ _ H')
  | succ m ih =>
    intro d n q hd hn h1 hp
    obtain ⟨n, rfl⟩ : ∃ m, n = m + 1 := ⟨n - 1, by omega⟩
    refine br_f (nI_ge (b := 128) (by omega) (by decide)) ?_
    refine ym_qh hf (H f hf) hb (by omega) ?_
    rw [nI_clamp (n := d) (by omega), kd_nar]
    refine ⟨vp_in_nI (by omega) (by omega), nm_e (nm_r (nI_1 d) (ih (d + 1) n _ (by omega) (by omega) (fun x hx => ?_) hp))⟩
    by_cases h : x = d
    · rw [h, pk_us]
    · rw [pk_un (by omega)]
      exact h1 x (by omega)
theorem yl_work132 {post : SY → Prop} {J : Int32 → (Nat → Int32) → (Nat → Int32) → (Nat → Int32) → Prop} {g d : Nat} {G : Bool} {Q : Nat → Bool} {a q : Nat → Int32} (hg : g < 4) (hd : d < 128) (hG : a (128 * g + d) = kd_b G) (hQ : ∀ x, x < 128 → q x = kd_b (Q x)) : ∀ (m y n : Nat) (R : Nat → Bool) (lf : Nat → Int32), y + m = 128 → m < n → (∀ x, x < 128 → lf x = kd_b (R x)) → (∀ l', (∀ x, x < 128 → l' x = kd_b (R x && !(List.range' y m).any fun y => G && Q y && decide (y ||| d = x))) → J (nI (d + 1)) a q l') → wY_work_132 post J (nI g) (nI d) n (nI y) a q lf := by
  intro m
  induction m with
  | zero =>
    intro y n R lf hy hn hl hp
    obtain ⟨n, rfl⟩ : ∃ m, n = m + 1 := ⟨n - 1, by omega⟩
    refine br_t (nI_le (a := 128) (by omega) (by omega)) (nm_r (nI_1 d) (hp _ fun x hx => ?_))
    rw [hl x hx, List.range'_zero, List.any_nil, Bool.not_false, Bool.and_true]
  | succ m ih =>
    intro y n R lf hy hn hl hp
    obtain ⟨n, rfl⟩ : ∃ m, n = m + 1 := ⟨n - 1, by omega⟩
    refine br_f (nI_ge (b := 128) (by omega) (by decide)) ?_
    have ho := kd_o128 (show y < 128 by omega) hd
    rw [kd_iy, nI_clamp (n := 128 * g + d) (by omega), nI_clamp (n := y) (by omega), kd_or, nI_clamp (n := y ||| d) (by omega), hG, hQ y (by omega), kd_nar0]
    simp only [List.range'_succ, List.any_cons] at hp
    refine ⟨vp_in_nI (by omega) (by omega), kd_bb (fun h => ?_) (fun h => ?_)⟩
    · refine nm_r (nI_1 y) (ih (y + 1) n R lf (by omega) (by omega) hl fun l' hl' => hp l' fun x hx => ?_)
      rw [hl' x hx]
      simp [h]
    · refine ⟨vp_in_nI (by omega) (by omega), kd_bb (fun h2 => ?_) (fun h2 => ?_)⟩
      · refine nm_r (nI_1 y) (ih (y + 1) n R lf (by omega) (by omega) hl fun l' hl' => hp l' fun x hx => ?_)
        rw [hl' x hx]
        simp [h2]
      · refine ⟨vp_in_nI (by omega) (by omega), nm_e (nm_r (nI_1 y) (ih (y + 1) n (fun x => R x && !decide (y ||| d = x)) _ (by omega) (by omega) (fun x hx => ?_) fun l' hl' => hp l' fun x hx => ?_))⟩
        · by_cases hxx : y ||| d = x
          · rw [← hxx, pk_us]
            simp
          · rw [pk_un (fun e => hxx e.symm), hl x hx]
            simp [hxx]
        · rw [hl' x hx]
          simp only [h, h2, Bool.true_and, Bool.not_or, Bool.and_assoc]
theorem yl_work122 {post : SY → Prop} {g : Nat} {G Q : Nat → Bool} {a q : Nat → Int32} (hg : g < 4) (hG : ∀ x, x < 128 → a (128 * g + x) = kd_b (G x)) (hQ : ∀ x, x < 128 → q x = kd_b (Q x)) : ∀ (m d n : Nat) (R : Nat → Bool) (lf : Nat → Int32), d + m = 128 → m < n → (∀ x, x < 128 → lf x = kd_b (R x)) → (∀ l', (∀ x, x < 128 → l' x = kd_b (R x && !(List.range' d m).any fun d => (List.range' 0 128).any fun y => G d && Q y && decide (y ||| d = x))) → post (a, q, l')) → wY_work_122 post (nI g) n (nI d) a q lf := by
  intro m
  induction m with
  | zero =>
    intro d n R lf hd hn hl hp
    obtain ⟨n, rfl⟩ : ∃ m, n = m + 1 := ⟨n - 1, by omega⟩
    refine br_t (nI_le (a := 128) (by omega) (by omega)) (hp _ fun x hx => ?_)
    rw [hl x hx, List.range'_zero, List.any_nil, Bool.not_false, Bool.and_true]
  | succ m ih =>
    intro d n R lf hd hn hl hp
    obtain ⟨n, rfl⟩ : ∃ m, n = m + 1 := ⟨n - 1, by omega⟩
    refine br_f (nI_ge (b := 128) (by omega) (by decide)) ⟨129, ?_⟩
    refine yl_work132 hg (by omega) (hG d (by omega)) hQ 128 0 129 R lf rfl (by omega) hl fun l' hl' => ?_
    refine ih (d + 1) n _ l' (by omega) (by omega) hl' fun l2 hl2 => hp l2 fun x hx => ?_
    have e : List.range' d (m + 1) = d :: List.range' (d + 1) m := rfl
    rw [hl2 x hx, e, List.any_cons, Bool.not_or, Bool.and_assoc]
theorem yl_work52 {post : SY → Prop} {J : Int32 → (Nat → Int32) → (Nat → Int32) → (Nat → Int32) → Prop} {f g d : Nat} {l : List Nat} {G : Bool} {P : Nat → Bool} {a lf : Nat → Int32} (hf : f < 4) (hg : g < 4) (hd : d < 128) (hl : kd_Yl a f l) (hG : a (128 * g + d) = kd_b G) : ∀ (m y n : Nat) (q : Nat → Int32), y + m = 128 → m < n → (∀ x, x < y → q x = kd_b (P x && (!G || decide (x ∈ kd_q d l)))) → (∀ x, y ≤ x → x < 128 → q x = kd_b (P x)) → (∀ q', (∀ x, x < 128 → q' x = kd_b (P x && (!G || decide (x ∈ kd_q d l)))) → J (nI (d + 1)) a q' lf) → wY_work_52 post J (nI f) (nI g) (nI d) n (nI y) a q lf := by
  intro m
  induction m with
  | zero =>
    intro y n q hy hn h1 h2 hp
    obtain ⟨n, rfl⟩ : ∃ m, n = m + 1 := ⟨n - 1, by omega⟩
    exact br_t (nI_le (a := 128) (by omega) (by omega)) (nm_r (nI_1 d) (hp _ fun x hx => h1 x (by omega)))
  | succ m ih =>
    intro y n q hy hn h1 h2 hp
    obtain ⟨n, rfl⟩ : ∃ m, n = m + 1 := ⟨n - 1, by omega⟩
    refine br_f (nI_ge (b := 128) (by omega) (by decide)) ?_
    have W : ∀ v : Bool, v = (P y && (!G || decide (y ∈ kd_q d l))) → (vp_in (nI y) 128 ∧ ∀ q2, q2 = upd q y (kd_b v) → ∀ x4, x4 = nI y + 1 → wY_work_52 post J (nI f) (nI g) (nI d) n x4 a q2 lf) := by
      intro v hv
      refine ⟨vp_in_nI (by omega) (by omega), nm_e (nm_r (nI_1 y) (ih (y + 1) n _ (by omega) (by omega) (fun x hx => ?_) (fun x hx hx' => ?_) hp))⟩
      · by_cases h : x = y
        · rw [h, pk_us, hv]
        · rw [pk_un (by omega)]
          exact h1 x (by omega)
      · rw [pk_un (by omega)]
        exact h2 x (by omega) hx'
    rw [kd_iy, nI_clamp (n := 128 * g + d) (by omega), nI_clamp (n := y) (by omega), hG, h2 y (by omega) (by omega), kd_nar0, kd_nar1]
    refine ⟨vp_in_nI (by omega) (by omega), kd_bb (fun h => ?_) (fun h => ?_)⟩
    · exact W _ (by rw [h, Bool.false_and])
    · refine ⟨vp_in_nI (by omega) (by omega), kd_bb (fun h3 => ?_) (fun h3 => ?_)⟩
      · exact W _ (by rw [h, h3]; rfl)
      · refine ym_qh hf hl hd (by omega) ?_
        refine kd_bb (fun h4 => ?_) (fun h4 => ?_)
        · exact W _ (by rw [h, h3, h4]; rfl)
        · exact W _ (by rw [h, h3, h4]; rfl)
theorem yl_work42 {post : SY → Prop} {f g : Nat} {l : List Nat} {G : Nat → Bool} {a lf : Nat → Int32} (hf : f < 4) (hg : g < 4) (hl : kd_Yl a f l) (hG : ∀ x, x < 128 → a (128 * g + x) = kd_b (G x)) : ∀ (m d n : Nat) (P : Nat → Bool) (q : Nat → Int32), d + m = 128 → m < n → (∀ x, x < 128 → q x = kd_b (P x)) → (∀ q', (∀ x, x < 128 → q' x = kd_b (P x && (List.range' d m).all fun c => !G c || decide (x ∈ kd_q c l))) → ∃ n122, wY_work_122 post (nI g) n122 0 a q' lf) → wY_work_42 post (nI f) (nI g) n (nI d) a q lf := by
  intro m
  induction m with
  | zero =>
    intro d n P q hd hn hq hp
    obtain ⟨n, rfl⟩ : ∃ m, n = m + 1 := ⟨n - 1, by omega⟩
    refine br_t (nI_le (a := 128) (by omega) (by omega)) (hp _ fun x hx => ?_)
    rw [hq x hx, List.range'_zero, List.all_nil, Bool.and_true]
  | succ m ih =>
    intro d n P q hd hn hq hp
    obtain ⟨n, rfl⟩ : ∃ m, n = m + 1 := ⟨n - 1, by omega⟩
    refine br_f (nI_ge (b := 128) (by omega) (by decide)) ⟨129, ?_⟩
    refine yl_work52 (P := P) hf hg (by omega) hl (hG d (by omega)) 128 0 129 q rfl (by omega) (fun x hx => by omega) (fun x _ hx => hq x hx) fun q' hq' => ?_
    refine ih (d + 1) n _ q' (by omega) (by omega) hq' fun q2 hq2 => hp q2 fun x hx => ?_
    rw [hq2 x hx, List.range'_succ, List.all_cons, Bool.and_assoc]
theorem yl_work2 {post : SY → Prop} {f g : Nat} {l : List Nat} {a : Nat → Int32} (hf : f < 4) (hl : kd_Yl a f l) : ∀ (m d n : Nat) (q lf : Nat → Int32), d + m = 128 → m < n → (∀ x, x < d → q x = kd_b true) → (∀ x, x < d → lf x = kd_b (decide (x ∈ l))) → (∀ q' l', (∀ x, x < 128 → q' x = kd_b true) → (∀ x, x < 128 → l' x = kd_b (decide (x ∈ l))) → ∃ n42, wY_work_42 post (nI f) (nI g) n42 0 a q' l') → wY_work_2 post (nI f) (nI g) n (nI d) a q lf := by
  intro m
  induction m with
  | zero =>
    intro d n q lf hd hn h1 h2 hp
    obtain ⟨n, rfl⟩ : ∃ m, n = m + 1 := ⟨n - 1, by omega⟩
    exact br_t (nI_le (a := 128) (by omega) (by omega)) (hp _ _ (fun x hx => h1 x (by omega)) (fun x hx => h2 x (by omega)))
  | succ m ih =>
    intro d n q lf hd hn h1 h2 hp
    obtain ⟨n, rfl⟩ : ∃ m, n = m + 1 := ⟨n - 1, by omega⟩
    refine br_f (nI_ge (b := 128) (by omega) (by decide)) ?_
    rw [kd_iy, nI_clamp (n := 128 * f + d) (by omega), nI_clamp (n := d) (by omega), hl d (by omega), kd_nar, kd_nar1]
    refine ⟨vp_in_nI (by omega) (by omega), nm_e ⟨vp_in_nI (by omega) (by omega), vp_in_nI (by omega) (by omega), nm_e (nm_r (nI_1 d) (ih (d + 1) n _ _ (by omega) (by omega) (fun x hx => ?_) (fun x hx => ?_) hp))⟩⟩
    · by_cases h : x = d
      · rw [h, pk_us]
      · rw [pk_un (by omega)]
        exact h1 x (by omega)
    · by_cases h : x = d
      · rw [h, pk_us]
      · rw [pk_un (by omega)]
        exact h2 x (by omega)

theorem kd_Q_mem {d x : Nat} {tg f : List Nat} : x ∈ kd_Q d (d :: tg) f f ↔ ∀ c ∈ d :: tg, x ∈ kd_q c f := by
  have hi : ∀ y, kd_inq y f (d :: tg) = true ↔ ∀ c ∈ d :: tg, y ∈ kd_q c f := by
    intro y
    rw [kd_inq, List.all_eq_true]
    simp only [Bool.and_eq_true, decide_eq_true_eq, kd_q_mem]
  simp only [kd_Q, List.mem_map, List.mem_filter, Bool.and_eq_true, decide_eq_true_eq]
  constructor
  · rintro ⟨w, ⟨_, _, h⟩, rfl⟩
    exact (hi _).mp h
  · intro h
    have h0 := kd_q_mem.mp (h d (by simp))
    have hb := kd_bits h0.1
    exact ⟨x ||| d, ⟨h0.2, hb.1, by rw [hb.2]; exact (hi x).mpr h⟩, hb.2⟩
theorem kd_Q_S {d : Nat} {g f : List Nat} (hd : d < 128) (hf : kd_S f) : kd_S (kd_Q d g f f) := by
  constructor
  · apply kd_mapS hd
    · exact List.Pairwise.filter _ hf.1
    · intro a hm
      rw [List.mem_filter, Bool.and_eq_true, decide_eq_true_eq] at hm
      exact ⟨hf.2 a hm.1, hm.2.1⟩
  · intro a hm
    simp only [kd_Q, List.mem_map, List.mem_filter] at hm
    obtain ⟨w, ⟨h1, _⟩, rfl⟩ := hm
    exact kd_x128 (hf.2 w h1) hd
theorem kd_R_S {q g f : List Nat} (hf : kd_S f) : kd_S (kd_R q g f) :=
  ⟨List.Pairwise.filter _ hf.1, fun a hm => hf.2 a (List.mem_filter.mp hm).1⟩
theorem kd_wq {d x : Nat} {tg f : List Nat} (hg : ∀ a ∈ d :: tg, a < 128) : (true && (List.range' 0 128).all fun c => !decide (c ∈ d :: tg) || decide (x ∈ kd_q c f)) = decide (x ∈ kd_Q d (d :: tg) f f) := by
  rw [Bool.true_and, Bool.eq_iff_iff, decide_eq_true_eq, kd_Q_mem, List.all_eq_true]
  constructor
  · intro h c hc
    have := h c ((kd_r128 c).mpr (hg c hc))
    rw [decide_eq_true hc, Bool.not_true, Bool.false_or, decide_eq_true_eq] at this
    exact this
  · intro h c hc
    by_cases hm : c ∈ d :: tg
    · rw [decide_eq_true (h c hm), Bool.or_true]
    · rw [decide_eq_false hm]
      rfl
theorem kd_wr {x : Nat} {q g f : List Nat} (hq : ∀ a ∈ q, a < 128) (hg : ∀ a ∈ g, a < 128) : (decide (x ∈ f) && !(List.range' 0 128).any fun d => (List.range' 0 128).any fun y => decide (d ∈ g) && decide (y ∈ q) && decide (y ||| d = x)) = decide (x ∈ kd_R q g f) := by
  have e : ((List.range' 0 128).any fun d => (List.range' 0 128).any fun y => decide (d ∈ g) && decide (y ∈ q) && decide (y ||| d = x)) = kd_jn x q g := by
    rw [Bool.eq_iff_iff]
    simp only [kd_jn, List.any_eq_true, Bool.and_eq_true, decide_eq_true_eq]
    constructor
    · rintro ⟨d, _, y, _, ⟨h1, h2⟩, h3⟩
      exact ⟨y, h2, d, h1, h3⟩
    · rintro ⟨y, h2, d, h1, h3⟩
      exact ⟨d, (kd_r128 d).mpr (hg d h1), y, (kd_r128 y).mpr (hq y h2), ⟨h1, h2⟩, h3⟩
  rw [e, kd_R, Bool.eq_iff_iff]
  simp only [Bool.and_eq_true, decide_eq_true_eq, List.mem_filter]
theorem ym_work {post : SY → Prop} {E : Nat → List Nat} {f g d : Nat} {tg : List Nat} {a q lf : Nat → Int32} (hf : f < 4) (hg : g < 4) (H : kd_Y E a) (hSf : kd_S (E f)) (hSg : kd_S (E g)) (hd : E g = d :: tg) (hp : ∀ q' l', (∀ x, x < 128 → q' x = kd_b (decide (x ∈ kd_Q d (E g) (E f) (E f)))) → (∀ x, x < 128 → l' x = kd_b (decide (x ∈ kd_R (kd_Q d (E g) (E f) (E f)) (E g) (E f)))) → post (a, q', l')) : wpY_work post (a, q, lf) (nI f) (nI g) := by
  have hd8 : d < 128 := hSg.2 d (by rw [hd]; simp)
  refine ⟨129, yl_work2 hf (H f hf) 128 0 129 q lf rfl (by omega) (fun x hx => by omega) (fun x hx => by omega) fun q1 l1 hq1 hl1 => ⟨129, ?_⟩⟩
  refine yl_work42 hf hg (H f hf) (H g hg) 128 0 129 (fun _ => true) q1 rfl (by omega) hq1 fun q2 hq2 => ⟨129, ?_⟩
  have hq3 : ∀ x, x < 128 → q2 x = kd_b (decide (x ∈ kd_Q d (E g) (E f) (E f))) := by
    intro x hx
    rw [hq2 x hx, hd]
    exact congrArg kd_b (kd_wq (by rw [← hd]; exact hSg.2))
  refine yl_work122 hg (H g hg) hq3 128 0 129 _ l1 rfl (by omega) hl1 fun l2 hl2 => hp q2 l2 hq3 fun x hx => ?_
  rw [hl2 x hx]
  exact congrArg kd_b (kd_wr (kd_Q_S hd8 hSf).2 hSg.2)
theorem ym_div {post : Int32 → Prop} {E : Nat → List Nat} {f g : Nat} {a q lf : Nat → Int32} (hf : f < 4) (hg : g < 4) (H : kd_Y E a) (hSg : kd_S (E g)) (hl : (E g).length ≤ 8) (hp : post (kd_b (decide (E g ≠ [])))) : wpY_divides post (a, q, lf) (nI f) (nI g) := by
  unfold wpY_divides
  dsimp only
  refine ym_ex_t hf ?_
  refine br_f (by decide) ?_
  refine ym_ex_t hg ?_
  refine br_f (by decide) ?_
  refine ym_many hg (H g hg) hSg ?_
  by_cases h : E g = []
  · rw [h] at hp ⊢
    exact br_t (by decide) hp
  · have e : decide (E g ≠ []) = true := by simp [h]
    rw [e] at hp
    exact br_f (nI_nle (List.length_pos_iff.mpr h) (by omega)) hp
theorem ym_div_f {post : Int32 → Prop} {a q lf : Nat → Int32} {x y : Int32} (h : kd_bad 4 x ∨ kd_bad 4 y) (hp : post 0) : wpY_divides post (a, q, lf) x y := by
  unfold wpY_divides
  dsimp only
  rcases kd_cas 4 (by decide) x with hx | ⟨j, hj, rfl⟩
  · refine ym_ex_f hx ?_
    exact br_t rfl hp
  · rcases h with h | h
    · refine ym_ex_f h ?_
      exact br_t rfl hp
    · refine ym_ex_t hj ?_
      refine br_f (by decide) ?_
      refine ym_ex_f h ?_
      exact br_t rfl hp
