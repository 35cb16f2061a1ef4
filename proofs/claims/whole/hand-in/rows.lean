section
theorem pk_us {f : Nat → Int32} {k : Nat} {x : Int32} : upd f k x k = x := if_pos rfl
theorem pk_un {f : Nat → Int32} {k j : Nat} {x : Int32} (h : j ≠ k) : upd f k x j = f j := if_neg h
theorem pk_sub {a b : Nat} (h : b ≤ a) : nI a - nI b = nI (a - b) := by
  obtain ⟨c, rfl⟩ : ∃ c, a = c + b := ⟨a - b, by omega⟩
  rw [← nI_add, Int32.add_sub_cancel, Nat.add_sub_cancel]
theorem pk_m1 (n : Nat) : nI (n + 1) + (-1) = nI n := by
  rw [← nI_1, Int32.add_assoc, show (1 : Int32) + (-1) = 0 from rfl, Int32.add_zero]
theorem pk_mul (a b : Nat) : nI a * nI b = nI (a * b) := (Int32.ofNat_mul a b).symm
theorem pk_ix (x : Int32) {n : Nat} (hn : n < 2 ^ 31) : x < 0 ∨ nI n ≤ x ∨ ∃ j : Nat, j < n ∧ x = nI j := by
  by_cases h : x < 0
  · exact Or.inl h
  · obtain ⟨j, hj, rfl⟩ := nI_of h
    by_cases h2 : j < n
    · exact Or.inr (Or.inr ⟨j, h2, rfl⟩)
    · exact Or.inr (Or.inl (nI_le (by omega) hj))
theorem nx_and (a b : Nat) : nI a &&& nI b = nI (a &&& b) := by
  apply Int32.toBitVec_inj.1
  show BitVec.ofNat 32 a &&& BitVec.ofNat 32 b = BitVec.ofNat 32 (a &&& b)
  apply BitVec.eq_of_getLsbD_eq
  intro i hi
  simp [hi]
theorem nx_xor (a b : Nat) : nI a ^^^ nI b = nI (a ^^^ b) := by
  apply Int32.toBitVec_inj.1
  show BitVec.ofNat 32 a ^^^ BitVec.ofNat 32 b = BitVec.ofNat 32 (a ^^^ b)
  apply BitVec.eq_of_getLsbD_eq
  intro i hi
  simp [hi]
theorem kd_or (a b : Nat) : nI a ||| nI b = nI (a ||| b) := by
  apply Int32.toBitVec_inj.1
  show BitVec.ofNat 32 a ||| BitVec.ofNat 32 b = BitVec.ofNat 32 (a ||| b)
  apply BitVec.eq_of_getLsbD_eq
  intro i hi
  simp [hi]
/-- taking the letters of d out of w -/
theorem kd_out {w d : Nat} (h : w &&& d = d) : nI w &&& (nI d ^^^ (-1)) = nI (w ^^^ d) := by
  apply Int32.toBitVec_inj.1
  show BitVec.ofNat 32 w &&& (BitVec.ofNat 32 d ^^^ (-1 : Int32).toBitVec) = BitVec.ofNat 32 (w ^^^ d)
  have e : (-1 : Int32).toBitVec = BitVec.allOnes 32 := by decide
  rw [e]
  apply BitVec.eq_of_getLsbD_eq
  intro i hi
  have hb : (w.testBit i && d.testBit i) = d.testBit i := by rw [← Nat.testBit_and, h]
  simp only [BitVec.getLsbD_and, BitVec.getLsbD_xor, BitVec.getLsbD_ofNat, BitVec.getLsbD_allOnes, hi, decide_true, Bool.true_and, Nat.testBit_xor]
  revert hb
  cases w.testBit i <;> cases d.testBit i <;> simp
theorem kd_in {w d : Nat} (hd : d < 2 ^ 31) (hw : w < 2 ^ 31) : (nI d &&& (nI w ^^^ (-1))) = 0 ↔ w &&& d = d := by
  have e : nI d &&& (nI w ^^^ (-1)) = nI (d ^^^ (w &&& d)) := by
    apply Int32.toBitVec_inj.1
    show BitVec.ofNat 32 d &&& (BitVec.ofNat 32 w ^^^ (-1 : Int32).toBitVec) = BitVec.ofNat 32 (d ^^^ (w &&& d))
    have e : (-1 : Int32).toBitVec = BitVec.allOnes 32 := by decide
    rw [e]
    apply BitVec.eq_of_getLsbD_eq
    intro i hi
    simp only [BitVec.getLsbD_and, BitVec.getLsbD_xor, BitVec.getLsbD_ofNat, BitVec.getLsbD_allOnes, hi, decide_true, Bool.true_and, Nat.testBit_xor, Nat.testBit_and]
    cases w.testBit i <;> cases d.testBit i <;> simp
  have hx : d ^^^ (w &&& d) < 2 ^ 31 := Nat.xor_lt_two_pow hd (Nat.and_lt_two_pow _ hd)
  rw [e, ← nI_0, nI_eq hx (by decide)]
  constructor
  · intro h
    apply Nat.eq_of_testBit_eq
    intro i
    have hi : (d ^^^ (w &&& d)).testBit i = false := by rw [h, Nat.zero_testBit]
    rw [Nat.testBit_xor] at hi
    revert hi
    cases d.testBit i <;> cases (w &&& d).testBit i <;> simp
  · intro h
    rw [h, Nat.xor_self]
def kd_b (b : Bool) : Int32 := if b then 1 else 0
theorem kd_bt : kd_b true = 1 := rfl
theorem kd_bf : kd_b false = 0 := rfl
theorem kd_bz (b : Bool) : kd_b b = 0 ↔ b = false := by cases b <;> decide
theorem kd_bi (a b : Bool) : kd_b a = kd_b b ↔ a = b := by cases a <;> cases b <;> decide
theorem kd_nar (b : Bool) : vp_nar .boolean (kd_b b) = kd_b b := by cases b <;> rfl
theorem kd_nrw (b : Bool) : narrow .boolean (.int (kd_b b)) = .int (kd_b b) := by cases b <;> rfl
theorem kd_bb {b : Bool} {A B : Prop} (f : b = false → A) (g : b = true → B) : (kd_b b = 0 → A) ∧ (¬ kd_b b = 0 → B) := by
  rw [kd_bz]
  exact ⟨f, fun h => g (by cases b <;> simp_all)⟩
theorem kd_ix (s i : Nat) : nI s * 8 + nI i = nI (8 * s + i) := by
  show nI s * nI 8 + nI i = _
  rw [pk_mul, nI_add, Nat.mul_comm]
theorem kd_iy (s i : Nat) : 128 * nI s + nI i = nI (128 * s + i) := by
  show nI 128 * nI s + nI i = _
  rw [pk_mul, nI_add]
def kd_bad (n : Nat) (x : Int32) : Prop := x < 0 ∨ nI n ≤ x
theorem kd_cas (n : Nat) (hn : n < 2 ^ 31) (x : Int32) : kd_bad n x ∨ ∃ j : Nat, j < n ∧ x = nI j := by
  rcases pk_ix x hn with h | h | h
  · exact Or.inl (Or.inl h)
  · exact Or.inl (Or.inr h)
  · exact Or.inr h
theorem kd_bad_ne {n : Nat} {x : Int32} (hn : n < 2 ^ 31) (h : kd_bad n x) {j : Nat} (hj : j < n) : ¬ nI j = x := by
  intro e
  subst e
  rcases h with h | h
  · exact nI_pos (by omega) h
  · exact nI_ge hj hn h
/-! lists -/
theorem kd_ext : ∀ (l l' : List Nat), l.Pairwise (· < ·) → l'.Pairwise (· < ·) → (∀ x, x ∈ l ↔ x ∈ l') → l = l'
  | [], [], _, _, _ => rfl
  | [], b :: t, _, _, h => absurd ((h b).mpr (by simp)) (by simp)
  | a :: t, [], _, _, h => absurd ((h a).mp (by simp)) (by simp)
  | a :: t, b :: t', h1, h2, h => by
    rw [List.pairwise_cons] at h1 h2
    have e : a = b := by
      have ha := (h a).mp (by simp)
      have hb := (h b).mpr (by simp)
      rcases List.mem_cons.mp ha with ha | ha
      · exact ha
      · rcases List.mem_cons.mp hb with hb | hb
        · exact hb.symm
        · have := h1.1 _ hb
          have := h2.1 _ ha
          omega
    subst e
    refine congrArg (a :: ·) (kd_ext t t' h1.2 h2.2 fun x => ?_)
    constructor
    · intro hx
      have := h1.1 _ hx
      rcases List.mem_cons.mp ((h x).mp (List.mem_cons_of_mem _ hx)) with hh | hh
      · omega
      · exact hh
    · intro hx
      have := h2.1 _ hx
      rcases List.mem_cons.mp ((h x).mpr (List.mem_cons_of_mem _ hx)) with hh | hh
      · omega
      · exact hh
theorem kd_r128 (x : Nat) : x ∈ List.range' 0 128 ↔ x < 128 := by
  rw [List.mem_range'_1]
  omega
/-- a strictly rising list below 128 is the range 0 .. 127, sieved -/
theorem kd_sv {l : List Nat} (h : l.Pairwise (· < ·)) (hl : ∀ a ∈ l, a < 128) : (List.range' 0 128).filter (fun x => decide (x ∈ l)) = l := by
  apply kd_ext
  · exact List.Pairwise.filter _ List.pairwise_lt_range'
  · exact h
  · intro x
    rw [List.mem_filter, kd_r128, decide_eq_true_eq]
    exact ⟨fun a => a.2, fun a => ⟨hl x a, a⟩⟩
theorem kd_fold {α : Type} (f : α → Nat → α) (p : Nat → Bool) : ∀ (l : List Nat) (a : α), l.foldl (fun a x => if p x = true then f a x else a) a = (l.filter p).foldl f a
  | [], a => rfl
  | x :: t, a => by
    by_cases h : p x = true
    · rw [List.filter_cons_of_pos h, List.foldl_cons, List.foldl_cons, if_pos h]
      exact kd_fold f p t _
    · rw [List.filter_cons_of_neg h, List.foldl_cons, if_neg h]
      exact kd_fold f p t _
/-- the quotient by a cube, as a list -/
def kd_q (c : Nat) (l : List Nat) : List Nat := (l.filter (fun w => decide (w &&& c = c))).map (fun w => w ^^^ c)
theorem kd_q_nil (c : Nat) : kd_q c [] = [] := rfl
theorem kd_q_t {c a : Nat} {t : List Nat} (h : a &&& c = c) : kd_q c (a :: t) = (a ^^^ c) :: kd_q c t := by
  simp [kd_q, List.filter_cons, h]
theorem kd_q_f {c a : Nat} {t : List Nat} (h : ¬ a &&& c = c) : kd_q c (a :: t) = kd_q c t := by
  simp [kd_q, List.filter_cons, h]
theorem kd_q_len (c : Nat) (l : List Nat) : (kd_q c l).length ≤ l.length := by
  rw [kd_q, List.length_map]
  exact List.length_filter_le _ _
theorem kd_bits {x c : Nat} (h : x &&& c = 0) : (x ||| c) &&& c = c ∧ (x ||| c) ^^^ c = x := by
  constructor
  · apply Nat.eq_of_testBit_eq
    intro i
    simp only [Nat.testBit_and, Nat.testBit_or]
    cases x.testBit i <;> cases c.testBit i <;> rfl
  · apply Nat.eq_of_testBit_eq
    intro i
    have hi : (x.testBit i && c.testBit i) = false := by rw [← Nat.testBit_and, h, Nat.zero_testBit]
    simp only [Nat.testBit_xor, Nat.testBit_or]
    revert hi
    cases x.testBit i <;> cases c.testBit i <;> simp
theorem kd_bits' {w c : Nat} (h : w &&& c = c) : (w ^^^ c) &&& c = 0 ∧ (w ^^^ c) ||| c = w := by
  have hb : ∀ i, (w.testBit i && c.testBit i) = c.testBit i := fun i => by rw [← Nat.testBit_and, h]
  constructor
  · apply Nat.eq_of_testBit_eq
    intro i
    have := hb i
    simp only [Nat.testBit_and, Nat.testBit_xor, Nat.zero_testBit]
    revert this
    cases w.testBit i <;> cases c.testBit i <;> simp
  · apply Nat.eq_of_testBit_eq
    intro i
    have := hb i
    simp only [Nat.testBit_or, Nat.testBit_xor]
    revert this
    cases w.testBit i <;> cases c.testBit i <;> simp
theorem kd_q_mem {c x : Nat} {l : List Nat} : x ∈ kd_q c l ↔ x &&& c = 0 ∧ (x ||| c) ∈ l := by
  simp only [kd_q, List.mem_map, List.mem_filter, decide_eq_true_eq]
  constructor
  · rintro ⟨w, ⟨h1, h2⟩, rfl⟩
    have := kd_bits' h2
    exact ⟨this.1, by rw [this.2]; exact h1⟩
  · rintro ⟨h1, h2⟩
    exact ⟨x ||| c, ⟨h2, (kd_bits h1).1⟩, (kd_bits h1).2⟩
theorem kd_tab : ((List.range 128).all fun w => (List.range 128).all fun c => !(Nat.beq (w &&& c) c) || Nat.beq ((w ^^^ c) + c) w) = true := by decide +kernel
theorem kd_less {w c : Nat} (hw : w < 128) (hc : c < 128) (h : w &&& c = c) : (w ^^^ c) + c = w := by
  have a := List.all_eq_true.mp kd_tab w (List.mem_range.mpr hw)
  have b := List.all_eq_true.mp a c (List.mem_range.mpr hc)
  rw [h] at b
  simpa using b
theorem kd_x128 {a b : Nat} (ha : a < 128) (hb : b < 128) : a ^^^ b < 128 := Nat.xor_lt_two_pow (n := 7) ha hb
theorem kd_o128 {a b : Nat} (ha : a < 128) (hb : b < 128) : a ||| b < 128 := Nat.or_lt_two_pow (n := 7) ha hb
/-- taking out of a sieved rising list the same letters leaves it rising -/
theorem kd_mapS {c : Nat} (hc : c < 128) : ∀ (l : List Nat), l.Pairwise (· < ·) → (∀ a ∈ l, a < 128 ∧ a &&& c = c) → (l.map (fun w => w ^^^ c)).Pairwise (· < ·) := by
  intro l h ha
  rw [List.pairwise_map]
  refine List.Pairwise.imp_of_mem (fun {a b} h1 h2 hab => ?_) h
  have e1 := kd_less (ha a h1).1 hc (ha a h1).2
  have e2 := kd_less (ha b h2).1 hc (ha b h2).2
  omega
theorem kd_q_S {c : Nat} {l : List Nat} (hc : c < 128) (h : l.Pairwise (· < ·)) (ha : ∀ a ∈ l, a < 128) : (kd_q c l).Pairwise (· < ·) := by
  apply kd_mapS hc
  · exact List.Pairwise.filter _ h
  · intro a hm
    rw [List.mem_filter, decide_eq_true_eq] at hm
    exact ⟨ha a hm.1, hm.2⟩
theorem kd_q_128 {c : Nat} {l : List Nat} (hc : c < 128) (ha : ∀ a ∈ l, a < 128) : ∀ a ∈ kd_q c l, a < 128 := by
  intro a hm
  simp only [kd_q, List.mem_map, List.mem_filter] at hm
  obtain ⟨w, ⟨h1, _⟩, rfl⟩ := hm
  exact kd_x128 (ha w h1) hc
end
section
/-! the component's state as six lists -/
def kd_At (f : Nat → Int32) : Nat → List Nat → Prop
  | _, [] => True
  | k, a :: t => f k = nI a ∧ kd_At f (k + 1) t
theorem kd_At_mp {f g : Nat → Int32} : ∀ (l : List Nat) (k k' : Nat), kd_At f k l → (∀ i, i < l.length → g (k' + i) = f (k + i)) → kd_At g k' l
  | [], _, _, _, _ => trivial
  | a :: t, k, k', h, e => by
    refine ⟨?_, kd_At_mp t (k + 1) (k' + 1) h.2 fun i hi => ?_⟩
    · have := e 0 (by simp)
      rw [Nat.add_zero, Nat.add_zero] at this
      rw [this]
      exact h.1
    · have := e (i + 1) (by simp; omega)
      rw [show k' + 1 + i = k' + (i + 1) by omega, show k + 1 + i = k + (i + 1) by omega]
      exact this
theorem kd_At_app {f : Nat → Int32} : ∀ (l t : List Nat) (k : Nat), kd_At f k (l ++ t) ↔ kd_At f k l ∧ kd_At f (k + l.length) t
  | [], t, k => by simp [kd_At]
  | a :: l, t, k => by
    have := kd_At_app (f := f) l t (k + 1)
    simp only [List.cons_append, kd_At, List.length_cons]
    rw [this, show k + (l.length + 1) = k + 1 + l.length by omega]
    exact and_assoc.symm
theorem kd_At_get {f : Nat → Int32} : ∀ (l : List Nat) (k i : Nat), kd_At f k l → (h : i < l.length) → f (k + i) = nI l[i]
  | a :: t, k, 0, h, _ => h.1
  | a :: t, k, i + 1, h, hi => by
    have := kd_At_get t (k + 1) i h.2 (by simpa using hi)
    rw [show k + (i + 1) = k + 1 + i by omega, this]
    rfl
def kd_X (L : Nat → List Nat) (c z : Nat → Int32) : Prop := ∀ s, s < 6 → z s = nI (L s).length ∧ (L s).length ≤ 8 ∧ (∀ a ∈ L s, a < 128) ∧ kd_At c (8 * s) (L s)
def kd_U (L : Nat → List Nat) (s : Nat) (l : List Nat) : Nat → List Nat := fun j => if j = s then l else L j
theorem kd_Us {L : Nat → List Nat} {s : Nat} {l : List Nat} : kd_U L s l s = l := if_pos rfl
theorem kd_Un {L : Nat → List Nat} {s j : Nat} {l : List Nat} (h : j ≠ s) : kd_U L s l j = L j := if_neg h
theorem kd_UU {L : Nat → List Nat} {s : Nat} {l l' : List Nat} : kd_U (kd_U L s l) s l' = kd_U L s l' := by
  funext j
  simp only [kd_U]
  by_cases h : j = s <;> simp [h]
theorem kd_UI {L : Nat → List Nat} {s : Nat} : kd_U L s (L s) = L := by
  funext j
  simp only [kd_U]
  by_cases h : j = s <;> simp [h]
/-- the size of slot s as the walks read it -/
theorem kd_zs {L : Nat → List Nat} {c z : Nat → Int32} {s : Nat} (H : kd_X L c z) (hs : s < 6) : z (nI s).toNatClampNeg = nI (L s).length := by
  rw [nI_clamp (by omega)]
  exact (H s hs).1
theorem xm_isE_t {post : Int32 → Prop} {e : Nat} (h : e < 4) (hp : post 1) : wpX_isExpression post (nI e) :=
  br_f (nI_pos (by omega)) (br_f (nI_ge (b := 4) h (by decide)) hp)
theorem xm_isE_f {post : Int32 → Prop} {x : Int32} (h : kd_bad 4 x) (hp : post 0) : wpX_isExpression post x := by
  rcases h with h | h
  · exact br_t h hp
  · exact br_c (fun _ => hp) (fun _ => br_t h hp)
theorem xm_isC_t {post : Int32 → Prop} {e : Nat} (h : e < 128) (hp : post 1) : wpX_isCube post (nI e) :=
  br_f (nI_pos (by omega)) (br_f (nI_ge (b := 128) h (by decide)) hp)
theorem xm_isC_f {post : Int32 → Prop} {x : Int32} (h : kd_bad 128 x) (hp : post 0) : wpX_isCube post x := by
  rcases h with h | h
  · exact br_t h hp
  · exact br_c (fun _ => hp) (fun _ => br_t h hp)
theorem xl_contains {post : Int32 → Prop} {s len : Nat} {x : Int32} {c z : Nat → Int32} (hs : s < 6) (hl : len ≤ 8) : ∀ (t : List Nat) (i n : Nat), i + t.length = len → kd_At c (8 * s + i) t → t.length < n → post (kd_b (t.any fun a => decide (nI a = x))) → wX_contains_10 post (nI s) x (nI len) c z n (nI i) := by
  intro t
  induction t with
  | nil =>
    intro i n hi ha hn hp
    obtain ⟨n, rfl⟩ : ∃ m, n = m + 1 := ⟨n - 1, by omega⟩
    rw [List.length_nil] at hi
    exact br_t (nI_le (by omega) (by omega)) hp
  | cons a t ih =>
    intro i n hi ha hn hp
    obtain ⟨n, rfl⟩ : ∃ m, n = m + 1 := ⟨n - 1, by omega⟩
    rw [List.length_cons] at hi hn
    refine br_f (nI_ge (by omega) (by omega)) ?_
    rw [kd_ix, nI_clamp (by omega), ha.1]
    refine ⟨vp_in_nI (by omega) (by omega), ?_⟩
    by_cases h : nI a = x
    · refine br_t h ?_
      rw [List.any_cons, decide_eq_true h, Bool.true_or] at hp
      exact hp
    · refine br_f h (nm_r (nI_1 i) (ih (i + 1) n (by omega) ha.2 (by omega) ?_))
      rw [List.any_cons, decide_eq_false h, Bool.false_or] at hp
      exact hp
theorem xm_contains {post : Int32 → Prop} {L : Nat → List Nat} {c z : Nat → Int32} {s : Nat} {x : Int32} (H : kd_X L c z) (hs : s < 6) (hp : post (kd_b ((L s).any fun a => decide (nI a = x)))) : wpX_contains post (c, z) (nI s) x := by
  obtain ⟨h1, h2, h3, h4⟩ := H s hs
  exact ⟨vp_in_nI hs (by omega), nm_r (kd_zs H hs) ⟨(L s).length + 1, xl_contains hs h2 (L s) 0 _ (by omega) h4 (by omega) hp⟩⟩
theorem kd_any {l : List Nat} {b : Nat} (hl : ∀ a ∈ l, a < 128) (hb : b < 128) : (l.any fun a => decide (nI a = nI b)) = decide (b ∈ l) := by
  rw [Bool.eq_iff_iff, List.any_eq_true, decide_eq_true_eq]
  constructor
  · rintro ⟨a, ha, e⟩
    rw [decide_eq_true_eq, nI_eq (by have := hl a ha; omega) (by omega)] at e
    rw [← e]
    exact ha
  · intro h
    exact ⟨b, h, by simp⟩
theorem xm_containsN {post : Int32 → Prop} {L : Nat → List Nat} {c z : Nat → Int32} {s b : Nat} (H : kd_X L c z) (hs : s < 6) (hb : b < 128) (hp : post (kd_b (decide (b ∈ L s)))) : wpX_contains post (c, z) (nI s) (nI b) := by
  apply xm_contains H hs
  rw [kd_any (H s hs).2.2.1 hb]
  exact hp
theorem xm_containsB {post : Int32 → Prop} {L : Nat → List Nat} {c z : Nat → Int32} {s : Nat} {x : Int32} (H : kd_X L c z) (hs : s < 6) (hb : kd_bad 128 x) (hp : post 0) : wpX_contains post (c, z) (nI s) x := by
  apply xm_contains H hs
  have e : ((L s).any fun a => decide (nI a = x)) = false := by
    rw [List.any_eq_false]
    intro a ha
    rw [decide_eq_true_eq]
    exact kd_bad_ne (by decide) hb ((H s hs).2.2.1 a ha)
  rw [e]
  exact hp
theorem xl_countBelow {post : Int32 → Prop} {s len b : Nat} {c z : Nat → Int32} (hs : s < 6) (hl : len ≤ 8) (hb : b < 128) : ∀ (t : List Nat) (i k n : Nat), i + t.length = len → (∀ a ∈ t, a < 128) → kd_At c (8 * s + i) t → t.length < n → post (nI (k + t.countP fun a => decide (a < b))) → wX_countBelow_13 post (nI s) (nI b) (nI len) c z n (nI k) (nI i) := by
  intro t
  induction t with
  | nil =>
    intro i k n hi h8 ha hn hp
    obtain ⟨n, rfl⟩ : ∃ m, n = m + 1 := ⟨n - 1, by omega⟩
    rw [List.length_nil] at hi
    exact br_t (nI_le (by omega) (by omega)) hp
  | cons a t ih =>
    intro i k n hi h8 ha hn hp
    obtain ⟨n, rfl⟩ : ∃ m, n = m + 1 := ⟨n - 1, by omega⟩
    rw [List.length_cons] at hi hn
    have h8a : a < 128 := h8 a (by simp)
    refine br_f (nI_ge (by omega) (by omega)) ?_
    rw [kd_ix, nI_clamp (by omega), ha.1]
    refine ⟨vp_in_nI (by omega) (by omega), ?_⟩
    by_cases h : b ≤ a
    · refine br_t (nI_le h (by omega)) (nm_r (nI_1 i) (ih (i + 1) k n (by omega) (fun y hy => h8 y (by simp [hy])) ha.2 (by omega) ?_))
      rw [List.countP_cons_of_neg (by simp; omega)] at hp
      exact hp
    · refine br_f (nI_ge (by omega) (by omega)) (nm_r (nI_1 k) (nm_r (nI_1 i) (ih (i + 1) (k + 1) n (by omega) (fun y hy => h8 y (by simp [hy])) ha.2 (by omega) ?_)))
      rw [List.countP_cons_of_pos (by simp; omega)] at hp
      rw [Nat.add_right_comm]
      exact hp
theorem xm_countBelow {post : Int32 → Prop} {L : Nat → List Nat} {c z : Nat → Int32} {s b : Nat} (H : kd_X L c z) (hs : s < 6) (hb : b < 128) (hp : post (nI ((L s).countP fun a => decide (a < b)))) : wpX_countBelow post (c, z) (nI s) (nI b) := by
  obtain ⟨h1, h2, h3, h4⟩ := H s hs
  refine ⟨vp_in_nI hs (by omega), nm_r (kd_zs H hs) ⟨(L s).length + 1, xl_countBelow hs h2 hb (L s) 0 0 _ (by omega) h3 h4 (by omega) ?_⟩⟩
  rw [Nat.zero_add]
  exact hp
theorem xm_holds {post : Int32 → Prop} {w d : Nat} (hw : w < 128) (hd : d < 128) (hp : post (kd_b (decide (w &&& d = d)))) : wpX_holds post (nI w) (nI d) := by
  unfold wpX_holds
  rw [nx_and, nI_eq (Nat.lt_of_le_of_lt Nat.and_le_left (by omega)) (by omega)]
  by_cases h : w &&& d = d
  · rw [decide_eq_true h] at hp
    exact br_t h hp
  · rw [decide_eq_false h] at hp
    exact br_f h hp
def kd_all (l : List Nat) : Int32 := l.foldl (fun a x => a &&& nI x) 127
theorem xl_letters {post : Int32 → Prop} {s len : Nat} {c z : Nat → Int32} (hs : s < 6) (hl : len ≤ 8) : ∀ (t : List Nat) (i : Nat) (v : Int32) (n : Nat), i + t.length = len → kd_At c (8 * s + i) t → t.length < n → post (t.foldl (fun a x => a &&& nI x) v) → wX_lettersInAll_13 post (nI s) (nI len) c z n v (nI i) := by
  intro t
  induction t with
  | nil =>
    intro i v n hi ha hn hp
    obtain ⟨n, rfl⟩ : ∃ m, n = m + 1 := ⟨n - 1, by omega⟩
    rw [List.length_nil] at hi
    exact br_t (nI_le (by omega) (by omega)) hp
  | cons a t ih =>
    intro i v n hi ha hn hp
    obtain ⟨n, rfl⟩ : ∃ m, n = m + 1 := ⟨n - 1, by omega⟩
    rw [List.length_cons] at hi hn
    refine br_f (nI_ge (by omega) (by omega)) ?_
    rw [kd_ix, nI_clamp (by omega), ha.1]
    exact ⟨vp_in_nI (by omega) (by omega), nm_e (nm_r (nI_1 i) (ih (i + 1) _ n (by omega) ha.2 (by omega) hp))⟩
theorem xm_letters {post : Int32 → Prop} {L : Nat → List Nat} {c z : Nat → Int32} {s : Nat} (H : kd_X L c z) (hs : s < 6) (hp : post (kd_all (L s))) : wpX_lettersInAll post (c, z) (nI s) := by
  obtain ⟨h1, h2, h3, h4⟩ := H s hs
  exact ⟨vp_in_nI hs (by omega), nm_r (kd_zs H hs) ⟨(L s).length + 1, xl_letters hs h2 (L s) 0 _ _ (by omega) h4 (by omega) hp⟩⟩
def kd_fr (l : List Nat) : Bool := decide (2 ≤ l.length) && decide (kd_all l = 0)
theorem xm_isFree {post : Int32 → Prop} {L : Nat → List Nat} {c z : Nat → Int32} {s : Nat} (H : kd_X L c z) (hs : s < 6) (hp : post (kd_b (kd_fr (L s)))) : wpX_isFree post (c, z) (nI s) := by
  have h2 := (H s hs).2.1
  refine ⟨vp_in_nI hs (by omega), ?_⟩
  rw [kd_zs H hs]
  by_cases h : 2 ≤ (L s).length
  · refine br_f (nI_nlt (b := 2) h (by omega)) (xm_letters H hs ?_)
    by_cases h0 : kd_all (L s) = 0
    · refine br_t h0 ?_
      rw [kd_fr, decide_eq_true h, decide_eq_true h0] at hp
      exact hp
    · refine br_f h0 ?_
      rw [kd_fr, decide_eq_true h, decide_eq_false h0] at hp
      exact hp
  · refine br_t (nI_lt (b := 2) (by omega) (by decide)) ?_
    rw [kd_fr, decide_eq_false h] at hp
    exact hp
theorem xl_isSame {post : Int32 → Prop} {s s' len : Nat} {c z : Nat → Int32} (hs : s < 6) (hs' : s' < 6) (hl : len ≤ 8) : ∀ (t t' : List Nat) (i n : Nat), i + t.length = len → t'.length = t.length → (∀ a ∈ t, a < 128) → (∀ a ∈ t', a < 128) → kd_At c (8 * s + i) t → kd_At c (8 * s' + i) t' → t.length < n → post (kd_b (decide (t = t'))) → wX_isSame_22 post (nI s) (nI s') (nI len) c z n (nI i) := by
  intro t
  induction t with
  | nil =>
    intro t' i n hi he h8 h8' ha ha' hn hp
    obtain ⟨n, rfl⟩ : ∃ m, n = m + 1 := ⟨n - 1, by omega⟩
    rw [List.length_nil] at hi he
    have : t' = [] := List.length_eq_zero_iff.mp he
    subst this
    exact br_t (nI_le (by omega) (by omega)) hp
  | cons a t ih =>
    intro t' i n hi he h8 h8' ha ha' hn hp
    obtain ⟨n, rfl⟩ : ∃ m, n = m + 1 := ⟨n - 1, by omega⟩
    rw [List.length_cons] at hi hn he
    cases t' with
    | nil => simp at he
    | cons a' t' =>
      rw [List.length_cons] at he
      have h8a : a < 128 := h8 a (by simp)
      have h8a' : a' < 128 := h8' a' (by simp)
      refine br_f (nI_ge (by omega) (by omega)) ?_
      rw [kd_ix, nI_clamp (by omega), ha.1, kd_ix, nI_clamp (by omega), ha'.1]
      refine ⟨vp_in_nI (by omega) (by omega), vp_in_nI (by omega) (by omega), ?_⟩
      rw [nI_eq (by omega) (by omega)]
      by_cases h : a = a'
      · subst h
        refine br_t rfl (nm_r (nI_1 i) (ih t' (i + 1) n (by omega) (by omega) (fun y hy => h8 y (by simp [hy])) (fun y hy => h8' y (by simp [hy])) ha.2 ha'.2 (by omega) ?_))
        have e : decide (a :: t = a :: t') = decide (t = t') := by simp
        rw [e] at hp
        exact hp
      · refine br_f h ?_
        have e : decide (a :: t = a' :: t') = false := by simp [h]
        rw [e] at hp
        exact hp
theorem xm_isSame {post : Int32 → Prop} {L : Nat → List Nat} {c z : Nat → Int32} {s s' : Nat} (H : kd_X L c z) (hs : s < 6) (hs' : s' < 6) (hp : post (kd_b (decide (L s = L s')))) : wpX_isSame post (c, z) (nI s) (nI s') := by
  obtain ⟨h1, h2, h3, h4⟩ := H s hs
  obtain ⟨g1, g2, g3, g4⟩ := H s' hs'
  refine ⟨vp_in_nI hs (by omega), nm_r (kd_zs H hs) ⟨vp_in_nI hs' (by omega), ?_⟩⟩
  rw [kd_zs H hs', nI_eq (by omega) (by omega)]
  by_cases h : (L s').length = (L s).length
  · exact br_t h ⟨(L s).length + 1, xl_isSame hs hs' h2 (L s) (L s') 0 _ (by omega) h h3 g3 h4 g4 (by omega) hp⟩
  · refine br_f h ?_
    have e : decide (L s = L s') = false := by
      rw [decide_eq_false_iff_not]
      intro e
      exact h (by rw [e])
    rw [e] at hp
    exact hp
def kd_inq (part : Nat) (f g : List Nat) : Bool := g.all fun d => decide (part &&& d = 0) && decide ((part ||| d) ∈ f)
theorem xl_inAll {post : Int32 → Prop} {L : Nat → List Nat} {p f s len : Nat} {c z : Nat → Int32} (H : kd_X L c z) (hf : f < 6) (hs : s < 6) (hl : len ≤ 8) (h128 : p < 128) : ∀ (t : List Nat) (i n : Nat), i + t.length = len → (∀ a ∈ t, a < 128) → kd_At c (8 * s + i) t → t.length < n → post (kd_b (kd_inq p (L f) t)) → wX_isInAllQuotients_11 post (nI p) (nI f) (nI s) (nI len) c z n (nI i) := by
  intro t
  induction t with
  | nil =>
    intro i n hi h8 ha hn hp
    obtain ⟨n, rfl⟩ : ∃ m, n = m + 1 := ⟨n - 1, by omega⟩
    rw [List.length_nil] at hi
    exact br_t (nI_le (by omega) (by omega)) hp
  | cons a t ih =>
    intro i n hi h8 ha hn hp
    obtain ⟨n, rfl⟩ : ∃ m, n = m + 1 := ⟨n - 1, by omega⟩
    rw [List.length_cons] at hi hn
    have h8a : a < 128 := h8 a (by simp)
    refine br_f (nI_ge (by omega) (by omega)) ?_
    rw [kd_ix, nI_clamp (by omega), ha.1]
    refine ⟨vp_in_nI (by omega) (by omega), nm_e ?_⟩
    rw [nx_and, kd_or, ← nI_0, nI_eq (Nat.lt_of_le_of_lt Nat.and_le_left (by omega)) (by omega)]
    rw [kd_inq, List.all_cons] at hp
    by_cases h : p &&& a = 0
    · rw [decide_eq_true h, Bool.true_and] at hp
      refine br_t h (xm_containsN H hf (kd_o128 h128 h8a) ?_)
      rw [nI_0]
      refine kd_bb (fun e => ?_) (fun e => ?_)
      · rw [e, Bool.false_and] at hp
        exact hp
      · rw [e, Bool.true_and] at hp
        exact nm_r (nI_1 i) (ih (i + 1) n (by omega) (fun y hy => h8 y (by simp [hy])) ha.2 (by omega) hp)
    · rw [decide_eq_false h, Bool.false_and, Bool.false_and] at hp
      exact br_f h hp
theorem xm_inAll {post : Int32 → Prop} {L : Nat → List Nat} {p f g : Nat} {c z : Nat → Int32} (H : kd_X L c z) (hf : f < 6) (hg : g < 6) (h128 : p < 128) (hp : post (kd_b (kd_inq p (L f) (L g)))) : wpX_isInAllQuotients post (c, z) (nI p) (nI f) (nI g) := by
  obtain ⟨h1, h2, h3, h4⟩ := H g hg
  exact ⟨vp_in_nI hg (by omega), nm_r (kd_zs H hg) ⟨(L g).length + 1, xl_inAll H hf hg h2 h128 (L g) 0 _ (by omega) h3 h4 (by omega) hp⟩⟩
def kd_jn (w : Nat) (q g : List Nat) : Bool := q.any fun x => g.any fun d => decide (x ||| d = w)
theorem xl_isJoin2 {post : Int32 → Prop} {J : Int32 → Prop} {w x s len x2 x4 : Nat} {i0 : Nat} {c z : Nat → Int32} (hs : s < 6) (hl : len ≤ 8) (hw : w < 128) (hx : x < 128) : ∀ (t : List Nat) (i n : Nat), i + t.length = len → (∀ a ∈ t, a < 128) → kd_At c (8 * s + i) t → t.length < n → ((t.any fun d => decide (x ||| d = w)) = true → post 1) → ((t.any fun d => decide (x ||| d = w)) = false → J (nI (i0 + 1))) → wX_isJoin_43 post J (nI w) (nI x2) (nI s) (nI x4) (nI len) (nI i0) (nI x) c z n (nI i) := by
  intro t
  induction t with
  | nil =>
    intro i n hi h8 ha hn hp hj
    obtain ⟨n, rfl⟩ : ∃ m, n = m + 1 := ⟨n - 1, by omega⟩
    rw [List.length_nil] at hi
    exact br_t (nI_le (by omega) (by omega)) (nm_r (nI_1 i0) (hj rfl))
  | cons a t ih =>
    intro i n hi h8 ha hn hp hj
    obtain ⟨n, rfl⟩ : ∃ m, n = m + 1 := ⟨n - 1, by omega⟩
    rw [List.length_cons] at hi hn
    have h8a : a < 128 := h8 a (by simp)
    refine br_f (nI_ge (by omega) (by omega)) ?_
    rw [kd_ix, nI_clamp (by omega), ha.1]
    refine ⟨vp_in_nI (by omega) (by omega), ?_⟩
    rw [kd_or, nI_eq (by have := kd_o128 hx h8a; omega) (by omega)]
    rw [List.any_cons] at hp hj
    by_cases h : x ||| a = w
    · exact br_t h (hp (by rw [decide_eq_true h, Bool.true_or]))
    · rw [decide_eq_false h, Bool.false_or] at hp hj
      exact br_f h (nm_r (nI_1 i) (ih (i + 1) n (by omega) (fun y hy => h8 y (by simp [hy])) ha.2 (by omega) hp hj))
theorem xl_isJoin {post : Int32 → Prop} {L : Nat → List Nat} {w q g len : Nat} {c z : Nat → Int32} (H : kd_X L c z) (hq : q < 6) (hg : g < 6) (hl : len ≤ 8) (hw : w < 128) : ∀ (t : List Nat) (i n : Nat), i + t.length = len → (∀ a ∈ t, a < 128) → kd_At c (8 * q + i) t → t.length < n → post (kd_b (kd_jn w t (L g))) → wX_isJoin_19 post (nI w) (nI q) (nI g) (nI len) (nI (L g).length) c z n (nI i) := by
  intro t
  obtain ⟨g1, g2, g3, g4⟩ := H g hg
  induction t with
  | nil =>
    intro i n hi h8 ha hn hp
    obtain ⟨n, rfl⟩ : ∃ m, n = m + 1 := ⟨n - 1, by omega⟩
    rw [List.length_nil] at hi
    exact br_t (nI_le (by omega) (by omega)) hp
  | cons a t ih =>
    intro i n hi h8 ha hn hp
    obtain ⟨n, rfl⟩ : ∃ m, n = m + 1 := ⟨n - 1, by omega⟩
    rw [List.length_cons] at hi hn
    have h8a : a < 128 := h8 a (by simp)
    refine br_f (nI_ge (by omega) (by omega)) ?_
    rw [kd_ix, nI_clamp (by omega), ha.1]
    refine ⟨vp_in_nI (by omega) (by omega), nm_e ⟨(L g).length + 1, ?_⟩⟩
    rw [kd_jn, List.any_cons] at hp
    refine xl_isJoin2 hg g2 hw h8a (L g) 0 _ (by omega) g3 g4 (by omega) (fun e => ?_) (fun e => ?_)
    · rw [e, Bool.true_or] at hp
      exact hp
    · rw [e, Bool.false_or] at hp
      exact ih (i + 1) n (by omega) (fun y hy => h8 y (by simp [hy])) ha.2 (by omega) hp
theorem xm_isJoin {post : Int32 → Prop} {L : Nat → List Nat} {w q g : Nat} {c z : Nat → Int32} (H : kd_X L c z) (hq : q < 6) (hg : g < 6) (hw : w < 128) (hp : post (kd_b (kd_jn w (L q) (L g)))) : wpX_isJoin post (c, z) (nI w) (nI q) (nI g) := by
  obtain ⟨h1, h2, h3, h4⟩ := H q hq
  exact ⟨vp_in_nI hq (by omega), nm_r (kd_zs H hq) ⟨vp_in_nI hg (by omega), nm_r (kd_zs H hg) ⟨(L q).length + 1, xl_isJoin H hq hg h2 hw (L q) 0 _ (by omega) h3 h4 (by omega) hp⟩⟩⟩
theorem xm_canDivide {post : Int32 → Prop} {L : Nat → List Nat} {f g : Nat} {c z : Nat → Int32} (H : kd_X L c z) (hf : f < 4) (hg : g < 4) (hp : post (kd_b (decide (L g ≠ [])))) : wpX_canDivide post (c, z) (nI f) (nI g) := by
  have g2 := (H g (by omega)).2.1
  unfold wpX_canDivide
  dsimp only
  refine xm_isE_t hf ?_
  refine br_f (by decide) ?_
  refine xm_isE_t hg ?_
  refine br_f (by decide) ?_
  refine ⟨vp_in_nI (N := 6) (by omega) (by omega), ?_⟩
  rw [kd_zs H (by omega)]
  by_cases h : L g = []
  · rw [h] at hp ⊢
    exact br_t (by decide) hp
  · have e : decide (L g ≠ []) = true := by simp [h]
    rw [e] at hp
    have hl : 0 < (L g).length := List.length_pos_iff.mpr h
    exact br_f (nI_nle hl (by omega)) hp
theorem xm_canDivide_f {post : Int32 → Prop} {c z : Nat → Int32} {x : Int32} {y : Int32} (h : kd_bad 4 x ∨ kd_bad 4 y) (hp : post 0) : wpX_canDivide post (c, z) x y := by
  unfold wpX_canDivide
  dsimp only
  rcases kd_cas 4 (by decide) x with hx | ⟨j, hj, rfl⟩
  · refine xm_isE_f hx ?_
    exact br_t rfl hp
  · rcases h with h | h
    · refine xm_isE_f h ?_
      exact br_t rfl hp
    · refine xm_isE_t hj ?_
      refine br_f (by decide) ?_
      refine xm_isE_f h ?_
      exact br_t rfl hp
end
section
theorem kd_X_set {L : Nat → List Nat} {c z c' z' : Nat → Int32} {s : Nat} {l : List Nat} (H : kd_X L c z) (hz : z' s = nI l.length) (hzn : ∀ j, j ≠ s → z' j = z j) (hl : l.length ≤ 8) (h8 : ∀ a ∈ l, a < 128) (hc : kd_At c' (8 * s) l) (hcn : ∀ m, (m < 8 * s ∨ 8 * s + 8 ≤ m) → c' m = c m) : kd_X (kd_U L s l) c' z' := by
  intro j hj
  by_cases h : j = s
  · subst h
    rw [kd_Us]
    exact ⟨hz, hl, h8, hc⟩
  · rw [kd_Un h, hzn j h]
    obtain ⟨h1, h2, h3, h4⟩ := H j hj
    exact ⟨h1, h2, h3, kd_At_mp _ _ _ h4 fun i hi => hcn _ (by omega)⟩
theorem kd_X_clr {L : Nat → List Nat} {c z : Nat → Int32} {s : Nat} (H : kd_X L c z) : kd_X (kd_U L s []) c (upd z s 0) :=
  kd_X_set H pk_us (fun j hj => pk_un hj) (by simp) (by simp) trivial (fun _ _ => rfl)
theorem xm_append {post : SX → Prop} {L : Nat → List Nat} {c z : Nat → Int32} {s x : Nat} (H : kd_X L c z) (hs : s < 6) (hl : (L s).length < 8) (hx : x < 128) (hp : ∀ c' z', kd_X (kd_U L s (L s ++ [x])) c' z' → post (c', z')) : wpX_append post (c, z) (nI s) (nI x) := by
  unfold wpX_append
  dsimp only
  obtain ⟨h1, h2, h3, h4⟩ := H s hs
  rw [kd_zs H hs, kd_ix, nI_clamp (n := 8 * s + (L s).length) (by omega), nI_clamp (n := s) (by omega), nI_1]
  refine ⟨vp_in_nI hs (by omega), vp_in_nI (by omega) (by omega), nm_e ⟨vp_in_nI hs (by omega), vp_in_nI hs (by omega), nm_e (hp _ _ ?_)⟩⟩
  refine kd_X_set H ?_ (fun j hj => pk_un hj) ?_ ?_ ?_ ?_
  · rw [pk_us, List.length_append, List.length_singleton]
  · rw [List.length_append, List.length_singleton]
    omega
  · intro a ha
    rcases List.mem_append.mp ha with h | h
    · exact h3 a h
    · rw [List.mem_singleton.mp h]
      exact hx
  · rw [kd_At_app]
    exact ⟨kd_At_mp _ _ _ h4 fun i hi => pk_un (by omega), pk_us, trivial⟩
  · intro m hm
    exact pk_un (by omega)
theorem xl_insert {post : SX → Prop} {s b k len : Nat} {c0 z : Nat → Int32} (hs : s < 6) (hlen : len < 8) : ∀ (j n : Nat) (f : Nat → Int32), j < n → k + j ≤ len → (∀ m, f m = if 8 * s + (k + j) < m ∧ m ≤ 8 * s + len then c0 (m - 1) else c0 m) → (∀ f', (∀ m, f' m = if m = 8 * s + k then nI b else if 8 * s + k < m ∧ m ≤ 8 * s + len then c0 (m - 1) else c0 m) → post (f', upd z s (z s + 1))) → wX_insert_21 post (nI s) (nI b) (nI s * 8) (nI k) n (nI (k + j)) f z := by
  intro j
  induction j with
  | zero =>
    intro n f hn hk hf hp
    obtain ⟨n, rfl⟩ : ∃ m, n = m + 1 := ⟨n - 1, by omega⟩
    refine br_t (nI_le (by omega) (by omega)) ?_
    rw [kd_ix, nI_clamp (n := 8 * s + k) (by omega), nI_clamp (n := s) (by omega)]
    refine ⟨vp_in_nI (by omega) (by omega), nm_e ⟨vp_in_nI hs (by omega), vp_in_nI hs (by omega), nm_e (hp _ fun m => ?_)⟩⟩
    by_cases hm : m = 8 * s + k
    · rw [if_pos hm, hm, pk_us]
    · rw [if_neg hm, pk_un hm, hf m]
      rfl
  | succ j ih =>
    intro n f hn hk hf hp
    obtain ⟨n, rfl⟩ : ∃ m, n = m + 1 := ⟨n - 1, by omega⟩
    refine br_f (nI_ge (by omega) (by omega)) ?_
    have e : nI (8 * s + (k + (j + 1))) - 1 = nI (8 * s + (k + j)) := nI_pred (8 * s + (k + j))
    rw [kd_ix, e, nI_clamp (n := 8 * s + (k + (j + 1))) (by omega), nI_clamp (n := 8 * s + (k + j)) (by omega)]
    refine ⟨vp_in_nI (by omega) (by omega), vp_in_nI (by omega) (by omega), nm_e (nm_r (pk_m1 (k + j)) (ih n _ (by omega) (by omega) (fun m => ?_) hp))⟩
    by_cases hm : m = 8 * s + (k + (j + 1))
    · rw [hm, pk_us, hf, if_neg (by omega), if_pos (by omega)]
      exact congrArg c0 (by omega)
    · rw [pk_un hm, hf]
      have : (8 * s + (k + (j + 1)) < m ∧ m ≤ 8 * s + len) ↔ (8 * s + (k + j) < m ∧ m ≤ 8 * s + len) := by omega
      simp only [this]
theorem xm_insert {post : SX → Prop} {L : Nat → List Nat} {c z : Nat → Int32} {s b : Nat} (H : kd_X L c z) (hs : s < 6) (hb : b < 128) (hl : (L s).length < 8) (hp : ∀ c' z', kd_X (kd_U L s ((L s).take ((L s).countP fun a => decide (a < b)) ++ b :: (L s).drop ((L s).countP fun a => decide (a < b)))) c' z' → post (c', z')) : wpX_insert post (c, z) (nI s) (nI b) := by
  unfold wpX_insert
  dsimp only
  obtain ⟨h1, h2, h3, h4⟩ := H s hs
  refine nm_e ?_
  refine xm_countBelow H hs hb ?_
  have hk : ((L s).countP fun a => decide (a < b)) ≤ (L s).length := List.countP_le_length
  revert hk hp
  generalize ((L s).countP fun a => decide (a < b)) = k
  intro hp hk
  refine ⟨vp_in_nI hs (by omega), nm_r (kd_zs H hs) ⟨(L s).length + 1, ?_⟩⟩
  have e : (L s).length = k + ((L s).length - k) := by omega
  have W := xl_insert (post := post) (b := b) (k := k) (c0 := c) (z := z) hs hl ((L s).length - k) ((L s).length + 1) c (by omega) (by omega) (fun m => by rw [if_neg (by omega)]) ?_
  · rw [← e] at W
    exact W
  · intro f' hf
    refine hp _ _ (kd_X_set H ?_ (fun j hj => pk_un hj) ?_ ?_ ?_ ?_)
    · rw [pk_us, h1, nI_1, List.length_append, List.length_cons, List.length_take, List.length_drop]
      exact congrArg nI (by omega)
    · rw [List.length_append, List.length_cons, List.length_take, List.length_drop]
      omega
    · intro a ha
      rcases List.mem_append.mp ha with h | h
      · exact h3 a (List.mem_of_mem_take h)
      · rcases List.mem_cons.mp h with h | h
        · omega
        · exact h3 a (List.mem_of_mem_drop h)
    · have h4' := h4
      rw [← List.take_append_drop k (L s), kd_At_app] at h4'
      have hlt : ((L s).take k).length = k := by rw [List.length_take]; omega
      rw [kd_At_app]
      rw [hlt] at h4' ⊢
      refine ⟨kd_At_mp _ _ _ h4'.1 fun i hi => ?_, ?_, kd_At_mp _ _ _ h4'.2 fun i hi => ?_⟩
      · rw [hlt] at hi
        rw [hf, if_neg (by omega), if_neg (by omega)]
      · rw [hf, if_pos rfl]
      · rw [List.length_drop] at hi
        rw [hf, if_neg (by omega), if_pos (by omega)]
        exact congrArg c (by omega)
    · intro m hm
      rw [hf, if_neg (by omega), if_neg (by omega)]
theorem xl_remove {post : SX → Prop} {s k last : Nat} {c0 z : Nat → Int32} (hs : s < 6) (hlast : last < 8) (hkl : k ≤ last) : ∀ (j i n : Nat) (f : Nat → Int32), i + j = last → k ≤ i → j < n → (∀ m, f m = if 8 * s + k ≤ m ∧ m < 8 * s + i then c0 (m + 1) else c0 m) → (∀ f', (∀ m, f' m = if 8 * s + k ≤ m ∧ m < 8 * s + last then c0 (m + 1) else c0 m) → post (f', upd z s (nI last))) → wX_remove_27 post (nI s) (nI s * 8) (nI last) n (nI i) f z := by
  intro j
  induction j with
  | zero =>
    intro i n f hi hk hn hf hp
    obtain ⟨n, rfl⟩ : ∃ m, n = m + 1 := ⟨n - 1, by omega⟩
    have : i = last := by omega
    subst this
    refine br_t (nI_le (by omega) (by omega)) ?_
    rw [nI_clamp (n := s) (by omega)]
    exact ⟨vp_in_nI hs (by omega), nm_e (hp _ hf)⟩
  | succ j ih =>
    intro i n f hi hk hn hf hp
    obtain ⟨n, rfl⟩ : ∃ m, n = m + 1 := ⟨n - 1, by omega⟩
    refine br_f (nI_ge (by omega) (by omega)) ?_
    rw [kd_ix, nI_1 (8 * s + i), nI_clamp (n := 8 * s + i) (by omega), nI_clamp (n := 8 * s + i + 1) (by omega)]
    refine ⟨vp_in_nI (by omega) (by omega), vp_in_nI (by omega) (by omega), nm_e (nm_r (nI_1 i) (ih (i + 1) n _ (by omega) (by omega) (by omega) (fun m => ?_) hp))⟩
    by_cases hm : m = 8 * s + i
    · rw [hm, pk_us, hf, if_neg (by omega), if_pos (by omega)]
    · rw [pk_un hm, hf]
      have : (8 * s + k ≤ m ∧ m < 8 * s + i) ↔ (8 * s + k ≤ m ∧ m < 8 * s + (i + 1)) := by omega
      simp only [this]
theorem xm_remove {post : SX → Prop} {L : Nat → List Nat} {c z : Nat → Int32} {s b : Nat} (H : kd_X L c z) (hs : s < 6) (hb : b < 128) (hl : ((L s).countP fun a => decide (a < b)) < (L s).length) (hp : ∀ c' z', kd_X (kd_U L s ((L s).take ((L s).countP fun a => decide (a < b)) ++ (L s).drop (((L s).countP fun a => decide (a < b)) + 1))) c' z' → post (c', z')) : wpX_remove post (c, z) (nI s) (nI b) := by
  unfold wpX_remove
  dsimp only
  obtain ⟨h1, h2, h3, h4⟩ := H s hs
  refine nm_e ?_
  refine ⟨vp_in_nI hs (by omega), ?_⟩
  have e : z (nI s).toNatClampNeg - 1 = nI ((L s).length - 1) := by
    rw [kd_zs H hs]
    have e : (L s).length = (L s).length - 1 + 1 := by omega
    rw [e, nI_pred]
    rfl
  refine nm_r e ?_
  refine xm_countBelow H hs hb ?_
  revert hl hp
  generalize ((L s).countP fun a => decide (a < b)) = k
  intro hk hp
  refine ⟨(L s).length + 1, ?_⟩
  refine xl_remove (k := k) (c0 := c) hs (by omega) (by omega) ((L s).length - 1 - k) k _ c (by omega) (by omega) (by omega) (fun m => by rw [if_neg (by omega)]) ?_
  intro f' hf
  refine hp _ _ (kd_X_set H ?_ (fun j hj => pk_un hj) ?_ ?_ ?_ ?_)
  · rw [pk_us, List.length_append, List.length_take, List.length_drop]
    exact congrArg nI (by omega)
  · rw [List.length_append, List.length_take, List.length_drop]
    omega
  · intro a ha
    rcases List.mem_append.mp ha with h | h
    · exact h3 a (List.mem_of_mem_take h)
    · exact h3 a (List.mem_of_mem_drop h)
  · have a1 := h4
    rw [← List.take_append_drop k (L s), kd_At_app] at a1
    have a2 := h4
    rw [← List.take_append_drop (k + 1) (L s), kd_At_app] at a2
    have hlt : ((L s).take k).length = k := by rw [List.length_take]; omega
    have hlt' : ((L s).take (k + 1)).length = k + 1 := by rw [List.length_take]; omega
    rw [hlt'] at a2
    rw [kd_At_app, hlt]
    refine ⟨kd_At_mp _ _ _ a1.1 fun i hi => ?_, kd_At_mp _ _ _ a2.2 fun i hi => ?_⟩
    · rw [hlt] at hi
      rw [hf, if_neg (by omega)]
    · rw [List.length_drop] at hi
      rw [hf, if_pos (by omega)]
      exact congrArg c (by omega)
  · intro m hm
    rw [hf, if_neg (by omega)]
theorem xl_copy {post : SX → Prop} {L : Nat → List Nat} {s f : Nat} {c0 z : Nat → Int32} (H : kd_X L c0 z) (hs : s < 6) (hf : f < 6) (hne : f ≠ s) : ∀ (t p : List Nat) (i n : Nat) (cc : Nat → Int32), L f = p ++ t → p.length = i → t.length < n → (∀ m, (m < 8 * s ∨ 8 * s + 8 ≤ m) → cc m = c0 m) → kd_At cc (8 * s) p → (∀ c' z', kd_X (kd_U L s (L f)) c' z' → post (c', z')) → wX_copy_10 post (nI s) (nI f) (nI (L f).length) n (nI i) cc z := by
  intro t
  obtain ⟨h1, h2, h3, h4⟩ := H f hf
  induction t with
  | nil =>
    intro p i n cc hL hi hn hc ha hp
    obtain ⟨n, rfl⟩ : ∃ m, n = m + 1 := ⟨n - 1, by omega⟩
    rw [List.append_nil] at hL
    have hlen := congrArg List.length hL
    refine br_t (nI_le (by omega) (by omega)) ?_
    rw [nI_clamp (n := s) (by omega)]
    refine ⟨vp_in_nI hs (by omega), nm_e (hp _ _ (kd_X_set H pk_us (fun j hj => pk_un hj) h2 h3 ?_ hc))⟩
    rw [hL]
    exact ha
  | cons a t ih =>
    intro p i n cc hL hi hn hc ha hp
    obtain ⟨n, rfl⟩ : ∃ m, n = m + 1 := ⟨n - 1, by omega⟩
    have hlen := congrArg List.length hL
    rw [List.length_append, List.length_cons] at hlen
    rw [List.length_cons] at hn
    have hat := h4
    rw [hL, kd_At_app, hi] at hat
    refine br_f (nI_ge (by omega) (by omega)) ?_
    have hv : cc (8 * f + i) = nI a := by
      rw [hc _ (by omega)]
      exact hat.2.1
    rw [kd_ix, kd_ix, nI_clamp (n := 8 * s + i) (by omega), nI_clamp (n := 8 * f + i) (by omega), hv]
    refine ⟨vp_in_nI (by omega) (by omega), vp_in_nI (by omega) (by omega), nm_e (nm_r (nI_1 i) (ih (p ++ [a]) (i + 1) n _ ?_ ?_ (by omega) ?_ ?_ hp))⟩
    · rw [hL, List.append_assoc]
      rfl
    · rw [List.length_append, hi]
      rfl
    · intro m hm
      rw [pk_un (by omega)]
      exact hc m hm
    · rw [kd_At_app, hi]
      exact ⟨kd_At_mp _ _ _ ha fun j hj => pk_un (by omega), pk_us, trivial⟩
theorem xm_copy {post : SX → Prop} {L : Nat → List Nat} {s f : Nat} {c z : Nat → Int32} (H : kd_X L c z) (hs : s < 6) (hf : f < 6) (hne : f ≠ s) (hp : ∀ c' z', kd_X (kd_U L s (L f)) c' z' → post (c', z')) : wpX_copy post (c, z) (nI s) (nI f) :=
  ⟨vp_in_nI hf (by omega), nm_r (kd_zs H hf) ⟨(L f).length + 1, xl_copy H hs hf hne (L f) [] 0 _ c rfl rfl (by omega) (fun _ _ => rfl) trivial hp⟩⟩
end
section
theorem xl_mqc {post : SX → Prop} {L : Nat → List Nat} {s f b : Nat} (hs : s < 6) (hf : f < 6) (hne : f ≠ s) (hb : b < 128) : ∀ (t p acc : List Nat) (i n : Nat) (cc z : Nat → Int32), L f = p ++ t → p.length = i → acc.length ≤ i → kd_X (kd_U L s acc) cc z → t.length < n → (∀ c' z', kd_X (kd_U L s (acc ++ kd_q b t)) c' z' → post (c', z')) → wX_makeQuotientByCube_18 post (nI s) (nI f) (nI b) (nI (L f).length) n (nI i) cc z := by
  intro t
  induction t with
  | nil =>
    intro p acc i n cc z hL hi hac H hn hp
    obtain ⟨n, rfl⟩ : ∃ m, n = m + 1 := ⟨n - 1, by omega⟩
    obtain ⟨h1, h2, h3, h4⟩ := H f hf
    rw [kd_Un hne] at h1 h2 h3 h4
    rw [List.append_nil] at hL
    have hlen := congrArg List.length hL
    refine br_t (nI_le (by omega) (by omega)) (hp _ _ ?_)
    rw [kd_q_nil, List.append_nil]
    exact H
  | cons a t ih =>
    intro p acc i n cc z hL hi hac H hn hp
    obtain ⟨n, rfl⟩ : ∃ m, n = m + 1 := ⟨n - 1, by omega⟩
    obtain ⟨h1, h2, h3, h4⟩ := H f hf
    rw [kd_Un hne] at h1 h2 h3 h4
    have hlen := congrArg List.length hL
    rw [List.length_append, List.length_cons] at hlen
    rw [List.length_cons] at hn
    have hat := h4
    rw [hL, kd_At_app, hi] at hat
    have h8a : a < 128 := h3 a (by rw [hL]; simp)
    have hL' : L f = (p ++ [a]) ++ t := by rw [hL, List.append_assoc]; rfl
    have hi' : (p ++ [a]).length = i + 1 := by rw [List.length_append, hi]; rfl
    refine br_f (nI_ge (by omega) (by omega)) ?_
    rw [kd_ix, nI_clamp (n := 8 * f + i) (by omega), hat.2.1]
    refine ⟨vp_in_nI (by omega) (by omega), nm_e ?_⟩
    refine xm_holds h8a hb ?_
    refine kd_bb (fun e => ?_) (fun e => ?_)
    · rw [decide_eq_false_iff_not] at e
      rw [kd_q_f e] at hp
      exact nm_r (nI_1 i) (ih (p ++ [a]) acc (i + 1) n cc z hL' hi' (by omega) H (by omega) hp)
    · rw [decide_eq_true_eq] at e
      rw [kd_q_t e] at hp
      rw [kd_out e]
      refine xm_append H hs (by rw [kd_Us]; omega) (kd_x128 h8a hb) fun c' z' H' => ?_
      rw [kd_Us, kd_UU] at H'
      refine nm_r (nI_1 i) (ih (p ++ [a]) (acc ++ [a ^^^ b]) (i + 1) n c' z' hL' hi' ?_ H' (by omega) ?_)
      · rw [List.length_append, List.length_singleton]
        omega
      · rw [List.append_assoc]
        exact hp
theorem xm_mqc {post : SX → Prop} {L : Nat → List Nat} {c z : Nat → Int32} {s f b : Nat} (H : kd_X L c z) (hs : s < 6) (hf : f < 6) (hne : f ≠ s) (hb : b < 128) (hp : ∀ c' z', kd_X (kd_U L s (kd_q b (L f))) c' z' → post (c', z')) : wpX_makeQuotientByCube post (c, z) (nI s) (nI f) (nI b) := by
  refine ⟨vp_in_nI hf (by omega), nm_r (kd_zs H hf) ⟨vp_in_nI hs (by omega), ?_⟩⟩
  rw [nI_clamp (n := s) (by omega)]
  exact nm_e ⟨(L f).length + 1, xl_mqc hs hf hne hb (L f) [] [] 0 _ c _ rfl rfl (Nat.le_refl _) (kd_X_clr H) (by omega) hp⟩
/-- the quotient by an expression whose first cube is d, as a list -/
def kd_Q (d : Nat) (g : List Nat) (f t : List Nat) : List Nat := (t.filter fun w => decide (w &&& d = d) && kd_inq (w ^^^ d) f g).map fun w => w ^^^ d
theorem xl_mq {post : SX → Prop} {L : Nat → List Nat} {s f g d : Nat} (hs : s < 6) (hf : f < 6) (hg : g < 6) (hne : f ≠ s) (hng : g ≠ s) (hd : d < 128) : ∀ (t p acc : List Nat) (i n : Nat) (cc z : Nat → Int32), L f = p ++ t → p.length = i → acc.length ≤ i → kd_X (kd_U L s acc) cc z → t.length < n → (∀ c' z', kd_X (kd_U L s (acc ++ kd_Q d (L g) (L f) t)) c' z' → post (c', z')) → wX_makeQuotient_29 post (nI s) (nI f) (nI g) (nI (L f).length) (nI d) n (nI i) cc z := by
  intro t
  induction t with
  | nil =>
    intro p acc i n cc z hL hi hac H hn hp
    obtain ⟨n, rfl⟩ : ∃ m, n = m + 1 := ⟨n - 1, by omega⟩
    obtain ⟨h1, h2, h3, h4⟩ := H f hf
    rw [kd_Un hne] at h1 h2 h3 h4
    rw [List.append_nil] at hL
    have hlen := congrArg List.length hL
    refine br_t (nI_le (by omega) (by omega)) (hp _ _ ?_)
    rw [show kd_Q d (L g) (L f) [] = [] from rfl, List.append_nil]
    exact H
  | cons a t ih =>
    intro p acc i n cc z hL hi hac H hn hp
    obtain ⟨n, rfl⟩ : ∃ m, n = m + 1 := ⟨n - 1, by omega⟩
    obtain ⟨h1, h2, h3, h4⟩ := H f hf
    rw [kd_Un hne] at h1 h2 h3 h4
    have hlen := congrArg List.length hL
    rw [List.length_append, List.length_cons] at hlen
    rw [List.length_cons] at hn
    have hat := h4
    rw [hL, kd_At_app, hi] at hat
    have h8a : a < 128 := h3 a (by rw [hL]; simp)
    have hL' : L f = (p ++ [a]) ++ t := by rw [hL, List.append_assoc]; rfl
    have hi' : (p ++ [a]).length = i + 1 := by rw [List.length_append, hi]; rfl
    have hf_ : (decide (a &&& d = d) && kd_inq (a ^^^ d) (L f) (L g)) = false → kd_Q d (L g) (L f) (a :: t) = kd_Q d (L g) (L f) t := by
      intro e
      rw [kd_Q, List.filter_cons_of_neg (by rw [e]; decide)]
      rfl
    refine br_f (nI_ge (by omega) (by omega)) ?_
    rw [kd_ix, nI_clamp (n := 8 * f + i) (by omega), hat.2.1]
    refine ⟨vp_in_nI (by omega) (by omega), nm_e (nm_e ?_)⟩
    refine xm_holds h8a hd ?_
    refine kd_bb (fun e => ?_) (fun e => ?_)
    · rw [hf_ (by rw [e, Bool.false_and])] at hp
      exact nm_r (nI_1 i) (ih (p ++ [a]) acc (i + 1) n cc z hL' hi' (by omega) H (by omega) hp)
    · have e' := e
      rw [decide_eq_true_eq] at e'
      rw [kd_out e']
      refine xm_inAll H hf hg (kd_x128 h8a hd) ?_
      rw [kd_Un hne, kd_Un hng]
      refine kd_bb (fun e2 => ?_) (fun e2 => ?_)
      · rw [hf_ (by rw [e2, Bool.and_false])] at hp
        exact nm_r (nI_1 i) (ih (p ++ [a]) acc (i + 1) n cc z hL' hi' (by omega) H (by omega) hp)
      · refine xm_append H hs (by rw [kd_Us]; omega) (kd_x128 h8a hd) fun c' z' H' => ?_
        rw [kd_Us, kd_UU] at H'
        refine nm_r (nI_1 i) (ih (p ++ [a]) (acc ++ [a ^^^ d]) (i + 1) n c' z' hL' hi' ?_ H' (by omega) ?_)
        · rw [List.length_append, List.length_singleton]
          omega
        · have hc : kd_Q d (L g) (L f) (a :: t) = (a ^^^ d) :: kd_Q d (L g) (L f) t := by
            rw [kd_Q, List.filter_cons_of_pos (by rw [e, e2]; rfl)]
            rfl
          rw [hc] at hp
          rw [List.append_assoc]
          exact hp
theorem xm_mq {post : SX → Prop} {L : Nat → List Nat} {c z : Nat → Int32} {s f g d : Nat} {tg : List Nat} (H : kd_X L c z) (hs : s < 6) (hf : f < 6) (hg : g < 6) (hne : f ≠ s) (hng : g ≠ s) (hd : L g = d :: tg) (hp : ∀ c' z', kd_X (kd_U L s (kd_Q d (L g) (L f) (L f))) c' z' → post (c', z')) : wpX_makeQuotient post (c, z) (nI s) (nI f) (nI g) := by
  obtain ⟨h1, h2, h3, h4⟩ := H g hg
  have hd8 : d < 128 := h3 d (by rw [hd]; simp)
  rw [hd] at h4
  have hix : nI g * 8 = nI (8 * g) := by
    show nI g * nI 8 = _
    rw [pk_mul, Nat.mul_comm]
  refine ⟨vp_in_nI hf (by omega), nm_r (kd_zs H hf) ?_⟩
  rw [hix, nI_clamp (n := 8 * g) (by omega), nI_clamp (n := s) (by omega), h4.1]
  exact ⟨vp_in_nI (by omega) (by omega), nm_e ⟨vp_in_nI hs (by omega), nm_e ⟨(L f).length + 1, xl_mq hs hf hg hne hng hd8 (L f) [] [] 0 _ c _ rfl rfl (Nat.le_refl _) (kd_X_clr H) (by omega) hp⟩⟩⟩
def kd_R (q g t : List Nat) : List Nat := t.filter fun w => !kd_jn w q g
theorem xl_mr {post : SX → Prop} {L : Nat → List Nat} {s f q g : Nat} (hs : s < 6) (hf : f < 6) (hq : q < 6) (hg : g < 6) (hne : f ≠ s) (hnq : q ≠ s) (hng : g ≠ s) : ∀ (t p acc : List Nat) (i n : Nat) (cc z : Nat → Int32), L f = p ++ t → p.length = i → acc.length ≤ i → kd_X (kd_U L s acc) cc z → t.length < n → (∀ c' z', kd_X (kd_U L s (acc ++ kd_R (L q) (L g) t)) c' z' → post (c', z')) → wX_makeRest_18 post (nI s) (nI f) (nI q) (nI g) (nI (L f).length) n (nI i) cc z := by
  intro t
  induction t with
  | nil =>
    intro p acc i n cc z hL hi hac H hn hp
    obtain ⟨n, rfl⟩ : ∃ m, n = m + 1 := ⟨n - 1, by omega⟩
    obtain ⟨h1, h2, h3, h4⟩ := H f hf
    rw [kd_Un hne] at h1 h2 h3 h4
    rw [List.append_nil] at hL
    have hlen := congrArg List.length hL
    refine br_t (nI_le (by omega) (by omega)) (hp _ _ ?_)
    rw [show kd_R (L q) (L g) [] = [] from rfl, List.append_nil]
    exact H
  | cons a t ih =>
    intro p acc i n cc z hL hi hac H hn hp
    obtain ⟨n, rfl⟩ : ∃ m, n = m + 1 := ⟨n - 1, by omega⟩
    obtain ⟨h1, h2, h3, h4⟩ := H f hf
    rw [kd_Un hne] at h1 h2 h3 h4
    have hlen := congrArg List.length hL
    rw [List.length_append, List.length_cons] at hlen
    rw [List.length_cons] at hn
    have hat := h4
    rw [hL, kd_At_app, hi] at hat
    have h8a : a < 128 := h3 a (by rw [hL]; simp)
    have hL' : L f = (p ++ [a]) ++ t := by rw [hL, List.append_assoc]; rfl
    have hi' : (p ++ [a]).length = i + 1 := by rw [List.length_append, hi]; rfl
    refine br_f (nI_ge (by omega) (by omega)) ?_
    rw [kd_ix, nI_clamp (n := 8 * f + i) (by omega), hat.2.1]
    refine ⟨vp_in_nI (by omega) (by omega), nm_e ?_⟩
    refine xm_isJoin H hq hg h8a ?_
    rw [kd_Un hnq, kd_Un hng]
    refine kd_bb (fun e => ?_) (fun e => ?_)
    · refine xm_append H hs (by rw [kd_Us]; omega) h8a fun c' z' H' => ?_
      rw [kd_Us, kd_UU] at H'
      refine nm_r (nI_1 i) (ih (p ++ [a]) (acc ++ [a]) (i + 1) n c' z' hL' hi' ?_ H' (by omega) ?_)
      · rw [List.length_append, List.length_singleton]
        omega
      · rw [kd_R, List.filter_cons_of_pos (by rw [e]; rfl)] at hp
        rw [List.append_assoc]
        exact hp
    · rw [kd_R, List.filter_cons_of_neg (by rw [e]; decide)] at hp
      exact nm_r (nI_1 i) (ih (p ++ [a]) acc (i + 1) n cc z hL' hi' (by omega) H (by omega) hp)
theorem xm_mr {post : SX → Prop} {L : Nat → List Nat} {c z : Nat → Int32} {s f q g : Nat} (H : kd_X L c z) (hs : s < 6) (hf : f < 6) (hq : q < 6) (hg : g < 6) (hne : f ≠ s) (hnq : q ≠ s) (hng : g ≠ s) (hp : ∀ c' z', kd_X (kd_U L s (kd_R (L q) (L g) (L f))) c' z' → post (c', z')) : wpX_makeRest post (c, z) (nI s) (nI f) (nI q) (nI g) := by
  refine ⟨vp_in_nI hf (by omega), nm_r (kd_zs H hf) ⟨vp_in_nI hs (by omega), ?_⟩⟩
  rw [nI_clamp (n := s) (by omega)]
  exact nm_e ⟨(L f).length + 1, xl_mr hs hf hq hg hne hnq hng (L f) [] [] 0 _ c _ rfl rfl (Nat.le_refl _) (kd_X_clr H) (by omega) hp⟩
theorem xm_isCo {post : Int32 → SX → Prop} {L : Nat → List Nat} {c z : Nat → Int32} {e b : Nat} (H : kd_X L c z) (he : e < 4) (hb : b < 128) (hp : ∀ c' z', kd_X (kd_U L 4 (kd_q b (L e))) c' z' → post (kd_b (kd_fr (kd_q b (L e)))) (c', z')) : wpX_isCokernel post (c, z) (nI e) (nI b) := by
  unfold wpX_isCokernel
  dsimp only
  refine xm_mqc (s := 4) H (by omega) (by omega) (by omega) hb fun c' z' H' => ?_
  refine xm_isFree (s := 4) H' (by omega) ?_
  rw [kd_Us]
  exact ⟨kd_nrw _, hp _ _ H'⟩
/-- is no cube from d on, m of them, one with the same quotient -/
def kd_new (l l4 : List Nat) (d m : Nat) : Bool := (List.range' d m).all fun x => !decide (l4 = kd_q x l)
theorem xl_first {post : Int32 → SX → Prop} {L : Nat → List Nat} {e b : Nat} (he : e < 4) (hb : b < 128) : ∀ (m d n : Nat) (l5 : List Nat) (cc z : Nat → Int32), d + m = b → m < n → kd_X (kd_U L 5 l5) cc z → (∀ l c' z', kd_X (kd_U L 5 l) c' z' → post (kd_b (kd_new (L e) (L 4) d m)) (c', z')) → wX_isFirstWithItsQuotient_2 post (nI e) (nI b) n (nI d) cc z := by
  intro m
  induction m with
  | zero =>
    intro d n l5 cc z hd hn H hp
    obtain ⟨n, rfl⟩ : ∃ m, n = m + 1 := ⟨n - 1, by omega⟩
    exact br_t (nI_le (by omega) (by omega)) (hp _ _ _ H)
  | succ m ih =>
    intro d n l5 cc z hd hn H hp
    obtain ⟨n, rfl⟩ : ∃ m, n = m + 1 := ⟨n - 1, by omega⟩
    refine br_f (nI_ge (by omega) (by omega)) ?_
    refine xm_mqc (s := 5) H (by omega) (by omega) (by omega) (by omega) fun c' z' H' => ?_
    rw [kd_UU, kd_Un (by omega)] at H'
    refine xm_isSame (s := 4) (s' := 5) H' (by omega) (by omega) ?_
    rw [kd_Us, kd_Un (by omega)]
    rw [kd_new, List.range'_succ, List.all_cons] at hp
    refine kd_bb (fun h => ?_) (fun h => ?_)
    · rw [h, Bool.not_false, Bool.true_and] at hp
      exact nm_r (nI_1 d) (ih (d + 1) n _ c' z' (by omega) (by omega) H' hp)
    · rw [h, Bool.not_true, Bool.false_and] at hp
      exact hp _ _ _ H'
theorem xm_first {post : Int32 → SX → Prop} {L : Nat → List Nat} {c z : Nat → Int32} {e b : Nat} (H : kd_X L c z) (he : e < 4) (hb : b < 128) (hp : ∀ l c' z', kd_X (kd_U L 5 l) c' z' → post (kd_b (kd_new (L e) (L 4) 0 b)) (c', z')) : wpX_isFirstWithItsQuotient post (c, z) (nI e) (nI b) :=
  ⟨b + 1, xl_first he hb b 0 _ (L 5) c z (by omega) (by omega) (by rw [kd_UI]; exact H) hp⟩
/-- the expressions' lists; what lies in the work slots is free -/
def kd_XE (E : Nat → List Nat) (c z : Nat → Int32) : Prop := ∃ L, (∀ e, e < 4 → L e = E e) ∧ kd_X L c z
theorem kd_XE_U {E L : Nat → List Nat} {c z : Nat → Int32} {s : Nat} {l : List Nat} (h : ∀ e, e < 4 → L e = E e) (hs : 4 ≤ s) (H : kd_X (kd_U L s l) c z) : kd_XE E c z :=
  ⟨_, fun e he => by rw [kd_Un (by omega)]; exact h e he, H⟩
def kd_cnt (p : Nat → Bool) (l : List Nat) (k : Int32) : Int32 := l.foldl (fun k x => if p x = true then k + 1 else k) k
theorem xl_cok {post : Int32 → SX → Prop} {E : Nat → List Nat} {e : Nat} (he : e < 4) : ∀ (m d n : Nat) (k : Int32) (cc z : Nat → Int32), d + m = 128 → m < n → kd_XE E cc z → (∀ c' z', kd_XE E c' z' → post (kd_cnt (fun x => kd_fr (kd_q x (E e))) (List.range' d m) k) (c', z')) → wX_cokernels_13 post (nI e) n k (nI d) cc z := by
  intro m
  induction m with
  | zero =>
    intro d n k cc z hd hn H hp
    obtain ⟨n, rfl⟩ : ∃ m, n = m + 1 := ⟨n - 1, by omega⟩
    exact br_t (nI_le (a := 128) (by omega) (by omega)) (hp _ _ H)
  | succ m ih =>
    intro d n k cc z hd hn H hp
    obtain ⟨n, rfl⟩ : ∃ m, n = m + 1 := ⟨n - 1, by omega⟩
    obtain ⟨L, hL, HL⟩ := H
    refine br_f (nI_ge (b := 128) (by omega) (by decide)) ?_
    refine xm_isCo HL he (by omega) fun c' z' H' => ?_
    rw [hL e he] at H' ⊢
    have HE := kd_XE_U hL (by omega) H'
    rw [kd_cnt, List.range'_succ, List.foldl_cons] at hp
    refine kd_bb (fun h => ?_) (fun h => ?_)
    · rw [h, if_neg (by decide)] at hp
      exact nm_r (nI_1 d) (ih (d + 1) n _ c' z' (by omega) (by omega) HE hp)
    · rw [h, if_pos rfl] at hp
      exact nm_e (nm_r (nI_1 d) (ih (d + 1) n _ c' z' (by omega) (by omega) HE hp))
def kd_ker (l : List Nat) (x : Nat) : Bool := kd_fr (kd_q x l) && kd_new l (kd_q x l) 0 x
theorem xl_ker {post : Int32 → SX → Prop} {E : Nat → List Nat} {e : Nat} (he : e < 4) : ∀ (m d n : Nat) (k : Int32) (cc z : Nat → Int32), d + m = 128 → m < n → kd_XE E cc z → (∀ c' z', kd_XE E c' z' → post (kd_cnt (kd_ker (E e)) (List.range' d m) k) (c', z')) → wX_kernels_13 post (nI e) n k (nI d) cc z := by
  intro m
  induction m with
  | zero =>
    intro d n k cc z hd hn H hp
    obtain ⟨n, rfl⟩ : ∃ m, n = m + 1 := ⟨n - 1, by omega⟩
    exact br_t (nI_le (a := 128) (by omega) (by omega)) (hp _ _ H)
  | succ m ih =>
    intro d n k cc z hd hn H hp
    obtain ⟨n, rfl⟩ : ∃ m, n = m + 1 := ⟨n - 1, by omega⟩
    obtain ⟨L, hL, HL⟩ := H
    refine br_f (nI_ge (b := 128) (by omega) (by decide)) ?_
    refine xm_isCo HL he (by omega) fun c' z' H' => ?_
    rw [hL e he] at H' ⊢
    have HE := kd_XE_U hL (by omega) H'
    rw [kd_cnt, List.range'_succ, List.foldl_cons] at hp
    refine kd_bb (fun h => ?_) (fun h => ?_)
    · rw [kd_ker, h, Bool.false_and, if_neg (by decide)] at hp
      exact nm_r (nI_1 d) (ih (d + 1) n _ c' z' (by omega) (by omega) HE hp)
    · refine xm_first H' he (by omega) fun l c2 z2 H2 => ?_
      rw [kd_Us, kd_Un (by omega), hL e he]
      have HE2 : kd_XE E c2 z2 := kd_XE_U (L := kd_U L 4 (kd_q d (E e))) (fun j hj => by rw [kd_Un (by omega)]; exact hL j hj) (by omega) H2
      rw [kd_ker, h, Bool.true_and] at hp
      refine kd_bb (fun h2 => ?_) (fun h2 => ?_)
      · rw [h2, if_neg (by decide)] at hp
        exact nm_r (nI_1 d) (ih (d + 1) n _ c2 z2 (by omega) (by omega) HE2 hp)
      · rw [h2, if_pos rfl] at hp
        exact nm_e (nm_r (nI_1 d) (ih (d + 1) n _ c2 z2 (by omega) (by omega) HE2 hp))
def kd_nxt (l : List Nat) : List Nat → Int32
  | [] => -1
  | x :: t => if kd_fr (kd_q x l) = true then nI x else kd_nxt l t
theorem xl_next {post : Int32 → SX → Prop} {E : Nat → List Nat} {e : Nat} (he : e < 4) : ∀ (m d n : Nat) (cc z : Nat → Int32), (d + m = 128 ∨ (m = 0 ∧ 128 ≤ d ∧ d < 2 ^ 31)) → m < n → kd_XE E cc z → (∀ c' z', kd_XE E c' z' → post (kd_nxt (E e) (List.range' d m)) (c', z')) → wX_nextCokernel_22 post (nI e) n (nI d) cc z := by
  intro m
  induction m with
  | zero =>
    intro d n cc z hd hn H hp
    obtain ⟨n, rfl⟩ : ∃ m, n = m + 1 := ⟨n - 1, by omega⟩
    exact br_t (nI_le (a := 128) (by omega) (by omega)) (hp _ _ H)
  | succ m ih =>
    intro d n cc z hd hn H hp
    obtain ⟨n, rfl⟩ : ∃ m, n = m + 1 := ⟨n - 1, by omega⟩
    obtain ⟨L, hL, HL⟩ := H
    refine br_f (nI_ge (b := 128) (by omega) (by decide)) ?_
    refine xm_isCo HL he (by omega) fun c' z' H' => ?_
    rw [hL e he] at H' ⊢
    have HE := kd_XE_U hL (by omega) H'
    rw [List.range'_succ, kd_nxt] at hp
    refine kd_bb (fun h => ?_) (fun h => ?_)
    · rw [h, if_neg (by decide)] at hp
      exact nm_r (nI_1 d) (ih (d + 1) n c' z' (by omega) (by omega) HE hp)
    · rw [h, if_pos rfl] at hp
      exact hp _ _ HE
def kd_hold (b : Nat) (s : Int32 × Nat) (a : Nat) : Int32 × Nat := (if a &&& b = b then s.1 ||| ((1 : Int32) <<< (nI s.2 &&& 31)) else s.1, s.2 + 1)
theorem xl_hold {post : Int32 → Prop} {s len b : Nat} {c z : Nat → Int32} (hs : s < 6) (hl : len ≤ 8) (hb : b < 128) : ∀ (t : List Nat) (i : Nat) (v : Int32) (n : Nat), i + t.length = len → (∀ a ∈ t, a < 128) → kd_At c (8 * s + i) t → t.length < n → post (t.foldl (kd_hold b) (v, i)).1 → wX_holding_29 post (nI s) (nI b) (nI len) c z n v (nI i) := by
  intro t
  induction t with
  | nil =>
    intro i v n hi h8 ha hn hp
    obtain ⟨n, rfl⟩ : ∃ m, n = m + 1 := ⟨n - 1, by omega⟩
    rw [List.length_nil] at hi
    exact br_t (nI_le (by omega) (by omega)) hp
  | cons a t ih =>
    intro i v n hi h8 ha hn hp
    obtain ⟨n, rfl⟩ : ∃ m, n = m + 1 := ⟨n - 1, by omega⟩
    rw [List.length_cons] at hi hn
    have h8a : a < 128 := h8 a (by simp)
    refine br_f (nI_ge (by omega) (by omega)) ?_
    rw [kd_ix, nI_clamp (by omega), ha.1]
    refine ⟨vp_in_nI (by omega) (by omega), ?_⟩
    refine xm_holds h8a hb ?_
    rw [List.foldl_cons, kd_hold] at hp
    refine kd_bb (fun e => ?_) (fun e => ?_)
    · rw [decide_eq_false_iff_not] at e
      rw [if_neg e] at hp
      exact nm_r (nI_1 i) (ih (i + 1) _ n (by omega) (fun y hy => h8 y (by simp [hy])) ha.2 (by omega) hp)
    · rw [decide_eq_true_eq] at e
      rw [if_pos e] at hp
      exact nm_e (nm_r (nI_1 i) (ih (i + 1) _ n (by omega) (fun y hy => h8 y (by simp [hy])) ha.2 (by omega) hp))
def kd_lsv (a : Nat) (l : List Nat) (v : Int32) : Int32 := l.foldl (fun s x => s + ((nI a >>> (nI x &&& 31)) &&& 1)) v
def kd_ls (a : Nat) : Int32 := kd_lsv a (List.range' 0 7) 0
theorem kd_lsv_add (a : Nat) : ∀ (l : List Nat) (v w : Int32), kd_lsv a l (v + w) = v + kd_lsv a l w
  | [], v, w => rfl
  | x :: t, v, w => by
    have := kd_lsv_add a t v (w + ((nI a >>> (nI x &&& 31)) &&& 1))
    rw [← Int32.add_assoc] at this
    exact this
theorem xl_let2 {post : Int32 → Prop} {J : Int32 → Int32 → Prop} {x1 x2 : Int32} {i a : Nat} {c z : Nat → Int32} : ∀ (m d n : Nat) (v : Int32), d + m = 7 → m < n → J (kd_lsv a (List.range' d m) v) (nI (i + 1)) → wX_countLetters_35 post J x1 x2 (nI i) (nI a) c z n v (nI d) := by
  intro m
  induction m with
  | zero =>
    intro d n v hd hn hp
    obtain ⟨n, rfl⟩ : ∃ m, n = m + 1 := ⟨n - 1, by omega⟩
    exact br_t (nI_le (a := 7) (by omega) (by omega)) (nm_r (nI_1 i) hp)
  | succ m ih =>
    intro d n v hd hn hp
    obtain ⟨n, rfl⟩ : ∃ m, n = m + 1 := ⟨n - 1, by omega⟩
    refine br_f (nI_ge (b := 7) (by omega) (by decide)) (nm_e (nm_r (nI_1 d) (ih (d + 1) n _ (by omega) (by omega) ?_)))
    rw [kd_lsv, List.range'_succ, List.foldl_cons] at hp
    exact hp
def kd_clv (l : List Nat) (v : Int32) : Int32 := l.foldl (fun s a => s + kd_ls a) v
theorem xl_let {post : Int32 → Prop} {s len : Nat} {c z : Nat → Int32} (hs : s < 6) (hl : len ≤ 8) : ∀ (t : List Nat) (i : Nat) (v : Int32) (n : Nat), i + t.length = len → kd_At c (8 * s + i) t → t.length < n → post (kd_clv t v) → wX_countLetters_12 post (nI s) (nI len) c z n v (nI i) := by
  intro t
  induction t with
  | nil =>
    intro i v n hi ha hn hp
    obtain ⟨n, rfl⟩ : ∃ m, n = m + 1 := ⟨n - 1, by omega⟩
    rw [List.length_nil] at hi
    exact br_t (nI_le (by omega) (by omega)) hp
  | cons a t ih =>
    intro i v n hi ha hn hp
    obtain ⟨n, rfl⟩ : ∃ m, n = m + 1 := ⟨n - 1, by omega⟩
    rw [List.length_cons] at hi hn
    refine br_f (nI_ge (by omega) (by omega)) ?_
    rw [kd_ix, nI_clamp (by omega), ha.1]
    refine ⟨vp_in_nI (by omega) (by omega), nm_e ⟨8, xl_let2 7 0 8 v rfl (by omega) ?_⟩⟩
    have e : kd_lsv a (List.range' 0 7) v = v + kd_ls a := by
      have := kd_lsv_add a (List.range' 0 7) v 0
      rw [Int32.add_zero] at this
      exact this
    rw [e]
    exact ih (i + 1) _ n (by omega) ha.2 (by omega) hp
theorem xm_let {post : Int32 → Prop} {L : Nat → List Nat} {c z : Nat → Int32} {s : Nat} (H : kd_X L c z) (hs : s < 6) (hp : post (kd_clv (L s) 0)) : wpX_countLetters post (c, z) (nI s) := by
  obtain ⟨h1, h2, h3, h4⟩ := H s hs
  exact ⟨vp_in_nI hs (by omega), nm_r (kd_zs H hs) ⟨(L s).length + 1, xl_let hs h2 (L s) 0 _ _ (by omega) h4 (by omega) hp⟩⟩
end
section
/-! the reference's state: a table of yes and no for each expression -/
def kd_Yl (a : Nat → Int32) (e : Nat) (l : List Nat) : Prop := ∀ x, x < 128 → a (128 * e + x) = kd_b (decide (x ∈ l))
def kd_Y (E : Nat → List Nat) (a : Nat → Int32) : Prop := ∀ e, e < 4 → kd_Yl a e (E e)
/-- strictly rising, below 128 -/
def kd_S (l : List Nat) : Prop := l.Pairwise (· < ·) ∧ ∀ a ∈ l, a < 128
theorem kd_nar1 : vp_nar .boolean 1 = kd_b true := rfl
theorem kd_nar0 : vp_nar .boolean 0 = kd_b false := rfl
theorem ym_ex_t {post : Int32 → Prop} {a q lf : Nat → Int32} {e : Nat} (h : e < 4) (hp : post 1) : wpY_expression post (a, q, lf) (nI e) :=
  br_f (nI_pos (by omega)) (br_f (by
    have h3 : (3 : Int32) = nI 3 := rfl
    rw [h3, nI_ltI (by omega) (by omega)]
    omega) hp)
theorem ym_ex_f {post : Int32 → Prop} {a q lf : Nat → Int32} {x : Int32} (h : kd_bad 4 x) (hp : post 0) : wpY_expression post (a, q, lf) x := by
  rcases h with h | h
  · exact br_t h hp
  · exact br_c (fun _ => hp) (fun _ => br_t (Int32.lt_of_lt_of_le (show (3 : Int32) < nI 4 by decide) h) hp)
theorem ym_cu_t {post : Int32 → Prop} {a q lf : Nat → Int32} {e : Nat} (h : e < 128) (hp : post 1) : wpY_isCube post (a, q, lf) (nI e) :=
  br_f (nI_pos (by omega)) (br_f (by
    have h3 : (127 : Int32) = nI 127 := rfl
    rw [h3, nI_ltI (by omega) (by omega)]
    omega) hp)
theorem ym_cu_f {post : Int32 → Prop} {a q lf : Nat → Int32} {x : Int32} (h : kd_bad 128 x) (hp : post 0) : wpY_isCube post (a, q, lf) x := by
  rcases h with h | h
  · exact br_t h hp
  · exact br_c (fun _ => hp) (fun _ => br_t (Int32.lt_of_lt_of_le (show (127 : Int32) < nI 128 by decide) h) hp)
theorem yl_many {post : Int32 → Prop} {e : Nat} {p : Nat → Bool} {a q lf : Nat → Int32} (he : e < 4) (ha : ∀ x, x < 128 → a (128 * e + x) = kd_b (p x)) : ∀ (m d n k : Nat), d + m = 128 → m < n → post (nI (k + ((List.range' d m).filter p).length)) → wY_many_4 post (nI e) a q lf n (nI k) (nI d) := by
  intro m
  induction m with
  | zero =>
    intro d n k hd hn hp
    obtain ⟨n, rfl⟩ : ∃ m, n = m + 1 := ⟨n - 1, by omega⟩
    exact br_t (nI_le (a := 128) (by omega) (by omega)) hp
  | succ m ih =>
    intro d n k hd hn hp
    obtain ⟨n, rfl⟩ : ∃ m, n = m + 1 := ⟨n - 1, by omega⟩
    refine br_f (nI_ge (b := 128) (by omega) (by decide)) ?_
    rw [kd_iy, nI_clamp (by omega), ha d (by omega)]
    rw [List.range'_succ] at hp
    refine ⟨vp_in_nI (by omega) (by omega), kd_bb (fun h => ?_) (fun h => ?_)⟩
    · rw [List.filter_cons_of_neg (by rw [h]; decide)] at hp
      exact nm_r (nI_1 d) (ih (d + 1) n k (by omega) (by omega) hp)
    · rw [List.filter_cons_of_pos h, List.length_cons] at hp
      refine nm_r (nI_1 k) (nm_r (nI_1 d) (ih (d + 1) n (k + 1) (by omega) (by omega) ?_))
      rw [Nat.add_right_comm]
      exact hp
theorem ym_many {post : Int32 → Prop} {e : Nat} {l : List Nat} {a q lf : Nat → Int32} (he : e < 4) (ha : kd_Yl a e l) (hS : kd_S l) (hp : post (nI l.length)) : wpY_many post (a, q, lf) (nI e) := by
  refine ⟨129, yl_many he ha 128 0 129 0 rfl (by omega) ?_⟩
  rw [kd_sv hS.1 hS.2, Nat.zero_add]
  exact hp
theorem ym_qh {post : Int32 → Prop} {f c x : Nat} {l : List Nat} {a q lf : Nat → Int32} (hf : f < 4) (ha : kd_Yl a f l) (hc : c < 128) (hx : x < 128) (hp : post (kd_b (decide (x ∈ kd_q c l)))) : wpY_quotientHas post (a, q, lf) (nI f) (nI c) (nI x) := by
  unfold wpY_quotientHas
  dsimp only
  have ho := kd_o128 hx hc
  rw [nx_and, kd_or, kd_iy, nI_clamp (n := 128 * f + (x ||| c)) (by omega), ha _ ho, ← nI_0, nI_eq (Nat.lt_of_le_of_lt Nat.and_le_left (by omega)) (by omega), nI_0]
  by_cases h : x &&& c = 0
  · refine br_t h ⟨vp_in_nI (by omega) (by omega), ?_⟩
    have e : decide (x ∈ kd_q c l) = decide ((x ||| c) ∈ l) := by simp [kd_q_mem, h]
    rw [e] at hp
    refine kd_bb (fun h => ?_) (fun h => ?_)
    · rw [h] at hp
      exact hp
    · rw [h] at hp
      exact hp
  · refine br_f h ?_
    have e : decide (x ∈ kd_q c l) = false := by simp [kd_q_mem, h]
    rw [e] at hp
    exact hp
theorem yl_store {post : SY → Prop} {e : Nat} {r : Bool} {P : Nat → Bool} {a0 q lf : Nat → Int32} (he : e < 4) (hs : ∀ x, x < 128 → (if r = true then lf x else q x) = kd_b (P x)) : ∀ (m d n : Nat) (a : Nat → Int32), d + m = 128 → m < n → (∀ x, x < d → a (128 * e + x) = kd_b (P x)) → (∀ j, (j < 128 * e ∨ 128 * e + 128 ≤ j) → a j = a0 j) → (∀ a', (∀ x, x < 128 → a' (128 * e + x) = kd_b (P x)) → (∀ j, (j < 128 * e ∨ 128 * e + 128 ≤ j) → a' j = a0 j) → post (a', q, lf)) → wY_store_2 post (nI e) (kd_b r) n (nI d) a q lf := by
  intro m
  induction m with
  | zero =>
    intro d n a hd hn h1 h2 hp
    obtain ⟨n, rfl⟩ : ∃ m, n = m + 1 := ⟨n - 1, by omega⟩
    exact br_t (nI_le (a := 128) (by omega) (by omega)) (hp _ (fun x hx => h1 x (by omega)) h2)
  | succ m ih =>
    intro d n a hd hn h1 h2 hp
    obtain ⟨n, rfl⟩ : ∃ m, n = m + 1 := ⟨n - 1, by omega⟩
    refine br_f (nI_ge (b := 128) (by omega) (by decide)) ?_
    have hsd := hs d (by omega)
    rw [kd_iy, nI_clamp (n := 128 * e + d) (by omega), nI_clamp (n := d) (by omega)]
    have W : ∀ v : Int32, v = kd_b (P d) → (vp_in (nI d) 128 ∧ vp_in (nI (128 * e + d)) 512 ∧ ∀ a2, a2 = upd a (128 * e + d) (vp_nar .boolean v) → ∀ x3, x3 = nI d + 1 → wY_store_2 post (nI e) (kd_b r) n x3 a2 q lf) := by
      intro v hv
      rw [hv, kd_nar]
      refine ⟨vp_in_nI (by omega) (by omega), vp_in_nI (by omega) (by omega), nm_e (nm_r (nI_1 d) (ih (d + 1) n _ (by omega) (by omega) (fun x hx => ?_) (fun j hj => ?_) hp))⟩
      · by_cases h : x = d
        · rw [h, pk_us]
        · rw [pk_un (by omega)]
          exact h1 x (by omega)
      · rw [pk_un (by omega)]
        exact h2 j hj
    refine kd_bb (fun h => ?_) (fun h => ?_)
    · rw [h, if_neg (by decide)] at hsd
      exact W _ hsd
    · rw [h, if_pos rfl] at hsd
      exact W _ hsd
theorem ym_store {post : SY → Prop} {E : Nat → List Nat} {e : Nat} {r : Bool} {l : List Nat} {a q lf : Nat → Int32} (he : e < 4) (H : kd_Y E a) (hs : ∀ x, x < 128 → (if r = true then lf x else q x) = kd_b (decide (x ∈ l))) (hp : ∀ a', kd_Y (kd_U E e l) a' → post (a', q, lf)) : wpY_store post (a, q, lf) (nI e) (kd_b r) := by
  refine ⟨129, yl_store (a0 := a) he hs 128 0 129 a rfl (by omega) (fun x hx => by omega) (fun _ _ => rfl) fun a' h1 h2 => hp a' ?_⟩
  intro j hj
  by_cases h : j = e
  · subst h
    rw [kd_Us]
    exact h1
  · rw [kd_Un h]
    intro x hx
    rw [h2 _ (by omega)]
    exact H j hj x hx
theorem yl_divBy {post : Int32 → SY → Prop} {E : Nat → List Nat} {e f b : Nat} {a lf : Nat → Int32} (he : e < 4) (hf : f < 4) (hb : b < 128) (H : kd_Y E a) (hS : kd_S (E f)) : ∀ (m d n : Nat) (q : Nat → Int32), d + m = 128 → m < n → (∀ x, x < d → q x = kd_b (decide (x ∈ kd_q b (E f)))) → (∀ a' q', kd_Y (kd_U E e (kd_q b (E f))) a' → post (nI (kd_q b (E f)).length) (a', q', lf)) → wY_divideBy_29 post (nI e) (nI f) (nI b) n (nI d) a q lf := by
  intro m
  induction m with
  | zero =>
    intro d n q hd hn h1 hp
    obtain ⟨n, rfl⟩ : ∃ m, n = m + 1 := ⟨n - 1, by omega⟩
    refine br_t (nI_le (a := 128) (by omega) (by omega)) ?_
    refine ym_store (r := false) (l := kd_q b (E f)) he H (fun x hx => h1 x (by omega)) fun a' H' => ?_
    have Hl := H' e he
    rw [kd_Us] at Hl
    exact ym_many he Hl ⟨kd_q_S hb hS.1 hS.2, kd_q_128 hb hS.2⟩ (hp _ _ H')
  | succ m ih =>
    intro d n q hd hn h1 hp
    obtain ⟨n, rfl⟩ : ∃ m, n = m + 1 := ⟨n - 1, by omega⟩
    refine br_f (nI_ge (b := 128) (by omega) (by decide)) ?_
    refine ym_qh hf (H f hf) hb (by omega) ?_
    rw [nI_clamp (n := d) (by omega), kd_nar]
    refine ⟨vp_in_nI (by omega) (by omega), nm_e (nm_r (nI_1 d) (ih (d + 1) n _ (by omega) (by omega) (fun x hx => ?_) hp))⟩
    by_cases h : x = d
    · rw [h, pk_us]
    · rw [pk_un (by omega)]
      exact h1 x (by omega)
theorem yl_work132 {post : SY → Prop} {J : Int32 → (Nat → Int32) → (Nat → Int32) → (Nat → Int32) → Prop} {g d : Nat} {G : Bool} {Q : Nat → Bool} {a q : Nat → Int32} (hg : g < 4) (hd : d < 128) (hG : a (128 * g + d) = kd_b G) (hQ : ∀ x, x < 128 → q x = kd_b (Q x)) : ∀ (m y n : Nat) (R : Nat → Bool) (lf : Nat → Int32), y + m = 128 → m < n → (∀ x, x < 128 → lf x = kd_b (R x)) → (∀ l', (∀ x, x < 128 → l' x = kd_b (R x && !(List.range' y m).any fun y => G && Q y && decide (y ||| d = x))) → J (nI (d + 1)) a q l') → wY_work_132 post J (nI g) (nI d) n (nI y) a q lf := by
  intro m
  induction m with
  | zero =>
    intro y n R lf hy hn hl hp
    obtain ⟨n, rfl⟩ : ∃ m, n = m + 1 := ⟨n - 1, by omega⟩
    refine br_t (nI_le (a := 128) (by omega) (by omega)) (nm_r (nI_1 d) (hp _ fun x hx => ?_))
    rw [hl x hx, List.range'_zero, List.any_nil, Bool.not_false, Bool.and_true]
  | succ m ih =>
    intro y n R lf hy hn hl hp
    obtain ⟨n, rfl⟩ : ∃ m, n = m + 1 := ⟨n - 1, by omega⟩
    refine br_f (nI_ge (b := 128) (by omega) (by decide)) ?_
    have ho := kd_o128 (show y < 128 by omega) hd
    rw [kd_iy, nI_clamp (n := 128 * g + d) (by omega), nI_clamp (n := y) (by omega), kd_or, nI_clamp (n := y ||| d) (by omega), hG, hQ y (by omega), kd_nar0]
    simp only [List.range'_succ, List.any_cons] at hp
    refine ⟨vp_in_nI (by omega) (by omega), kd_bb (fun h => ?_) (fun h => ?_)⟩
    · refine nm_r (nI_1 y) (ih (y + 1) n R lf (by omega) (by omega) hl fun l' hl' => hp l' fun x hx => ?_)
      rw [hl' x hx]
      simp [h]
    · refine ⟨vp_in_nI (by omega) (by omega), kd_bb (fun h2 => ?_) (fun h2 => ?_)⟩
      · refine nm_r (nI_1 y) (ih (y + 1) n R lf (by omega) (by omega) hl fun l' hl' => hp l' fun x hx => ?_)
        rw [hl' x hx]
        simp [h2]
      · refine ⟨vp_in_nI (by omega) (by omega), nm_e (nm_r (nI_1 y) (ih (y + 1) n (fun x => R x && !decide (y ||| d = x)) _ (by omega) (by omega) (fun x hx => ?_) fun l' hl' => hp l' fun x hx => ?_))⟩
        · by_cases hxx : y ||| d = x
          · rw [← hxx, pk_us]
            simp
          · rw [pk_un (fun e => hxx e.symm), hl x hx]
            simp [hxx]
        · rw [hl' x hx]
          simp only [h, h2, Bool.true_and, Bool.not_or, Bool.and_assoc]
theorem yl_work122 {post : SY → Prop} {g : Nat} {G Q : Nat → Bool} {a q : Nat → Int32} (hg : g < 4) (hG : ∀ x, x < 128 → a (128 * g + x) = kd_b (G x)) (hQ : ∀ x, x < 128 → q x = kd_b (Q x)) : ∀ (m d n : Nat) (R : Nat → Bool) (lf : Nat → Int32), d + m = 128 → m < n → (∀ x, x < 128 → lf x = kd_b (R x)) → (∀ l', (∀ x, x < 128 → l' x = kd_b (R x && !(List.range' d m).any fun d => (List.range' 0 128).any fun y => G d && Q y && decide (y ||| d = x))) → post (a, q, l')) → wY_work_122 post (nI g) n (nI d) a q lf := by
  intro m
  induction m with
  | zero =>
    intro d n R lf hd hn hl hp
    obtain ⟨n, rfl⟩ : ∃ m, n = m + 1 := ⟨n - 1, by omega⟩
    refine br_t (nI_le (a := 128) (by omega) (by omega)) (hp _ fun x hx => ?_)
    rw [hl x hx, List.range'_zero, List.any_nil, Bool.not_false, Bool.and_true]
  | succ m ih =>
    intro d n R lf hd hn hl hp
    obtain ⟨n, rfl⟩ : ∃ m, n = m + 1 := ⟨n - 1, by omega⟩
    refine br_f (nI_ge (b := 128) (by omega) (by decide)) ⟨129, ?_⟩
    refine yl_work132 hg (by omega) (hG d (by omega)) hQ 128 0 129 R lf rfl (by omega) hl fun l' hl' => ?_
    refine ih (d + 1) n _ l' (by omega) (by omega) hl' fun l2 hl2 => hp l2 fun x hx => ?_
    have e : List.range' d (m + 1) = d :: List.range' (d + 1) m := rfl
    rw [hl2 x hx, e, List.any_cons, Bool.not_or, Bool.and_assoc]
theorem yl_work52 {post : SY → Prop} {J : Int32 → (Nat → Int32) → (Nat → Int32) → (Nat → Int32) → Prop} {f g d : Nat} {l : List Nat} {G : Bool} {P : Nat → Bool} {a lf : Nat → Int32} (hf : f < 4) (hg : g < 4) (hd : d < 128) (hl : kd_Yl a f l) (hG : a (128 * g + d) = kd_b G) : ∀ (m y n : Nat) (q : Nat → Int32), y + m = 128 → m < n → (∀ x, x < y → q x = kd_b (P x && (!G || decide (x ∈ kd_q d l)))) → (∀ x, y ≤ x → x < 128 → q x = kd_b (P x)) → (∀ q', (∀ x, x < 128 → q' x = kd_b (P x && (!G || decide (x ∈ kd_q d l)))) → J (nI (d + 1)) a q' lf) → wY_work_52 post J (nI f) (nI g) (nI d) n (nI y) a q lf := by
  intro m
  induction m with
  | zero =>
    intro y n q hy hn h1 h2 hp
    obtain ⟨n, rfl⟩ : ∃ m, n = m + 1 := ⟨n - 1, by omega⟩
    exact br_t (nI_le (a := 128) (by omega) (by omega)) (nm_r (nI_1 d) (hp _ fun x hx => h1 x (by omega)))
  | succ m ih =>
    intro y n q hy hn h1 h2 hp
    obtain ⟨n, rfl⟩ : ∃ m, n = m + 1 := ⟨n - 1, by omega⟩
    refine br_f (nI_ge (b := 128) (by omega) (by decide)) ?_
    have W : ∀ v : Bool, v = (P y && (!G || decide (y ∈ kd_q d l))) → (vp_in (nI y) 128 ∧ ∀ q2, q2 = upd q y (kd_b v) → ∀ x4, x4 = nI y + 1 → wY_work_52 post J (nI f) (nI g) (nI d) n x4 a q2 lf) := by
      intro v hv
      refine ⟨vp_in_nI (by omega) (by omega), nm_e (nm_r (nI_1 y) (ih (y + 1) n _ (by omega) (by omega) (fun x hx => ?_) (fun x hx hx' => ?_) hp))⟩
      · by_cases h : x = y
        · rw [h, pk_us, hv]
        · rw [pk_un (by omega)]
          exact h1 x (by omega)
      · rw [pk_un (by omega)]
        exact h2 x (by omega) hx'
    rw [kd_iy, nI_clamp (n := 128 * g + d) (by omega), nI_clamp (n := y) (by omega), hG, h2 y (by omega) (by omega), kd_nar0, kd_nar1]
    refine ⟨vp_in_nI (by omega) (by omega), kd_bb (fun h => ?_) (fun h => ?_)⟩
    · exact W _ (by rw [h, Bool.false_and])
    · refine ⟨vp_in_nI (by omega) (by omega), kd_bb (fun h3 => ?_) (fun h3 => ?_)⟩
      · exact W _ (by rw [h, h3]; rfl)
      · refine ym_qh hf hl hd (by omega) ?_
        refine kd_bb (fun h4 => ?_) (fun h4 => ?_)
        · exact W _ (by rw [h, h3, h4]; rfl)
        · exact W _ (by rw [h, h3, h4]; rfl)
theorem yl_work42 {post : SY → Prop} {f g : Nat} {l : List Nat} {G : Nat → Bool} {a lf : Nat → Int32} (hf : f < 4) (hg : g < 4) (hl : kd_Yl a f l) (hG : ∀ x, x < 128 → a (128 * g + x) = kd_b (G x)) : ∀ (m d n : Nat) (P : Nat → Bool) (q : Nat → Int32), d + m = 128 → m < n → (∀ x, x < 128 → q x = kd_b (P x)) → (∀ q', (∀ x, x < 128 → q' x = kd_b (P x && (List.range' d m).all fun c => !G c || decide (x ∈ kd_q c l))) → ∃ n122, wY_work_122 post (nI g) n122 0 a q' lf) → wY_work_42 post (nI f) (nI g) n (nI d) a q lf := by
  intro m
  induction m with
  | zero =>
    intro d n P q hd hn hq hp
    obtain ⟨n, rfl⟩ : ∃ m, n = m + 1 := ⟨n - 1, by omega⟩
    refine br_t (nI_le (a := 128) (by omega) (by omega)) (hp _ fun x hx => ?_)
    rw [hq x hx, List.range'_zero, List.all_nil, Bool.and_true]
  | succ m ih =>
    intro d n P q hd hn hq hp
    obtain ⟨n, rfl⟩ : ∃ m, n = m + 1 := ⟨n - 1, by omega⟩
    refine br_f (nI_ge (b := 128) (by omega) (by decide)) ⟨129, ?_⟩
    refine yl_work52 (P := P) hf hg (by omega) hl (hG d (by omega)) 128 0 129 q rfl (by omega) (fun x hx => by omega) (fun x _ hx => hq x hx) fun q' hq' => ?_
    refine ih (d + 1) n _ q' (by omega) (by omega) hq' fun q2 hq2 => hp q2 fun x hx => ?_
    rw [hq2 x hx, List.range'_succ, List.all_cons, Bool.and_assoc]
theorem yl_work2 {post : SY → Prop} {f g : Nat} {l : List Nat} {a : Nat → Int32} (hf : f < 4) (hl : kd_Yl a f l) : ∀ (m d n : Nat) (q lf : Nat → Int32), d + m = 128 → m < n → (∀ x, x < d → q x = kd_b true) → (∀ x, x < d → lf x = kd_b (decide (x ∈ l))) → (∀ q' l', (∀ x, x < 128 → q' x = kd_b true) → (∀ x, x < 128 → l' x = kd_b (decide (x ∈ l))) → ∃ n42, wY_work_42 post (nI f) (nI g) n42 0 a q' l') → wY_work_2 post (nI f) (nI g) n (nI d) a q lf := by
  intro m
  induction m with
  | zero =>
    intro d n q lf hd hn h1 h2 hp
    obtain ⟨n, rfl⟩ : ∃ m, n = m + 1 := ⟨n - 1, by omega⟩
    exact br_t (nI_le (a := 128) (by omega) (by omega)) (hp _ _ (fun x hx => h1 x (by omega)) (fun x hx => h2 x (by omega)))
  | succ m ih =>
    intro d n q lf hd hn h1 h2 hp
    obtain ⟨n, rfl⟩ : ∃ m, n = m + 1 := ⟨n - 1, by omega⟩
    refine br_f (nI_ge (b := 128) (by omega) (by decide)) ?_
    rw [kd_iy, nI_clamp (n := 128 * f + d) (by omega), nI_clamp (n := d) (by omega), hl d (by omega), kd_nar, kd_nar1]
    refine ⟨vp_in_nI (by omega) (by omega), nm_e ⟨vp_in_nI (by omega) (by omega), vp_in_nI (by omega) (by omega), nm_e (nm_r (nI_1 d) (ih (d + 1) n _ _ (by omega) (by omega) (fun x hx => ?_) (fun x hx => ?_) hp))⟩⟩
    · by_cases h : x = d
      · rw [h, pk_us]
      · rw [pk_un (by omega)]
        exact h1 x (by omega)
    · by_cases h : x = d
      · rw [h, pk_us]
      · rw [pk_un (by omega)]
        exact h2 x (by omega)

theorem kd_Q_mem {d x : Nat} {tg f : List Nat} : x ∈ kd_Q d (d :: tg) f f ↔ ∀ c ∈ d :: tg, x ∈ kd_q c f := by
  have hi : ∀ y, kd_inq y f (d :: tg) = true ↔ ∀ c ∈ d :: tg, y ∈ kd_q c f := by
    intro y
    rw [kd_inq, List.all_eq_true]
    simp only [Bool.and_eq_true, decide_eq_true_eq, kd_q_mem]
  simp only [kd_Q, List.mem_map, List.mem_filter, Bool.and_eq_true, decide_eq_true_eq]
  constructor
  · rintro ⟨w, ⟨_, _, h⟩, rfl⟩
    exact (hi _).mp h
  · intro h
    have h0 := kd_q_mem.mp (h d (by simp))
    have hb := kd_bits h0.1
    exact ⟨x ||| d, ⟨h0.2, hb.1, by rw [hb.2]; exact (hi x).mpr h⟩, hb.2⟩
theorem kd_Q_S {d : Nat} {g f : List Nat} (hd : d < 128) (hf : kd_S f) : kd_S (kd_Q d g f f) := by
  constructor
  · apply kd_mapS hd
    · exact List.Pairwise.filter _ hf.1
    · intro a hm
      rw [List.mem_filter, Bool.and_eq_true, decide_eq_true_eq] at hm
      exact ⟨hf.2 a hm.1, hm.2.1⟩
  · intro a hm
    simp only [kd_Q, List.mem_map, List.mem_filter] at hm
    obtain ⟨w, ⟨h1, _⟩, rfl⟩ := hm
    exact kd_x128 (hf.2 w h1) hd
theorem kd_R_S {q g f : List Nat} (hf : kd_S f) : kd_S (kd_R q g f) :=
  ⟨List.Pairwise.filter _ hf.1, fun a hm => hf.2 a (List.mem_filter.mp hm).1⟩
theorem kd_wq {d x : Nat} {tg f : List Nat} (hg : ∀ a ∈ d :: tg, a < 128) : (true && (List.range' 0 128).all fun c => !decide (c ∈ d :: tg) || decide (x ∈ kd_q c f)) = decide (x ∈ kd_Q d (d :: tg) f f) := by
  rw [Bool.true_and, Bool.eq_iff_iff, decide_eq_true_eq, kd_Q_mem, List.all_eq_true]
  constructor
  · intro h c hc
    have := h c ((kd_r128 c).mpr (hg c hc))
    rw [decide_eq_true hc, Bool.not_true, Bool.false_or, decide_eq_true_eq] at this
    exact this
  · intro h c hc
    by_cases hm : c ∈ d :: tg
    · rw [decide_eq_true (h c hm), Bool.or_true]
    · rw [decide_eq_false hm]
      rfl
theorem kd_wr {x : Nat} {q g f : List Nat} (hq : ∀ a ∈ q, a < 128) (hg : ∀ a ∈ g, a < 128) : (decide (x ∈ f) && !(List.range' 0 128).any fun d => (List.range' 0 128).any fun y => decide (d ∈ g) && decide (y ∈ q) && decide (y ||| d = x)) = decide (x ∈ kd_R q g f) := by
  have e : ((List.range' 0 128).any fun d => (List.range' 0 128).any fun y => decide (d ∈ g) && decide (y ∈ q) && decide (y ||| d = x)) = kd_jn x q g := by
    rw [Bool.eq_iff_iff]
    simp only [kd_jn, List.any_eq_true, Bool.and_eq_true, decide_eq_true_eq]
    constructor
    · rintro ⟨d, _, y, _, ⟨h1, h2⟩, h3⟩
      exact ⟨y, h2, d, h1, h3⟩
    · rintro ⟨y, h2, d, h1, h3⟩
      exact ⟨d, (kd_r128 d).mpr (hg d h1), y, (kd_r128 y).mpr (hq y h2), ⟨h1, h2⟩, h3⟩
  rw [e, kd_R, Bool.eq_iff_iff]
  simp only [Bool.and_eq_true, decide_eq_true_eq, List.mem_filter]
theorem ym_work {post : SY → Prop} {E : Nat → List Nat} {f g d : Nat} {tg : List Nat} {a q lf : Nat → Int32} (hf : f < 4) (hg : g < 4) (H : kd_Y E a) (hSf : kd_S (E f)) (hSg : kd_S (E g)) (hd : E g = d :: tg) (hp : ∀ q' l', (∀ x, x < 128 → q' x = kd_b (decide (x ∈ kd_Q d (E g) (E f) (E f)))) → (∀ x, x < 128 → l' x = kd_b (decide (x ∈ kd_R (kd_Q d (E g) (E f) (E f)) (E g) (E f)))) → post (a, q', l')) : wpY_work post (a, q, lf) (nI f) (nI g) := by
  have hd8 : d < 128 := hSg.2 d (by rw [hd]; simp)
  refine ⟨129, yl_work2 hf (H f hf) 128 0 129 q lf rfl (by omega) (fun x hx => by omega) (fun x hx => by omega) fun q1 l1 hq1 hl1 => ⟨129, ?_⟩⟩
  refine yl_work42 hf hg (H f hf) (H g hg) 128 0 129 (fun _ => true) q1 rfl (by omega) hq1 fun q2 hq2 => ⟨129, ?_⟩
  have hq3 : ∀ x, x < 128 → q2 x = kd_b (decide (x ∈ kd_Q d (E g) (E f) (E f))) := by
    intro x hx
    rw [hq2 x hx, hd]
    exact congrArg kd_b (kd_wq (by rw [← hd]; exact hSg.2))
  refine yl_work122 hg (H g hg) hq3 128 0 129 _ l1 rfl (by omega) hl1 fun l2 hl2 => hp q2 l2 hq3 fun x hx => ?_
  rw [hl2 x hx]
  exact congrArg kd_b (kd_wr (kd_Q_S hd8 hSf).2 hSg.2)
theorem ym_div {post : Int32 → Prop} {E : Nat → List Nat} {f g : Nat} {a q lf : Nat → Int32} (hf : f < 4) (hg : g < 4) (H : kd_Y E a) (hSg : kd_S (E g)) (hl : (E g).length ≤ 8) (hp : post (kd_b (decide (E g ≠ [])))) : wpY_divides post (a, q, lf) (nI f) (nI g) := by
  unfold wpY_divides
  dsimp only
  refine ym_ex_t hf ?_
  refine br_f (by decide) ?_
  refine ym_ex_t hg ?_
  refine br_f (by decide) ?_
  refine ym_many hg (H g hg) hSg ?_
  by_cases h : E g = []
  · rw [h] at hp ⊢
    exact br_t (by decide) hp
  · have e : decide (E g ≠ []) = true := by simp [h]
    rw [e] at hp
    exact br_f (nI_nle (List.length_pos_iff.mpr h) (by omega)) hp
theorem ym_div_f {post : Int32 → Prop} {a q lf : Nat → Int32} {x y : Int32} (h : kd_bad 4 x ∨ kd_bad 4 y) (hp : post 0) : wpY_divides post (a, q, lf) x y := by
  unfold wpY_divides
  dsimp only
  rcases kd_cas 4 (by decide) x with hx | ⟨j, hj, rfl⟩
  · refine ym_ex_f hx ?_
    exact br_t rfl hp
  · rcases h with h | h
    · refine ym_ex_f h ?_
      exact br_t rfl hp
    · refine ym_ex_t hj ?_
      refine br_f (by decide) ?_
      refine ym_ex_f h ?_
      exact br_t rfl hp
end
section
theorem yl_common {post : Int32 → Prop} {e : Nat} {p : Nat → Bool} {a q lf : Nat → Int32} (he : e < 4) (ha : ∀ x, x < 128 → a (128 * e + x) = kd_b (p x)) : ∀ (m d n : Nat) (v : Int32), d + m = 128 → m < n → post (((List.range' d m).filter p).foldl (fun a x => a &&& nI x) v) → wY_common_23 post (nI e) a q lf n v (nI d) := by
  intro m
  induction m with
  | zero =>
    intro d n v hd hn hp
    obtain ⟨n, rfl⟩ : ∃ m, n = m + 1 := ⟨n - 1, by omega⟩
    exact br_t (nI_le (a := 128) (by omega) (by omega)) hp
  | succ m ih =>
    intro d n v hd hn hp
    obtain ⟨n, rfl⟩ : ∃ m, n = m + 1 := ⟨n - 1, by omega⟩
    refine br_f (nI_ge (b := 128) (by omega) (by decide)) ?_
    rw [kd_iy, nI_clamp (by omega), ha d (by omega)]
    rw [List.range'_succ] at hp
    refine ⟨vp_in_nI (by omega) (by omega), kd_bb (fun h => ?_) (fun h => ?_)⟩
    · rw [List.filter_cons_of_neg (by rw [h]; decide)] at hp
      exact nm_r (nI_1 d) (ih (d + 1) n _ (by omega) (by omega) hp)
    · rw [List.filter_cons_of_pos h, List.foldl_cons] at hp
      exact nm_e (nm_r (nI_1 d) (ih (d + 1) n _ (by omega) (by omega) hp))
theorem yl_free {post : Int32 → Prop} {e c : Nat} {l : List Nat} {a q lf : Nat → Int32} (he : e < 4) (hc : c < 128) (ha : kd_Yl a e l) : ∀ (m d n k : Nat) (v : Int32), d + m = 128 → m < n → k + m ≤ 128 → post (kd_b (decide (2 ≤ k + ((List.range' d m).filter fun x => decide (x ∈ kd_q c l)).length) && decide (((List.range' d m).filter fun x => decide (x ∈ kd_q c l)).foldl (fun a x => a &&& nI x) v = 0))) → wY_freeBy_9 post (nI e) (nI c) a q lf n (nI k) v (nI d) := by
  intro m
  induction m with
  | zero =>
    intro d n k v hd hn hk hp
    obtain ⟨n, rfl⟩ : ∃ m, n = m + 1 := ⟨n - 1, by omega⟩
    refine br_t (nI_le (a := 128) (by omega) (by omega)) ?_
    simp only [List.range'_zero, List.filter_nil, List.length_nil, Nat.add_zero, List.foldl_nil] at hp
    by_cases h : 2 ≤ k
    · rw [decide_eq_true h, Bool.true_and] at hp
      refine br_f (nI_nlt (b := 2) h (by omega)) ?_
      by_cases h0 : v = 0
      · rw [decide_eq_true h0] at hp
        exact br_t h0 hp
      · rw [decide_eq_false h0] at hp
        exact br_f h0 hp
    · rw [decide_eq_false h, Bool.false_and] at hp
      exact br_t (nI_lt (b := 2) (by omega) (by decide)) hp
  | succ m ih =>
    intro d n k v hd hn hk hp
    obtain ⟨n, rfl⟩ : ∃ m, n = m + 1 := ⟨n - 1, by omega⟩
    refine br_f (nI_ge (b := 128) (by omega) (by decide)) ?_
    refine ym_qh he ha hc (by omega) ?_
    rw [List.range'_succ] at hp
    refine kd_bb (fun h => ?_) (fun h => ?_)
    · rw [List.filter_cons_of_neg (by rw [h]; decide)] at hp
      rw [h]
      exact br_t rfl (nm_r (nI_1 d) (ih (d + 1) n k _ (by omega) (by omega) (by omega) hp))
    · rw [List.filter_cons_of_pos (p := fun x => decide (x ∈ kd_q c l)) (a := d) h, List.foldl_cons, List.length_cons] at hp
      rw [h, nI_1 k]
      refine br_f (by decide) (nm_e (nm_r (nI_1 d) (ih (d + 1) n (k + 1) _ (by omega) (by omega) (by omega) ?_)))
      rw [Nat.add_right_comm]
      exact hp
theorem ym_free {post : Int32 → Prop} {e c : Nat} {l : List Nat} {a q lf : Nat → Int32} (he : e < 4) (hc : c < 128) (ha : kd_Yl a e l) (hS : kd_S l) (hp : post (kd_b (kd_fr (kd_q c l)))) : wpY_freeBy post (a, q, lf) (nI e) (nI c) := by
  refine ⟨129, yl_free he hc ha 128 0 129 0 127 rfl (by omega) (by omega) ?_⟩
  rw [kd_sv (kd_q_S hc hS.1 hS.2) (kd_q_128 hc hS.2), Nat.zero_add]
  exact hp
theorem kd_q0 (l : List Nat) : kd_q 0 l = l := by
  have h1 : (l.filter fun w => decide (w &&& 0 = 0)) = l := by
    rw [List.filter_eq_self]
    intro a _
    simp
  have h2 : (fun w : Nat => w ^^^ 0) = id := by
    funext w
    simp
  rw [kd_q, h1, h2, List.map_id]
theorem yl_same {post : Int32 → Prop} {e c d : Nat} {l : List Nat} {a q lf : Nat → Int32} (he : e < 4) (hc : c < 128) (hd : d < 128) (ha : kd_Yl a e l) : ∀ (m y n : Nat) (ok : Bool), y + m = 128 → m < n → post (kd_b (ok && (List.range' y m).all fun x => decide (x ∈ kd_q c l) == decide (x ∈ kd_q d l))) → wY_same_6 post (nI e) (nI c) (nI d) a q lf n (kd_b ok) (nI y) := by
  intro m
  induction m with
  | zero =>
    intro y n ok hy hn hp
    obtain ⟨n, rfl⟩ : ∃ m, n = m + 1 := ⟨n - 1, by omega⟩
    rw [List.range'_zero, List.all_nil, Bool.and_true] at hp
    exact br_t (nI_le (a := 128) (by omega) (by omega)) ⟨kd_nrw _, hp⟩
  | succ m ih =>
    intro y n ok hy hn hp
    obtain ⟨n, rfl⟩ : ∃ m, n = m + 1 := ⟨n - 1, by omega⟩
    refine br_f (nI_ge (b := 128) (by omega) (by decide)) ?_
    refine kd_bb (fun h => ?_) (fun h => ?_)
    · rw [h, Bool.false_and] at hp
      rw [h]
      exact ⟨kd_nrw _, hp⟩
    · rw [h, Bool.true_and, List.range'_succ, List.all_cons] at hp
      refine ym_qh he ha hc (by omega) ?_
      refine ym_qh he ha hd (by omega) ?_
      rw [kd_bi]
      by_cases h2 : decide (y ∈ kd_q c l) = decide (y ∈ kd_q d l)
      · refine br_t h2 (nm_r (nI_1 y) (ih (y + 1) n true (by omega) (by omega) ?_))
        rw [h2, beq_self_eq_true, Bool.true_and] at hp
        exact hp
      · refine br_f h2 (nm_r (nI_1 y) (ih (y + 1) n false (by omega) (by omega) ?_))
        rw [beq_false_of_ne h2, Bool.false_and] at hp
        exact hp
theorem ym_same {post : Int32 → Prop} {e c d : Nat} {l : List Nat} {a q lf : Nat → Int32} (he : e < 4) (hc : c < 128) (hd : d < 128) (ha : kd_Yl a e l) (hS : kd_S l) (hp : post (kd_b (decide (kd_q c l = kd_q d l)))) : wpY_same post (a, q, lf) (nI e) (nI c) (nI d) := by
  refine ⟨129, yl_same he hc hd ha 128 0 129 true rfl (by omega) ?_⟩
  have e : (true && (List.range' 0 128).all fun x => decide (x ∈ kd_q c l) == decide (x ∈ kd_q d l)) = decide (kd_q c l = kd_q d l) := by
    rw [Bool.true_and, Bool.eq_iff_iff, List.all_eq_true, decide_eq_true_eq]
    constructor
    · intro h
      apply kd_ext _ _ (kd_q_S hc hS.1 hS.2) (kd_q_S hd hS.1 hS.2)
      intro x
      constructor
      · intro hx
        have := h x ((kd_r128 x).mpr (kd_q_128 hc hS.2 x hx))
        rw [decide_eq_true hx, beq_iff_eq] at this
        exact decide_eq_true_eq.mp this.symm
      · intro hx
        have := h x ((kd_r128 x).mpr (kd_q_128 hd hS.2 x hx))
        rw [decide_eq_true hx, beq_iff_eq] at this
        exact decide_eq_true_eq.mp this
    · intro h x _
      rw [h, beq_self_eq_true]
  rw [e]
  exact hp
theorem yl_cok {post : Int32 → Prop} {e : Nat} {l : List Nat} {a q lf : Nat → Int32} (he : e < 4) (ha : kd_Yl a e l) (hS : kd_S l) : ∀ (m d n : Nat) (k : Int32), d + m = 128 → m < n → post (kd_cnt (fun x => kd_fr (kd_q x l)) (List.range' d m) k) → wY_cokernels_4 post (nI e) a q lf n k (nI d) := by
  intro m
  induction m with
  | zero =>
    intro d n k hd hn hp
    obtain ⟨n, rfl⟩ : ∃ m, n = m + 1 := ⟨n - 1, by omega⟩
    refine br_t (nI_le (a := 128) (by omega) (by omega)) ?_
    refine ym_ex_t he ?_
    exact br_f (by decide) hp
  | succ m ih =>
    intro d n k hd hn hp
    obtain ⟨n, rfl⟩ : ∃ m, n = m + 1 := ⟨n - 1, by omega⟩
    refine br_f (nI_ge (b := 128) (by omega) (by decide)) ?_
    refine ym_ex_t he ?_
    refine br_f (by decide) ?_
    refine ym_free he (by omega) ha hS ?_
    rw [kd_cnt, List.range'_succ, List.foldl_cons] at hp
    refine kd_bb (fun h => ?_) (fun h => ?_)
    · rw [h, if_neg (by decide)] at hp
      exact nm_r (nI_1 d) (ih (d + 1) n _ (by omega) (by omega) hp)
    · rw [h, if_pos rfl] at hp
      exact nm_e (nm_r (nI_1 d) (ih (d + 1) n _ (by omega) (by omega) hp))
theorem yl_ker2 {post : Int32 → Prop} {J : Int32 → Int32 → Prop} {e c : Nat} {k : Int32} {l : List Nat} {a q lf : Nat → Int32} (he : e < 4) (hc : c < 128) (ha : kd_Yl a e l) (hS : kd_S l) : ∀ (m d n : Nat) (fr : Bool), d + m = c → m < n → wY_kernels_65 post J (nI e) k (nI c) (kd_b (fr && kd_new l (kd_q c l) d m)) a q lf → wY_kernels_30 post J (nI e) k (nI c) a q lf n (kd_b fr) (nI d) := by
  intro m
  induction m with
  | zero =>
    intro d n fr hd hn hp
    obtain ⟨n, rfl⟩ : ∃ m, n = m + 1 := ⟨n - 1, by omega⟩
    rw [show kd_new l (kd_q c l) d 0 = true from rfl, Bool.and_true] at hp
    exact br_t (nI_le (by omega) (by omega)) hp
  | succ m ih =>
    intro d n fr hd hn hp
    obtain ⟨n, rfl⟩ : ∃ m, n = m + 1 := ⟨n - 1, by omega⟩
    refine br_f (nI_ge (by omega) (by omega)) ?_
    refine kd_bb (fun h => ?_) (fun h => ?_)
    · rw [h, Bool.false_and] at hp
      rw [h]
      exact hp
    · rw [h, Bool.true_and, kd_new, List.range'_succ, List.all_cons] at hp
      refine ym_same he hc (by omega) ha hS ?_
      refine kd_bb (fun h2 => ?_) (fun h2 => ?_)
      · rw [h2, Bool.not_false] at hp
        exact nm_r (nI_1 d) (ih (d + 1) n true (by omega) (by omega) hp)
      · rw [h2, Bool.not_true] at hp
        exact nm_r (nI_1 d) (ih (d + 1) n false (by omega) (by omega) hp)
theorem yl_ker {post : Int32 → Prop} {e : Nat} {l : List Nat} {a q lf : Nat → Int32} (he : e < 4) (ha : kd_Yl a e l) (hS : kd_S l) : ∀ (m d n : Nat) (k : Int32), d + m = 128 → m < n → post (kd_cnt (kd_ker l) (List.range' d m) k) → wY_kernels_4 post (nI e) a q lf n k (nI d) := by
  intro m
  induction m with
  | zero =>
    intro d n k hd hn hp
    obtain ⟨n, rfl⟩ : ∃ m, n = m + 1 := ⟨n - 1, by omega⟩
    refine br_t (nI_le (a := 128) (by omega) (by omega)) ?_
    refine ym_ex_t he ?_
    exact br_f (by decide) hp
  | succ m ih =>
    intro d n k hd hn hp
    obtain ⟨n, rfl⟩ : ∃ m, n = m + 1 := ⟨n - 1, by omega⟩
    refine br_f (nI_ge (b := 128) (by omega) (by decide)) ?_
    refine ym_ex_t he ?_
    refine br_f (by decide) ?_
    refine ym_free he (by omega) ha hS ?_
    rw [kd_cnt, List.range'_succ, List.foldl_cons] at hp
    refine ⟨d + 1, yl_ker2 he (by omega) ha hS d 0 (d + 1) _ (by omega) (by omega) ?_⟩
    refine kd_bb (fun h => ?_) (fun h => ?_)
    · rw [kd_ker, h, if_neg (by decide)] at hp
      exact nm_r (nI_1 d) (ih (d + 1) n _ (by omega) (by omega) hp)
    · rw [kd_ker, h, if_pos rfl] at hp
      exact nm_e (nm_r (nI_1 d) (ih (d + 1) n _ (by omega) (by omega) hp))
theorem yl_next {post : Int32 → Prop} {e : Nat} {x2 : Int32} {l : List Nat} {a q lf : Nat → Int32} (he : e < 4) (ha : kd_Yl a e l) (hS : kd_S l) : ∀ (m d n : Nat), d + m = 128 → m < n → (∀ y, d ≤ y → y < 128 → ¬ nI y < x2) → post (kd_nxt l (List.range' d m)) → wY_nextCokernel_2 post (nI e) x2 a q lf n (nI d) := by
  intro m
  induction m with
  | zero =>
    intro d n hd hn hf hp
    obtain ⟨n, rfl⟩ : ∃ m, n = m + 1 := ⟨n - 1, by omega⟩
    exact br_t (nI_le (a := 128) (by omega) (by omega)) hp
  | succ m ih =>
    intro d n hd hn hf hp
    obtain ⟨n, rfl⟩ : ∃ m, n = m + 1 := ⟨n - 1, by omega⟩
    refine br_f (nI_ge (b := 128) (by omega) (by decide)) ?_
    refine ym_ex_t he ?_
    refine br_f (by decide) ?_
    refine br_f (hf d (by omega) (by omega)) ?_
    refine ym_free he (by omega) ha hS ?_
    rw [List.range'_succ, kd_nxt] at hp
    refine kd_bb (fun h => ?_) (fun h => ?_)
    · rw [h, if_neg (by decide)] at hp
      exact nm_r (nI_1 d) (ih (d + 1) n (by omega) (by omega) (fun y h1 h2 => hf y (by omega) h2) hp)
    · rw [h, if_pos rfl] at hp
      exact hp
/-- the cubes below from are passed over -/
theorem yl_skip {post : Int32 → Prop} {e j : Nat} {l : List Nat} {a q lf : Nat → Int32} (he : e < 4) (ha : kd_Yl a e l) (hS : kd_S l) (hj : j < 2 ^ 31) : ∀ (m d n : Nat), d + m = 128 → m < n → post (kd_nxt l (List.range' (max d j) (128 - max d j))) → wY_nextCokernel_2 post (nI e) (nI j) a q lf n (nI d) := by
  intro m
  induction m with
  | zero =>
    intro d n hd hn hp
    refine yl_next he ha hS 0 d n hd hn (fun y _ _ => by omega) ?_
    rw [show 128 - max d j = 0 by omega] at hp
    exact hp
  | succ m ih =>
    intro d n hd hn hp
    by_cases hdj : d < j
    · obtain ⟨n, rfl⟩ : ∃ m, n = m + 1 := ⟨n - 1, by omega⟩
      refine br_f (nI_ge (b := 128) (by omega) (by decide)) ?_
      refine ym_ex_t he ?_
      refine br_f (by decide) ?_
      refine br_t (nI_lt hdj hj) (nm_r (nI_1 d) (ih (d + 1) n (by omega) (by omega) ?_))
      rw [show max (d + 1) j = max d j by omega]
      exact hp
    · rw [show max d j = d by omega, show 128 - d = m + 1 by omega] at hp
      exact yl_next he ha hS (m + 1) d n hd hn (fun y h1 h2 => nI_nlt (by omega) (by omega)) hp
theorem yl_hold {post : Int32 → Prop} {e b : Nat} {p : Nat → Bool} {a q lf : Nat → Int32} (he : e < 4) (hb : b < 128) (ha : ∀ x, x < 128 → a (128 * e + x) = kd_b (p x)) : ∀ (m d n k : Nat) (v : Int32), d + m = 128 → m < n → post (((List.range' d m).filter p).foldl (kd_hold b) (v, k)).1 → wY_holding_26 post (nI e) (nI b) a q lf n v (nI k) (nI d) := by
  intro m
  induction m with
  | zero =>
    intro d n k v hd hn hp
    obtain ⟨n, rfl⟩ : ∃ m, n = m + 1 := ⟨n - 1, by omega⟩
    exact br_t (nI_le (a := 128) (by omega) (by omega)) hp
  | succ m ih =>
    intro d n k v hd hn hp
    obtain ⟨n, rfl⟩ : ∃ m, n = m + 1 := ⟨n - 1, by omega⟩
    refine br_f (nI_ge (b := 128) (by omega) (by decide)) ?_
    rw [kd_iy, nI_clamp (by omega), ha d (by omega), kd_in (by omega) (by omega)]
    rw [List.range'_succ] at hp
    refine ⟨vp_in_nI (by omega) (by omega), kd_bb (fun h => ?_) (fun h => ?_)⟩
    · rw [List.filter_cons_of_neg (by rw [h]; decide)] at hp
      exact nm_r (nI_1 d) (ih (d + 1) n k _ (by omega) (by omega) hp)
    · rw [List.filter_cons_of_pos h, List.foldl_cons, kd_hold] at hp
      by_cases h2 : d &&& b = b
      · rw [if_pos h2] at hp
        exact br_t h2 (nm_e (nm_r (nI_1 k) (nm_r (nI_1 d) (ih (d + 1) n (k + 1) _ (by omega) (by omega) hp))))
      · rw [if_neg h2] at hp
        exact br_f h2 (nm_r (nI_1 k) (nm_r (nI_1 d) (ih (d + 1) n (k + 1) _ (by omega) (by omega) hp)))
theorem yl_let {post : Int32 → Prop} {b : Nat} {a q lf : Nat → Int32} : ∀ (m d n : Nat) (v : Int32), d + m = 7 → m < n → post (kd_lsv b (List.range' d m) v) → wY_letters_4 post (nI b) a q lf n v (nI d) := by
  intro m
  induction m with
  | zero =>
    intro d n v hd hn hp
    obtain ⟨n, rfl⟩ : ∃ m, n = m + 1 := ⟨n - 1, by omega⟩
    exact br_t (nI_le (a := 7) (by omega) (by omega)) hp
  | succ m ih =>
    intro d n v hd hn hp
    obtain ⟨n, rfl⟩ : ∃ m, n = m + 1 := ⟨n - 1, by omega⟩
    refine br_f (nI_ge (b := 7) (by omega) (by decide)) (nm_e (nm_r (nI_1 d) (ih (d + 1) n _ (by omega) (by omega) ?_)))
    rw [kd_lsv, List.range'_succ, List.foldl_cons] at hp
    exact hp
theorem ym_let {post : Int32 → Prop} {b : Nat} {a q lf : Nat → Int32} (hp : post (kd_ls b)) : wpY_letters post (a, q, lf) (nI b) := ⟨8, yl_let 7 0 8 0 rfl (by omega) hp⟩
/-- the letters of the cubes that p picks -/
def kd_sm (p : Nat → Bool) (l : List Nat) : Int32 := kd_clv (l.filter p) 0
theorem kd_clv_add : ∀ (l : List Nat) (v w : Int32), kd_clv l (v + w) = v + kd_clv l w
  | [], v, w => rfl
  | x :: t, v, w => by
    have := kd_clv_add t v (w + kd_ls x)
    rw [← Int32.add_assoc] at this
    exact this
theorem kd_sm_t {p : Nat → Bool} {x : Nat} {t : List Nat} (h : p x = true) : kd_sm p (x :: t) = kd_ls x + kd_sm p t := by
  rw [kd_sm, List.filter_cons_of_pos h]
  show kd_clv (t.filter p) (0 + kd_ls x) = _
  rw [Int32.add_comm 0 (kd_ls x), kd_clv_add]
  rfl
theorem kd_sm_f {p : Nat → Bool} {x : Nat} {t : List Nat} (h : p x = false) : kd_sm p (x :: t) = kd_sm p t := by
  rw [kd_sm, List.filter_cons_of_neg (by rw [h]; decide)]
  rfl
theorem yl_sav {post : Int32 → SY → Prop} {e g : Nat} {P Q R G : Nat → Bool} {a q lf : Nat → Int32} (he : e < 4) (hg : g < 4) (hP : ∀ x, x < 128 → a (128 * e + x) = kd_b (P x)) (hQ : ∀ x, x < 128 → q x = kd_b (Q x)) (hR : ∀ x, x < 128 → lf x = kd_b (R x)) (hG : ∀ x, x < 128 → a (128 * g + x) = kd_b (G x)) : ∀ (m d n : Nat) (v : Int32), d + m = 128 → m < n → post (v + kd_sm P (List.range' d m) - kd_sm Q (List.range' d m) - kd_sm R (List.range' d m) - kd_sm G (List.range' d m)) (a, q, lf) → wY_saving_22 post (nI e) (nI g) a q lf n v (nI d) := by
  intro m
  induction m with
  | zero =>
    intro d n v hd hn hp
    obtain ⟨n, rfl⟩ : ∃ m, n = m + 1 := ⟨n - 1, by omega⟩
    refine br_t (nI_le (a := 128) (by omega) (by omega)) ?_
    have h0 : ∀ p, kd_sm p (List.range' d 0) = 0 := fun _ => rfl
    rw [h0, h0, h0, h0] at hp
    have e : v + 0 - 0 - 0 - 0 = v := by grind
    rw [e] at hp
    exact hp
  | succ m ih =>
    intro d n v hd hn hp
    obtain ⟨n, rfl⟩ : ∃ m, n = m + 1 := ⟨n - 1, by omega⟩
    refine br_f (nI_ge (b := 128) (by omega) (by decide)) ?_
    refine ym_let ?_
    rw [List.range'_succ] at hp
    have F : ∀ w : Int32, w + kd_sm P (List.range' (d + 1) m) - kd_sm Q (List.range' (d + 1) m) - kd_sm R (List.range' (d + 1) m) - kd_sm G (List.range' (d + 1) m) = v + kd_sm P (d :: List.range' (d + 1) m) - kd_sm Q (d :: List.range' (d + 1) m) - kd_sm R (d :: List.range' (d + 1) m) - kd_sm G (d :: List.range' (d + 1) m) → ∀ x4, x4 = nI d + 1 → wY_saving_22 post (nI e) (nI g) a q lf n w x4 := by
      intro w hw
      refine nm_r (nI_1 d) (ih (d + 1) n w (by omega) (by omega) ?_)
      rw [hw]
      exact hp
    have S100 : ∀ w : Int32, w + kd_sm P (List.range' (d + 1) m) - kd_sm Q (List.range' (d + 1) m) - kd_sm R (List.range' (d + 1) m) - kd_sm G (d :: List.range' (d + 1) m) = v + kd_sm P (d :: List.range' (d + 1) m) - kd_sm Q (d :: List.range' (d + 1) m) - kd_sm R (d :: List.range' (d + 1) m) - kd_sm G (d :: List.range' (d + 1) m) → wY_saving_100 post (wY_saving_22 post (nI e) (nI g) a q lf n) (nI e) (nI g) (nI d) (kd_ls d) w a q lf := by
      intro w hw
      unfold wY_saving_100
      rw [kd_iy, nI_clamp (n := 128 * g + d) (by omega), hG d (by omega)]
      refine ⟨vp_in_nI (by omega) (by omega), kd_bb (fun h => ?_) (fun h => ?_)⟩
      · exact F w (by rw [← hw, kd_sm_f h])
      · exact nm_e (F _ (by rw [← hw, kd_sm_t h]; grind))
    have S81 : ∀ w : Int32, w + kd_sm P (List.range' (d + 1) m) - kd_sm Q (List.range' (d + 1) m) - kd_sm R (d :: List.range' (d + 1) m) - kd_sm G (d :: List.range' (d + 1) m) = v + kd_sm P (d :: List.range' (d + 1) m) - kd_sm Q (d :: List.range' (d + 1) m) - kd_sm R (d :: List.range' (d + 1) m) - kd_sm G (d :: List.range' (d + 1) m) → wY_saving_81 post (wY_saving_22 post (nI e) (nI g) a q lf n) (nI e) (nI g) (nI d) (kd_ls d) w a q lf := by
      intro w hw
      unfold wY_saving_81
      rw [nI_clamp (n := d) (by omega), hR d (by omega)]
      refine ⟨vp_in_nI (by omega) (by omega), kd_bb (fun h => ?_) (fun h => ?_)⟩
      · exact S100 w (by rw [← hw, kd_sm_f h])
      · exact S100 _ (by rw [← hw, kd_sm_t h]; grind)
    have S62 : ∀ w : Int32, w + kd_sm P (List.range' (d + 1) m) - kd_sm Q (d :: List.range' (d + 1) m) - kd_sm R (d :: List.range' (d + 1) m) - kd_sm G (d :: List.range' (d + 1) m) = v + kd_sm P (d :: List.range' (d + 1) m) - kd_sm Q (d :: List.range' (d + 1) m) - kd_sm R (d :: List.range' (d + 1) m) - kd_sm G (d :: List.range' (d + 1) m) → wY_saving_62 post (wY_saving_22 post (nI e) (nI g) a q lf n) (nI e) (nI g) (nI d) (kd_ls d) w a q lf := by
      intro w hw
      unfold wY_saving_62
      rw [nI_clamp (n := d) (by omega), hQ d (by omega)]
      refine ⟨vp_in_nI (by omega) (by omega), kd_bb (fun h => ?_) (fun h => ?_)⟩
      · exact S81 w (by rw [← hw, kd_sm_f h])
      · exact S81 _ (by rw [← hw, kd_sm_t h]; grind)
    rw [kd_iy, nI_clamp (n := 128 * e + d) (by omega), hP d (by omega)]
    refine ⟨vp_in_nI (by omega) (by omega), kd_bb (fun h => ?_) (fun h => ?_)⟩
    · exact S62 v (by rw [kd_sm_f h])
    · exact S62 _ (by rw [kd_sm_t h]; grind)
def kd_cb (i : Int32) : List Nat → Nat → Int32
  | [], _ => -1
  | a :: t, k => if nI k = i then nI a else kd_cb i t (k + 1)
theorem yl_cube {post : Int32 → Prop} {e : Nat} {i : Int32} {p : Nat → Bool} {a q lf : Nat → Int32} (he : e < 4) (ha : ∀ x, x < 128 → a (128 * e + x) = kd_b (p x)) : ∀ (m d n k : Nat), d + m = 128 → m < n → post (kd_cb i ((List.range' d m).filter p) k) → wY_cube_5 post (nI e) i a q lf n (nI k) (nI d) := by
  intro m
  induction m with
  | zero =>
    intro d n k hd hn hp
    obtain ⟨n, rfl⟩ : ∃ m, n = m + 1 := ⟨n - 1, by omega⟩
    exact br_t (nI_le (a := 128) (by omega) (by omega)) hp
  | succ m ih =>
    intro d n k hd hn hp
    obtain ⟨n, rfl⟩ : ∃ m, n = m + 1 := ⟨n - 1, by omega⟩
    refine br_f (nI_ge (b := 128) (by omega) (by decide)) ?_
    refine ym_ex_t he ?_
    refine br_f (by decide) ?_
    rw [kd_iy, nI_clamp (by omega), ha d (by omega)]
    rw [List.range'_succ] at hp
    refine ⟨vp_in_nI (by omega) (by omega), kd_bb (fun h => ?_) (fun h => ?_)⟩
    · rw [List.filter_cons_of_neg (by rw [h]; decide)] at hp
      exact nm_r (nI_1 d) (ih (d + 1) n k (by omega) (by omega) hp)
    · rw [List.filter_cons_of_pos h, kd_cb] at hp
      by_cases h2 : nI k = i
      · rw [if_pos h2] at hp
        exact br_t h2 hp
      · rw [if_neg h2] at hp
        exact br_f h2 (nm_r (nI_1 k) (nm_r (nI_1 d) (ih (d + 1) n (k + 1) (by omega) (by omega) hp)))
theorem kd_cb_neg {i : Int32} (hi : i < 0) : ∀ (l : List Nat) (k : Nat), k + l.length < 2 ^ 31 → kd_cb i l k = -1
  | [], _, _ => rfl
  | a :: t, k, h => by
    rw [List.length_cons] at h
    rw [kd_cb, if_neg, kd_cb_neg hi t (k + 1) (by omega)]
    intro e
    rw [← e] at hi
    exact nI_pos (by omega) hi
theorem kd_cb_pos {j : Nat} (hj : j < 2 ^ 31) : ∀ (l : List Nat) (k : Nat), k + l.length < 2 ^ 31 → kd_cb (nI j) l k = if h : k ≤ j ∧ j - k < l.length then nI (l[j - k]'h.2) else -1
  | [], _, _ => by simp [kd_cb]
  | a :: t, k, h => by
    rw [List.length_cons] at h
    rw [kd_cb]
    by_cases hk : k = j
    · subst hk
      rw [if_pos rfl, dif_pos ⟨by omega, by simp⟩]
      simp
    · rw [if_neg (by rw [nI_eq (by omega) hj]; exact hk), kd_cb_pos hj t (k + 1) (by omega)]
      by_cases hc : k + 1 ≤ j ∧ j - (k + 1) < t.length
      · rw [dif_pos hc, dif_pos ⟨by omega, by rw [List.length_cons]; omega⟩]
        have e : j - k = j - (k + 1) + 1 := by omega
        simp only [e, List.getElem_cons_succ]
      · rw [dif_neg hc, dif_neg]
        rw [List.length_cons]
        omega
theorem yl_clear {post : Int32 → SY → Prop} {e : Nat} {a0 q lf : Nat → Int32} (he : e < 4) : ∀ (m d n : Nat) (a : Nat → Int32), d + m = 128 → m < n → (∀ x, x < d → a (128 * e + x) = kd_b false) → (∀ j, (j < 128 * e ∨ 128 * e + 128 ≤ j) → a j = a0 j) → (∀ a', (∀ x, x < 128 → a' (128 * e + x) = kd_b false) → (∀ j, (j < 128 * e ∨ 128 * e + 128 ≤ j) → a' j = a0 j) → post 1 (a', q, lf)) → wY_clear_2 post (nI e) n (nI d) a q lf := by
  intro m
  induction m with
  | zero =>
    intro d n a hd hn h1 h2 hp
    obtain ⟨n, rfl⟩ : ∃ m, n = m + 1 := ⟨n - 1, by omega⟩
    refine br_t (nI_le (a := 128) (by omega) (by omega)) ?_
    refine ym_ex_t he ?_
    exact ⟨kd_nrw true, hp _ (fun x hx => h1 x (by omega)) h2⟩
  | succ m ih =>
    intro d n a hd hn h1 h2 hp
    obtain ⟨n, rfl⟩ : ∃ m, n = m + 1 := ⟨n - 1, by omega⟩
    refine br_f (nI_ge (b := 128) (by omega) (by decide)) ?_
    refine ym_ex_t he ?_
    refine br_f (by decide) ?_
    rw [kd_iy, nI_clamp (n := 128 * e + d) (by omega), kd_nar0]
    refine ⟨vp_in_nI (by omega) (by omega), nm_e (nm_r (nI_1 d) (ih (d + 1) n _ (by omega) (by omega) (fun x hx => ?_) (fun j hj => ?_) hp))⟩
    · by_cases h : x = d
      · rw [h, pk_us]
      · rw [pk_un (by omega)]
        exact h1 x (by omega)
    · rw [pk_un (by omega)]
      exact h2 j hj
end
section
theorem kd_split {b : Nat} : ∀ (l : List Nat), l.Pairwise (· < ·) → ∃ p r, l = p ++ r ∧ (l.countP fun a => decide (a < b)) = p.length ∧ (∀ a ∈ p, a < b) ∧ (∀ a ∈ r, b ≤ a)
  | [], _ => ⟨[], [], rfl, rfl, by simp, by simp⟩
  | a :: t, h => by
    rw [List.pairwise_cons] at h
    by_cases hab : a < b
    · obtain ⟨p, r, h1, h2, h3, h4⟩ := kd_split (b := b) t h.2
      refine ⟨a :: p, r, by rw [h1]; rfl, ?_, ?_, h4⟩
      · rw [List.countP_cons_of_pos (by simp; omega), h2, List.length_cons]
      · intro x hx
        rcases List.mem_cons.mp hx with e | e
        · omega
        · exact h3 x e
    · refine ⟨[], a :: t, rfl, ?_, by simp, ?_⟩
      · rw [List.length_nil, List.countP_eq_zero]
        intro x hx
        rw [decide_eq_true_eq]
        rcases List.mem_cons.mp hx with e | e
        · omega
        · have := h.1 x e
          omega
      · intro x hx
        rcases List.mem_cons.mp hx with e | e
        · omega
        · have := h.1 x e
          omega
theorem kd_ins {b : Nat} {l : List Nat} (h : kd_S l) (hb : b < 128) (hn : b ∉ l) : kd_S (l.take (l.countP fun a => decide (a < b)) ++ b :: l.drop (l.countP fun a => decide (a < b))) ∧ ∀ x, x ∈ (l.take (l.countP fun a => decide (a < b)) ++ b :: l.drop (l.countP fun a => decide (a < b))) ↔ x = b ∨ x ∈ l := by
  obtain ⟨p, r, h1, h2, h3, h4⟩ := kd_split (b := b) l h.1
  rw [h2]
  subst h1
  rw [List.take_left, List.drop_left]
  have hm : ∀ x, x ∈ p ++ b :: r ↔ x = b ∨ x ∈ p ++ r := by
    intro x
    simp only [List.mem_append, List.mem_cons]
    constructor
    · rintro (h | h | h)
      · exact Or.inr (Or.inl h)
      · exact Or.inl h
      · exact Or.inr (Or.inr h)
    · rintro (h | h | h)
      · exact Or.inr (Or.inl h)
      · exact Or.inl h
      · exact Or.inr (Or.inr h)
  refine ⟨⟨?_, ?_⟩, hm⟩
  · have hp := List.pairwise_append.mp h.1
    rw [List.pairwise_append]
    refine ⟨hp.1, ?_, ?_⟩
    · rw [List.pairwise_cons]
      refine ⟨fun x hx => ?_, hp.2.1⟩
      have := h4 x hx
      have : x ≠ b := fun e => hn (by rw [← e]; simp [hx])
      omega
    · intro x hx y hy
      rcases List.mem_cons.mp hy with e | e
      · rw [e]
        exact h3 x hx
      · exact hp.2.2 x hx y e
  · intro x hx
    rcases (hm x).mp hx with e | e
    · omega
    · exact h.2 x e
theorem kd_rem {b : Nat} {l : List Nat} (h : kd_S l) (hn : b ∈ l) : (l.countP fun a => decide (a < b)) < l.length ∧ kd_S (l.take (l.countP fun a => decide (a < b)) ++ l.drop ((l.countP fun a => decide (a < b)) + 1)) ∧ ∀ x, x ∈ (l.take (l.countP fun a => decide (a < b)) ++ l.drop ((l.countP fun a => decide (a < b)) + 1)) ↔ x ≠ b ∧ x ∈ l := by
  obtain ⟨p, r, h1, h2, h3, h4⟩ := kd_split (b := b) l h.1
  rw [h2]
  subst h1
  have hp := List.pairwise_append.mp h.1
  have hr : b ∈ r := by
    rcases List.mem_append.mp hn with e | e
    · have := h3 b e
      omega
    · exact e
  cases r with
  | nil => simp at hr
  | cons y r =>
    have hy : y = b := by
      have hyb := h4 y (by simp)
      rcases List.mem_cons.mp hr with e | e
      · exact e.symm
      · have := (List.pairwise_cons.mp hp.2.1).1 b e
        omega
    subst hy
    have e : p ++ y :: r = (p ++ [y]) ++ r := by rw [List.append_assoc]; rfl
    have el : p.length + 1 = (p ++ [y]).length := by rw [List.length_append]; rfl
    rw [List.take_left, el, e, List.drop_left, ← e]
    have hc := List.pairwise_cons.mp hp.2.1
    have hm : ∀ x, x ∈ p ++ r ↔ x ≠ y ∧ x ∈ p ++ y :: r := by
      intro x
      simp only [List.mem_append, List.mem_cons]
      constructor
      · rintro (h | h)
        · have := h3 x h
          exact ⟨by omega, Or.inl h⟩
        · have := hc.1 x h
          exact ⟨by omega, Or.inr (Or.inr h)⟩
      · rintro ⟨h, h' | h' | h'⟩
        · exact Or.inl h'
        · exact absurd h' h
        · exact Or.inr h'
    refine ⟨by rw [List.length_append, List.length_cons]; omega, ⟨?_, fun x hx => h.2 x ((hm x).mp hx).2⟩, hm⟩
    rw [List.pairwise_append]
    exact ⟨hp.1, hc.2, fun x hx z hz => hp.2.2 x hx z (by simp [hz])⟩
theorem kd_Y_upd {E : Nat → List Nat} {a : Nat → Int32} {e b : Nat} {l : List Nat} {v : Bool} (H : kd_Y E a) (he : e < 4) (hb : b < 128) (hm : ∀ x, x ≠ b → (x ∈ l ↔ x ∈ E e)) (hf : decide (b ∈ l) = v) : kd_Y (kd_U E e l) (upd a (128 * e + b) (kd_b v)) := by
  intro j hj x hx
  by_cases h : j = e
  · subst h
    rw [kd_Us]
    by_cases hxb : x = b
    · subst hxb
      rw [pk_us, hf]
    · rw [pk_un (by omega), H j hj x hx]
      exact congrArg kd_b (by simp only [hm x hxb])
  · rw [kd_Un h, pk_un (by omega)]
    exact H j hj x hx
theorem kd_SU {L : Nat → List Nat} {s : Nat} {l : List Nat} (hS : ∀ e, e < 4 → kd_S (L e)) (hl : kd_S l) : ∀ e, e < 4 → kd_S (kd_U L s l e) := by
  intro e he
  by_cases h : e = s
  · rw [h, kd_Us]
    exact hl
  · rw [kd_Un h]
    exact hS e he
/-- the component's lists are rising, and the reference's tables have the same cubes -/
def i_Rel (_ : Nat) (u : SX) (v : SY) : Prop := ∃ L : Nat → List Nat, kd_X L u.1 u.2 ∧ (∀ e, e < 4 → kd_S (L e)) ∧ kd_Y L v.1
theorem i_up {k : Nat} {u : SX} {v : SY} (h : i_Rel k u v) : i_Rel (k + 4) u v := h
theorem i_vc0 : wpX_init (fun u => wpY_init (fun v => i_Rel 0 u v)) :=
  ⟨fun _ => [], fun _ _ => ⟨rfl, by simp, by simp, trivial⟩, fun _ _ => ⟨List.Pairwise.nil, by simp⟩, fun _ _ _ _ => rfl⟩
theorem kd_rel {k : Nat} {E : Nat → List Nat} {c z a q lf : Nat → Int32} (H : kd_XE E c z) (hS : ∀ e, e < 4 → kd_S (E e)) (HY : kd_Y E a) : i_Rel k (c, z) (a, q, lf) := by
  obtain ⟨L, hL, H⟩ := H
  exact ⟨L, H, fun e he => by rw [hL e he]; exact hS e he, fun e he => by rw [hL e he]; exact HY e he⟩
theorem kd_XEI {L : Nat → List Nat} {c z : Nat → Int32} (H : kd_X L c z) : kd_XE L c z := ⟨L, fun _ _ => rfl, H⟩
end
section
theorem i_vc_put {k : Nat} {u : SX} {v : SY} (I : i_Rel k u v) (hk : k + 4 ≤ 2048) (v1 : Int32) (v2 : Int32) : wpX_put (fun r u' => wpY_put (fun r' v' => r' = r ∧ i_Rel (k + 4) u' v') v v1 v2) u v1 v2 := by
  obtain ⟨c, z⟩ := u
  obtain ⟨a, q, lf⟩ := v
  have I' : i_Rel (k + 4) (c, z) (a, q, lf) := I
  obtain ⟨L, H, hS, HY⟩ := I
  dsimp only at H HY
  unfold wpX_put wpY_put
  dsimp only
  rcases kd_cas 4 (by decide) v1 with h1 | ⟨e, he, rfl⟩
  · refine xm_isE_f h1 ?_
    refine br_t rfl ?_
    refine ym_ex_f h1 ?_
    exact br_t rfl ⟨rfl, I'⟩
  · refine xm_isE_t he ?_
    refine br_f (by decide) ?_
    rcases kd_cas 128 (by decide) v2 with h2 | ⟨b, hb, rfl⟩
    · refine xm_isC_f h2 ?_
      refine br_t rfl ?_
      refine ym_ex_t he ?_
      refine br_f (by decide) ?_
      refine ym_cu_f h2 ?_
      exact br_t rfl ⟨rfl, I'⟩
    · refine xm_isC_t hb ?_
      refine br_f (by decide) ?_
      refine xm_containsN H (by omega) hb ?_
      refine kd_bb (fun h => ?_) (fun h => ?_)
      · refine ⟨vp_in_nI (N := 6) (by omega) (by omega), ?_⟩
        rw [kd_zs H (by omega)]
        rw [kd_iy, nI_clamp (n := 128 * e + b) (by omega), HY e he b hb, h]
        have h8 := (H e (by omega)).2.1
        by_cases hl : (L e).length < 8
        · refine br_t (nI_lt (b := 8) hl (by decide)) ?_
          refine xm_insert H (by omega) hb hl fun c' z' H' => ?_
          refine ym_ex_t he ?_
          refine br_f (by decide) ?_
          refine ym_cu_t hb ?_
          refine br_f (by decide) ?_
          refine ⟨vp_in_nI (by omega) (by omega), br_t rfl ?_⟩
          refine ym_many he (HY e he) (hS e he) ?_
          refine br_t (nI_lt (b := 8) hl (by decide)) ?_
          unfold wY_put_43
          rw [kd_iy, nI_clamp (n := 128 * e + b) (by omega), kd_nar1]
          have hi := kd_ins (hS e he) hb (decide_eq_false_iff_not.mp h)
          refine ⟨vp_in_nI (by omega) (by omega), nm_e ⟨rfl, kd_rel (kd_XEI H') (kd_SU hS hi.1) (kd_Y_upd HY he hb ?_ ?_)⟩⟩
          · intro x hx
            rw [hi.2 x]
            exact ⟨fun h => h.resolve_left hx, Or.inr⟩
          · rw [decide_eq_true_eq, hi.2 b]
            exact Or.inl rfl
        · refine br_f (nI_nlt (b := 8) (by omega) (by omega)) ?_
          refine ym_ex_t he ?_
          refine br_f (by decide) ?_
          refine ym_cu_t hb ?_
          refine br_f (by decide) ?_
          refine ⟨vp_in_nI (by omega) (by omega), br_t rfl ?_⟩
          refine ym_many he (HY e he) (hS e he) ?_
          exact br_f (nI_nlt (b := 8) (by omega) (by omega)) ⟨rfl, I'⟩
      · refine ym_ex_t he ?_
        refine br_f (by decide) ?_
        refine ym_cu_t hb ?_
        refine br_f (by decide) ?_
        rw [kd_iy, nI_clamp (n := 128 * e + b) (by omega), HY e he b hb, h]
        refine ⟨vp_in_nI (by omega) (by omega), br_f (by decide) ?_⟩
        unfold wY_put_43
        rw [kd_iy, nI_clamp (n := 128 * e + b) (by omega), kd_nar1]
        have HY' := kd_Y_upd (l := L e) HY he hb (fun x _ => Iff.rfl) h
        rw [kd_UI] at HY'
        exact ⟨vp_in_nI (by omega) (by omega), nm_e ⟨rfl, kd_rel (kd_XEI H) hS HY'⟩⟩
theorem i_vc_take {k : Nat} {u : SX} {v : SY} (I : i_Rel k u v) (hk : k + 4 ≤ 2048) (v1 : Int32) (v2 : Int32) : wpX_take (fun r u' => wpY_take (fun r' v' => r' = r ∧ i_Rel (k + 4) u' v') v v1 v2) u v1 v2 := by
  obtain ⟨c, z⟩ := u
  obtain ⟨a, q, lf⟩ := v
  have I' : i_Rel (k + 4) (c, z) (a, q, lf) := I
  obtain ⟨L, H, hS, HY⟩ := I
  dsimp only at H HY
  unfold wpX_take wpY_take
  dsimp only
  rcases kd_cas 4 (by decide) v1 with h1 | ⟨e, he, rfl⟩
  · refine xm_isE_f h1 ?_
    refine br_t rfl ?_
    refine ym_ex_f h1 ?_
    exact br_t rfl ⟨rfl, I'⟩
  · refine xm_isE_t he ?_
    refine br_f (by decide) ?_
    rcases kd_cas 128 (by decide) v2 with h2 | ⟨b, hb, rfl⟩
    · refine xm_containsB H (by omega) h2 ?_
      refine br_t rfl ?_
      refine ym_ex_t he ?_
      refine br_f (by decide) ?_
      refine ym_cu_f h2 ?_
      exact br_t rfl ⟨rfl, I'⟩
    · refine xm_containsN H (by omega) hb ?_
      rw [kd_iy, nI_clamp (n := 128 * e + b) (by omega), HY e he b hb, kd_nar0]
      refine kd_bb (fun h => ?_) (fun h => ?_)
      · rw [h]
        refine ym_ex_t he ?_
        refine br_f (by decide) ?_
        refine ym_cu_t hb ?_
        refine br_f (by decide) ?_
        exact ⟨vp_in_nI (by omega) (by omega), br_t rfl ⟨rfl, I'⟩⟩
      · rw [h]
        have hr := kd_rem (hS e he) (decide_eq_true_eq.mp h)
        refine xm_remove H (by omega) hb hr.1 fun c' z' H' => ?_
        refine ym_ex_t he ?_
        refine br_f (by decide) ?_
        refine ym_cu_t hb ?_
        refine br_f (by decide) ?_
        refine ⟨vp_in_nI (by omega) (by omega), br_f (by decide) ⟨vp_in_nI (by omega) (by omega), nm_e ⟨rfl, kd_rel (kd_XEI H') (kd_SU hS hr.2.1) (kd_Y_upd HY he hb ?_ ?_)⟩⟩⟩
        · intro x hx
          rw [hr.2.2 x]
          exact ⟨And.right, fun h => ⟨hx, h⟩⟩
        · rw [decide_eq_false_iff_not, hr.2.2 b]
          exact fun h => h.1 rfl
theorem i_vc_clear {k : Nat} {u : SX} {v : SY} (I : i_Rel k u v) (hk : k + 4 ≤ 2048) (v1 : Int32) : wpX_clear (fun r u' => wpY_clear (fun r' v' => r' = r ∧ i_Rel (k + 4) u' v') v v1) u v1 := by
  obtain ⟨c, z⟩ := u
  obtain ⟨a, q, lf⟩ := v
  have I' : i_Rel (k + 4) (c, z) (a, q, lf) := I
  obtain ⟨L, H, hS, HY⟩ := I
  dsimp only at H HY
  unfold wpX_clear
  dsimp only
  rcases kd_cas 4 (by decide) v1 with h1 | ⟨e, he, rfl⟩
  · refine xm_isE_f h1 ?_
    refine br_t rfl ?_
    refine ⟨1, br_f (by decide) ?_⟩
    refine ym_ex_f h1 ?_
    refine br_t rfl ?_
    refine ym_ex_f h1 ?_
    exact ⟨kd_nrw false, rfl, I'⟩
  · refine xm_isE_t he ?_
    refine br_f (by decide) ?_
    rw [nI_clamp (n := e) (by omega)]
    refine ⟨vp_in_nI (N := 6) (by omega) (by omega), nm_e ?_⟩
    refine ⟨129, yl_clear (a0 := a) he 128 0 129 a rfl (by omega) (fun x hx => by omega) (fun _ _ => rfl) fun a' h1 h2 => ⟨rfl, ?_⟩⟩
    refine kd_rel (kd_XEI (kd_X_clr H)) (kd_SU hS ⟨List.Pairwise.nil, by simp⟩) ?_
    intro j hj x hx
    by_cases h : j = e
    · subst h
      rw [kd_Us, h1 x hx]
      rfl
    · rw [kd_Un h, h2 _ (by omega)]
      exact HY j hj x hx
theorem i_vc_size {k : Nat} {u : SX} {v : SY} (I : i_Rel k u v) (hk : k + 4 ≤ 2048) (v1 : Int32) : wpX_size (fun r => wpY_size (fun r' => r' = r ∧ i_Rel (k + 4) u v) v v1) u v1 := by
  obtain ⟨c, z⟩ := u
  obtain ⟨a, q, lf⟩ := v
  have I' : i_Rel (k + 4) (c, z) (a, q, lf) := I
  obtain ⟨L, H, hS, HY⟩ := I
  dsimp only at H HY
  unfold wpX_size wpY_size
  dsimp only
  rcases kd_cas 4 (by decide) v1 with h1 | ⟨e, he, rfl⟩
  · refine xm_isE_f h1 ?_
    refine br_t rfl ?_
    refine ym_ex_f h1 ?_
    exact br_t rfl ⟨rfl, I'⟩
  · refine xm_isE_t he ?_
    refine br_f (by decide) ?_
    refine ⟨vp_in_nI (N := 6) (by omega) (by omega), ?_⟩
    rw [kd_zs H (by omega)]
    refine ym_ex_t he ?_
    refine br_f (by decide) ?_
    exact ym_many he (HY e he) (hS e he) ⟨rfl, I'⟩
theorem i_vc_cube {k : Nat} {u : SX} {v : SY} (I : i_Rel k u v) (hk : k + 4 ≤ 2048) (v1 : Int32) (v2 : Int32) : wpX_cube (fun r => wpY_cube (fun r' => r' = r ∧ i_Rel (k + 4) u v) v v1 v2) u v1 v2 := by
  obtain ⟨c, z⟩ := u
  obtain ⟨a, q, lf⟩ := v
  have I' : i_Rel (k + 4) (c, z) (a, q, lf) := I
  obtain ⟨L, H, hS, HY⟩ := I
  dsimp only at H HY
  unfold wpX_cube
  dsimp only
  rcases kd_cas 4 (by decide) v1 with h1 | ⟨e, he, rfl⟩
  · refine xm_isE_f h1 ?_
    refine br_t rfl ?_
    refine ⟨1, br_f (by decide) ?_⟩
    refine ym_ex_f h1 ?_
    exact br_t rfl ⟨rfl, I'⟩
  · refine xm_isE_t he ?_
    refine br_f (by decide) ?_
    obtain ⟨g1, g2, g3, g4⟩ := H e (by omega)
    have Y : ∀ r : Int32, kd_cb v2 (L e) 0 = r → wpY_cube (fun r' => r' = r ∧ i_Rel (k + 4) (c, z) (a, q, lf)) (a, q, lf) (nI e) v2 := by
      intro r hr
      refine ⟨129, yl_cube he (HY e he) 128 0 129 0 rfl (by omega) ?_⟩
      rw [kd_sv (hS e he).1 (hS e he).2]
      exact ⟨hr, I'⟩
    by_cases hn : v2 < 0
    · exact br_t hn (Y _ (kd_cb_neg hn _ _ (by omega)))
    · refine br_f hn ?_
      obtain ⟨j, hj, rfl⟩ := nI_of hn
      refine ⟨vp_in_nI (N := 6) (by omega) (by omega), ?_⟩
      rw [kd_zs H (by omega), nI_ltI hj (by omega)]
      by_cases hl : j < (L e).length
      · rw [kd_ix, nI_clamp (n := 8 * e + j) (by omega), kd_At_get (L e) (8 * e) j g4 hl]
        refine br_t hl ⟨vp_in_nI (by omega) (by omega), Y _ ?_⟩
        rw [kd_cb_pos hj _ _ (by omega), dif_pos ⟨by omega, hl⟩]
        rfl
      · refine br_f hl (Y _ ?_)
        rw [kd_cb_pos hj _ _ (by omega), dif_neg]
        exact fun h => hl h.2
end
section
/-- e's list becomes l, by way of a work slot -/
theorem kd_XE_U2 {L : Nat → List Nat} {c z : Nat → Int32} {s e : Nat} {l l' : List Nat} (hs : 4 ≤ s) (H : kd_X (kd_U (kd_U L s l') e l) c z) : kd_XE (kd_U L e l) c z := by
  refine ⟨_, fun j hj => ?_, H⟩
  by_cases h : j = e
  · rw [h, kd_Us, kd_Us]
  · rw [kd_Un h, kd_Un h, kd_Un (by omega)]
theorem kd_XE_U3 {L : Nat → List Nat} {c z : Nat → Int32} {s t e : Nat} {l l' l2 : List Nat} (hs : 4 ≤ s) (ht : 4 ≤ t) (H : kd_X (kd_U (kd_U (kd_U L s l') t l2) e l) c z) : kd_XE (kd_U L e l) c z := by
  refine ⟨_, fun j hj => ?_, H⟩
  by_cases h : j = e
  · rw [h, kd_Us, kd_Us]
  · rw [kd_Un h, kd_Un h, kd_Un (by omega), kd_Un (by omega)]
theorem i_vc_divideBy {k : Nat} {u : SX} {v : SY} (I : i_Rel k u v) (hk : k + 4 ≤ 2048) (v1 : Int32) (v2 : Int32) (v3 : Int32) : wpX_divideBy (fun r u' => wpY_divideBy (fun r' v' => r' = r ∧ i_Rel (k + 4) u' v') v v1 v2 v3) u v1 v2 v3 := by
  obtain ⟨c, z⟩ := u
  obtain ⟨a, q, lf⟩ := v
  have I' : i_Rel (k + 4) (c, z) (a, q, lf) := I
  obtain ⟨L, H, hS, HY⟩ := I
  dsimp only at H HY
  unfold wpX_divideBy wpY_divideBy
  dsimp only
  rcases kd_cas 4 (by decide) v1 with h1 | ⟨e, he, rfl⟩
  · refine xm_isE_f h1 ?_
    refine br_t rfl ?_
    refine ym_ex_f h1 ?_
    exact br_t rfl ⟨rfl, I'⟩
  · refine xm_isE_t he ?_
    refine br_f (by decide) ?_
    rcases kd_cas 4 (by decide) v2 with h2 | ⟨f, hf, rfl⟩
    · refine xm_isE_f h2 ?_
      refine br_t rfl ?_
      refine ym_ex_t he ?_
      refine br_f (by decide) ?_
      refine ym_ex_f h2 ?_
      exact br_t rfl ⟨rfl, I'⟩
    · refine xm_isE_t hf ?_
      refine br_f (by decide) ?_
      rcases kd_cas 128 (by decide) v3 with h3 | ⟨b, hb, rfl⟩
      · refine xm_isC_f h3 ?_
        refine br_t rfl ?_
        refine ym_ex_t he ?_
        refine br_f (by decide) ?_
        refine ym_ex_t hf ?_
        refine br_f (by decide) ?_
        refine ym_cu_f h3 ?_
        exact br_t rfl ⟨rfl, I'⟩
      · refine xm_isC_t hb ?_
        refine br_f (by decide) ?_
        refine xm_mqc (s := 4) H (by omega) (by omega) (by omega) hb fun c1 z1 H1 => ?_
        refine xm_copy (f := 4) H1 (by omega) (by omega) (by omega) fun c2 z2 H2 => ?_
        rw [kd_Us] at H2
        refine ⟨vp_in_nI (N := 6) (by omega) (by omega), ?_⟩
        dsimp only
        rw [kd_zs H2 (by omega), kd_Us]
        refine ym_ex_t he ?_
        refine br_f (by decide) ?_
        refine ym_ex_t hf ?_
        refine br_f (by decide) ?_
        refine ym_cu_t hb ?_
        refine br_f (by decide) ?_
        exact ⟨129, yl_divBy he hf hb HY (hS f hf) 128 0 129 q rfl (by omega) (fun x hx => by omega) fun a' q' HY' => ⟨rfl, kd_rel (kd_XE_U2 (by omega) H2) (kd_SU hS ⟨kd_q_S hb (hS f hf).1 (hS f hf).2, kd_q_128 hb (hS f hf).2⟩) HY'⟩⟩
theorem i_vc_divide {k : Nat} {u : SX} {v : SY} (I : i_Rel k u v) (hk : k + 4 ≤ 2048) (v1 : Int32) (v2 : Int32) (v3 : Int32) : wpX_divide (fun r u' => wpY_divide (fun r' v' => r' = r ∧ i_Rel (k + 4) u' v') v v1 v2 v3) u v1 v2 v3 := by
  obtain ⟨c, z⟩ := u
  obtain ⟨a, q, lf⟩ := v
  have I' : i_Rel (k + 4) (c, z) (a, q, lf) := I
  obtain ⟨L, H, hS, HY⟩ := I
  dsimp only at H HY
  unfold wpX_divide wpY_divide
  dsimp only
  rcases kd_cas 4 (by decide) v1 with h1 | ⟨e, he, rfl⟩
  · refine xm_isE_f h1 ?_
    refine br_t rfl ?_
    refine ym_ex_f h1 ?_
    exact br_t rfl ⟨rfl, I'⟩
  · refine xm_isE_t he ?_
    refine br_f (by decide) ?_
    have B : (kd_bad 4 v2 ∨ kd_bad 4 v3) ∨ ∃ f g, f < 4 ∧ g < 4 ∧ v2 = nI f ∧ v3 = nI g := by
      rcases kd_cas 4 (by decide) v2 with h2 | ⟨f, hf, e2⟩
      · exact Or.inl (Or.inl h2)
      · rcases kd_cas 4 (by decide) v3 with h3 | ⟨g, hg, e3⟩
        · exact Or.inl (Or.inr h3)
        · exact Or.inr ⟨f, g, hf, hg, e2, e3⟩
    rcases B with hB | ⟨f, g, hf, hg, rfl, rfl⟩
    · refine xm_canDivide_f hB ?_
      refine br_t rfl ?_
      refine ym_ex_t he ?_
      refine br_f (by decide) ?_
      refine ym_div_f hB ?_
      exact br_t rfl ⟨rfl, I'⟩
    · have g8 := (H g (by omega)).2.1
      refine xm_canDivide H hf hg ?_
      by_cases hz : L g = []
      · have ez : decide (L g ≠ []) = false := by simp [hz]
        rw [ez]
        refine br_t rfl ?_
        refine ym_ex_t he ?_
        refine br_f (by decide) ?_
        refine ym_div hf hg HY (hS g hg) g8 ?_
        rw [ez]
        exact br_t rfl ⟨rfl, I'⟩
      · have ez : decide (L g ≠ []) = true := by simp [hz]
        rw [ez]
        obtain ⟨d, tg, hd⟩ : ∃ d tg, L g = d :: tg := List.exists_cons_of_ne_nil hz
        have hd8 : d < 128 := (hS g hg).2 d (by rw [hd]; simp)
        refine br_f (by decide) ?_
        refine xm_mq (s := 4) H (by omega) (by omega) (by omega) (by omega) (by omega) hd fun c1 z1 H1 => ?_
        refine xm_copy (f := 4) H1 (by omega) (by omega) (by omega) fun c2 z2 H2 => ?_
        rw [kd_Us] at H2
        refine ⟨vp_in_nI (N := 6) (by omega) (by omega), ?_⟩
        dsimp only
        rw [kd_zs H2 (by omega), kd_Us]
        refine ym_ex_t he ?_
        refine br_f (by decide) ?_
        refine ym_div hf hg HY (hS g hg) g8 ?_
        rw [ez]
        refine br_f (by decide) ?_
        refine ym_work hf hg HY (hS f hf) (hS g hg) hd fun q' l' hq' hl' => ?_
        refine ym_store (r := false) he HY hq' fun a' HY' => ?_
        have Hl := HY' e he
        rw [kd_Us] at Hl
        refine ym_many he Hl (kd_Q_S hd8 (hS f hf)) ?_
        exact ⟨rfl, kd_rel (kd_XE_U2 (by omega) H2) (kd_SU hS (kd_Q_S hd8 (hS f hf))) HY'⟩
theorem i_vc_rest {k : Nat} {u : SX} {v : SY} (I : i_Rel k u v) (hk : k + 4 ≤ 2048) (v1 : Int32) (v2 : Int32) (v3 : Int32) : wpX_rest (fun r u' => wpY_rest (fun r' v' => r' = r ∧ i_Rel (k + 4) u' v') v v1 v2 v3) u v1 v2 v3 := by
  obtain ⟨c, z⟩ := u
  obtain ⟨a, q, lf⟩ := v
  have I' : i_Rel (k + 4) (c, z) (a, q, lf) := I
  obtain ⟨L, H, hS, HY⟩ := I
  dsimp only at H HY
  unfold wpX_rest wpY_rest
  dsimp only
  rcases kd_cas 4 (by decide) v1 with h1 | ⟨e, he, rfl⟩
  · refine xm_isE_f h1 ?_
    refine br_t rfl ?_
    refine ym_ex_f h1 ?_
    exact br_t rfl ⟨rfl, I'⟩
  · refine xm_isE_t he ?_
    refine br_f (by decide) ?_
    have B : (kd_bad 4 v2 ∨ kd_bad 4 v3) ∨ ∃ f g, f < 4 ∧ g < 4 ∧ v2 = nI f ∧ v3 = nI g := by
      rcases kd_cas 4 (by decide) v2 with h2 | ⟨f, hf, e2⟩
      · exact Or.inl (Or.inl h2)
      · rcases kd_cas 4 (by decide) v3 with h3 | ⟨g, hg, e3⟩
        · exact Or.inl (Or.inr h3)
        · exact Or.inr ⟨f, g, hf, hg, e2, e3⟩
    rcases B with hB | ⟨f, g, hf, hg, rfl, rfl⟩
    · refine xm_canDivide_f hB ?_
      refine br_t rfl ?_
      refine ym_ex_t he ?_
      refine br_f (by decide) ?_
      refine ym_div_f hB ?_
      exact br_t rfl ⟨rfl, I'⟩
    · have g8 := (H g (by omega)).2.1
      refine xm_canDivide H hf hg ?_
      by_cases hz : L g = []
      · have ez : decide (L g ≠ []) = false := by simp [hz]
        rw [ez]
        refine br_t rfl ?_
        refine ym_ex_t he ?_
        refine br_f (by decide) ?_
        refine ym_div hf hg HY (hS g hg) g8 ?_
        rw [ez]
        exact br_t rfl ⟨rfl, I'⟩
      · have ez : decide (L g ≠ []) = true := by simp [hz]
        rw [ez]
        obtain ⟨d, tg, hd⟩ : ∃ d tg, L g = d :: tg := List.exists_cons_of_ne_nil hz
        refine br_f (by decide) ?_
        refine xm_mq (s := 4) H (by omega) (by omega) (by omega) (by omega) (by omega) hd fun c1 z1 H1 => ?_
        refine xm_mr (s := 5) (q := 4) H1 (by omega) (by omega) (by omega) (by omega) (by omega) (by omega) (by omega) fun c2 z2 H2 => ?_
        rw [kd_Us, kd_Un (j := f) (by omega), kd_Un (j := g) (by omega)] at H2
        refine xm_copy (f := 5) H2 (by omega) (by omega) (by omega) fun c3 z3 H3 => ?_
        rw [kd_Us] at H3
        refine ⟨vp_in_nI (N := 6) (by omega) (by omega), ?_⟩
        dsimp only
        rw [kd_zs H3 (by omega), kd_Us]
        refine ym_ex_t he ?_
        refine br_f (by decide) ?_
        refine ym_div hf hg HY (hS g hg) g8 ?_
        rw [ez]
        refine br_f (by decide) ?_
        refine ym_work hf hg HY (hS f hf) (hS g hg) hd fun q' l' hq' hl' => ?_
        refine ym_store (r := true) he HY hl' fun a' HY' => ?_
        have Hl := HY' e he
        rw [kd_Us] at Hl
        refine ym_many he Hl (kd_R_S (hS f hf)) ?_
        exact ⟨rfl, kd_rel (kd_XE_U3 (by omega) (by omega) H3) (kd_SU hS (kd_R_S (hS f hf))) HY'⟩
theorem i_vc_common {k : Nat} {u : SX} {v : SY} (I : i_Rel k u v) (hk : k + 4 ≤ 2048) (v1 : Int32) : wpX_common (fun r => wpY_common (fun r' => r' = r ∧ i_Rel (k + 4) u v) v v1) u v1 := by
  obtain ⟨c, z⟩ := u
  obtain ⟨a, q, lf⟩ := v
  have I' : i_Rel (k + 4) (c, z) (a, q, lf) := I
  obtain ⟨L, H, hS, HY⟩ := I
  dsimp only at H HY
  unfold wpX_common wpY_common
  dsimp only
  rcases kd_cas 4 (by decide) v1 with h1 | ⟨e, he, rfl⟩
  · refine xm_isE_f h1 ?_
    refine br_t rfl ?_
    refine ym_ex_f h1 ?_
    exact br_t rfl ⟨rfl, I'⟩
  · refine xm_isE_t he ?_
    refine br_f (by decide) ?_
    have h8 := (H e (by omega)).2.1
    refine ⟨vp_in_nI (N := 6) (by omega) (by omega), ?_⟩
    rw [kd_zs H (by omega)]
    by_cases hz : (L e).length = 0
    · have hz' : nI (L e).length = 0 := by rw [hz]; rfl
      refine br_t hz' ?_
      refine ym_ex_t he ?_
      refine br_f (by decide) ?_
      refine ym_many he (HY e he) (hS e he) ?_
      exact br_t hz' ⟨rfl, I'⟩
    · have hz' : ¬ nI (L e).length = 0 := nI_ne0 (by omega) (by omega)
      refine br_f hz' ?_
      refine xm_letters H (by omega) ?_
      refine ym_ex_t he ?_
      refine br_f (by decide) ?_
      refine ym_many he (HY e he) (hS e he) ?_
      refine br_f hz' ⟨129, yl_common he (HY e he) 128 0 129 127 rfl (by omega) ?_⟩
      rw [kd_sv (hS e he).1 (hS e he).2]
      exact ⟨rfl, I'⟩
theorem i_vc_free {k : Nat} {u : SX} {v : SY} (I : i_Rel k u v) (hk : k + 4 ≤ 2048) (v1 : Int32) : wpX_free (fun r => wpY_free (fun r' => r' = r ∧ i_Rel (k + 4) u v) v v1) u v1 := by
  obtain ⟨c, z⟩ := u
  obtain ⟨a, q, lf⟩ := v
  have I' : i_Rel (k + 4) (c, z) (a, q, lf) := I
  obtain ⟨L, H, hS, HY⟩ := I
  dsimp only at H HY
  unfold wpX_free wpY_free
  dsimp only
  rcases kd_cas 4 (by decide) v1 with h1 | ⟨e, he, rfl⟩
  · refine xm_isE_f h1 ?_
    refine br_t rfl ?_
    refine ym_ex_f h1 ?_
    exact br_t rfl ⟨rfl, I'⟩
  · refine xm_isE_t he ?_
    refine br_f (by decide) ?_
    refine xm_isFree H (by omega) ?_
    refine kd_bb (fun h => ?_) (fun h => ?_)
    · refine ym_ex_t he ?_
      refine br_f (by decide) ?_
      refine ym_free (c := 0) he (by omega) (HY e he) (hS e he) ?_
      rw [kd_q0, h]
      exact br_t rfl ⟨rfl, I'⟩
    · refine ym_ex_t he ?_
      refine br_f (by decide) ?_
      refine ym_free (c := 0) he (by omega) (HY e he) (hS e he) ?_
      rw [kd_q0, h]
      exact br_f (by decide) ⟨rfl, I'⟩
theorem i_vc_kernels {k : Nat} {u : SX} {v : SY} (I : i_Rel k u v) (hk : k + 4 ≤ 2048) (v1 : Int32) : wpX_kernels (fun r u' => wpY_kernels (fun r' => r' = r ∧ i_Rel (k + 4) u' v) v v1) u v1 := by
  obtain ⟨c, z⟩ := u
  obtain ⟨a, q, lf⟩ := v
  have I' : i_Rel (k + 4) (c, z) (a, q, lf) := I
  obtain ⟨L, H, hS, HY⟩ := I
  dsimp only at H HY
  unfold wpX_kernels
  dsimp only
  rcases kd_cas 4 (by decide) v1 with h1 | ⟨e, he, rfl⟩
  · refine xm_isE_f h1 ?_
    refine br_t rfl ?_
    refine ⟨1, br_f (by decide) ?_⟩
    refine ym_ex_f h1 ?_
    refine br_t rfl ?_
    refine ym_ex_f h1 ?_
    exact br_t rfl ⟨rfl, I'⟩
  · refine xm_isE_t he ?_
    refine br_f (by decide) ?_
    exact ⟨129, xl_ker he 128 0 129 0 c z rfl (by omega) (kd_XEI H) fun c' z' H' => ⟨129, yl_ker he (HY e he) (hS e he) 128 0 129 0 rfl (by omega) ⟨rfl, kd_rel H' hS HY⟩⟩⟩
theorem i_vc_cokernels {k : Nat} {u : SX} {v : SY} (I : i_Rel k u v) (hk : k + 4 ≤ 2048) (v1 : Int32) : wpX_cokernels (fun r u' => wpY_cokernels (fun r' => r' = r ∧ i_Rel (k + 4) u' v) v v1) u v1 := by
  obtain ⟨c, z⟩ := u
  obtain ⟨a, q, lf⟩ := v
  have I' : i_Rel (k + 4) (c, z) (a, q, lf) := I
  obtain ⟨L, H, hS, HY⟩ := I
  dsimp only at H HY
  unfold wpX_cokernels
  dsimp only
  rcases kd_cas 4 (by decide) v1 with h1 | ⟨e, he, rfl⟩
  · refine xm_isE_f h1 ?_
    refine br_t rfl ?_
    refine ⟨1, br_f (by decide) ?_⟩
    refine ym_ex_f h1 ?_
    refine br_t rfl ?_
    refine ym_ex_f h1 ?_
    exact br_t rfl ⟨rfl, I'⟩
  · refine xm_isE_t he ?_
    refine br_f (by decide) ?_
    exact ⟨129, xl_cok he 128 0 129 0 c z rfl (by omega) (kd_XEI H) fun c' z' H' => ⟨129, yl_cok he (HY e he) (hS e he) 128 0 129 0 rfl (by omega) ⟨rfl, kd_rel H' hS HY⟩⟩⟩
theorem i_vc_nextCokernel {k : Nat} {u : SX} {v : SY} (I : i_Rel k u v) (hk : k + 4 ≤ 2048) (v1 : Int32) (v2 : Int32) : wpX_nextCokernel (fun r u' => wpY_nextCokernel (fun r' => r' = r ∧ i_Rel (k + 4) u' v) v v1 v2) u v1 v2 := by
  obtain ⟨c, z⟩ := u
  obtain ⟨a, q, lf⟩ := v
  have I' : i_Rel (k + 4) (c, z) (a, q, lf) := I
  obtain ⟨L, H, hS, HY⟩ := I
  dsimp only at H HY
  unfold wpX_nextCokernel
  dsimp only
  rcases kd_cas 4 (by decide) v1 with h1 | ⟨e, he, rfl⟩
  · refine xm_isE_f h1 ?_
    refine br_t rfl ?_
    refine ⟨1, br_f (by decide) ?_⟩
    refine ym_ex_f h1 ?_
    exact br_t rfl ⟨rfl, I'⟩
  · refine xm_isE_t he ?_
    refine br_f (by decide) ?_
    by_cases hn : v2 < 0
    · refine br_f (Int32.not_le.mpr hn) ?_
      refine ⟨129, xl_next he 128 0 129 c z (Or.inl rfl) (by omega) (kd_XEI H) fun c' z' H' => ⟨129, yl_next he (HY e he) (hS e he) 128 0 129 rfl (by omega) (fun y _ hy hlt => ?_) ⟨rfl, kd_rel H' hS HY⟩⟩⟩
      exact nI_pos (n := y) (by omega) (Int32.lt_trans hlt hn)
    · refine br_t (Int32.not_lt.mp hn) ?_
      obtain ⟨j, hj, rfl⟩ := nI_of hn
      refine ⟨129, xl_next he (128 - j) j 129 c z (by omega) (by omega) (kd_XEI H) fun c' z' H' => ⟨129, yl_skip he (HY e he) (hS e he) hj 128 0 129 rfl (by omega) ?_⟩⟩
      rw [show max 0 j = j by omega]
      exact ⟨rfl, kd_rel H' hS HY⟩
theorem i_vc_holding {k : Nat} {u : SX} {v : SY} (I : i_Rel k u v) (hk : k + 4 ≤ 2048) (v1 : Int32) (v2 : Int32) : wpX_holding (fun r => wpY_holding (fun r' => r' = r ∧ i_Rel (k + 4) u v) v v1 v2) u v1 v2 := by
  obtain ⟨c, z⟩ := u
  obtain ⟨a, q, lf⟩ := v
  have I' : i_Rel (k + 4) (c, z) (a, q, lf) := I
  obtain ⟨L, H, hS, HY⟩ := I
  dsimp only at H HY
  unfold wpX_holding wpY_holding
  dsimp only
  rcases kd_cas 4 (by decide) v1 with h1 | ⟨e, he, rfl⟩
  · refine xm_isE_f h1 ?_
    refine br_t rfl ?_
    refine ym_ex_f h1 ?_
    exact br_t rfl ⟨rfl, I'⟩
  · refine xm_isE_t he ?_
    refine br_f (by decide) ?_
    rcases kd_cas 128 (by decide) v2 with h2 | ⟨b, hb, rfl⟩
    · refine xm_isC_f h2 ?_
      refine br_t rfl ?_
      refine ym_ex_t he ?_
      refine br_f (by decide) ?_
      refine ym_cu_f h2 ?_
      exact br_t rfl ⟨rfl, I'⟩
    · refine xm_isC_t hb ?_
      refine br_f (by decide) ?_
      obtain ⟨g1, g2, g3, g4⟩ := H e (by omega)
      refine ⟨vp_in_nI (N := 6) (by omega) (by omega), nm_r (kd_zs H (by omega)) ⟨(L e).length + 1, ?_⟩⟩
      refine xl_hold (s := e) (by omega) g2 hb (L e) 0 0 _ (by omega) g3 g4 (by omega) ?_
      refine ym_ex_t he ?_
      refine br_f (by decide) ?_
      refine ym_cu_t hb ?_
      refine br_f (by decide) ?_
      refine ⟨129, yl_hold he hb (HY e he) 128 0 129 0 0 rfl (by omega) ?_⟩
      rw [kd_sv (hS e he).1 (hS e he).2]
      exact ⟨rfl, I'⟩
theorem kd_sm_l {l : List Nat} (h : kd_S l) : kd_sm (fun x => decide (x ∈ l)) (List.range' 0 128) = kd_clv l 0 := by
  rw [kd_sm, kd_sv h.1 h.2]
theorem i_vc_saving {k : Nat} {u : SX} {v : SY} (I : i_Rel k u v) (hk : k + 4 ≤ 2048) (v1 : Int32) (v2 : Int32) : wpX_saving (fun r u' => wpY_saving (fun r' v' => r' = r ∧ i_Rel (k + 4) u' v') v v1 v2) u v1 v2 := by
  obtain ⟨c, z⟩ := u
  obtain ⟨a, q, lf⟩ := v
  have I' : i_Rel (k + 4) (c, z) (a, q, lf) := I
  obtain ⟨L, H, hS, HY⟩ := I
  dsimp only at H HY
  unfold wpX_saving wpY_saving
  dsimp only
  have B : (kd_bad 4 v1 ∨ kd_bad 4 v2) ∨ ∃ f g, f < 4 ∧ g < 4 ∧ v1 = nI f ∧ v2 = nI g := by
    rcases kd_cas 4 (by decide) v1 with h2 | ⟨f, hf, e2⟩
    · exact Or.inl (Or.inl h2)
    · rcases kd_cas 4 (by decide) v2 with h3 | ⟨g, hg, e3⟩
      · exact Or.inl (Or.inr h3)
      · exact Or.inr ⟨f, g, hf, hg, e2, e3⟩
  rcases B with hB | ⟨f, g, hf, hg, rfl, rfl⟩
  · refine xm_canDivide_f hB ?_
    refine br_t rfl ?_
    refine ym_div_f hB ?_
    exact br_t rfl ⟨rfl, I'⟩
  · have g8 := (H g (by omega)).2.1
    refine xm_canDivide H hf hg ?_
    by_cases hz : L g = []
    · have ez : decide (L g ≠ []) = false := by simp [hz]
      rw [ez]
      refine br_t rfl ?_
      refine ym_div hf hg HY (hS g hg) g8 ?_
      rw [ez]
      exact br_t rfl ⟨rfl, I'⟩
    · have ez : decide (L g ≠ []) = true := by simp [hz]
      rw [ez]
      obtain ⟨d, tg, hd⟩ : ∃ d tg, L g = d :: tg := List.exists_cons_of_ne_nil hz
      have hd8 : d < 128 := (hS g hg).2 d (by rw [hd]; simp)
      refine br_f (by decide) ?_
      refine xm_mq (s := 4) H (by omega) (by omega) (by omega) (by omega) (by omega) hd fun c1 z1 H1 => ?_
      refine xm_mr (s := 5) (q := 4) H1 (by omega) (by omega) (by omega) (by omega) (by omega) (by omega) (by omega) fun c2 z2 H2 => ?_
      rw [kd_Us, kd_Un (j := f) (by omega), kd_Un (j := g) (by omega)] at H2
      refine xm_let H2 (by omega) ?_
      refine xm_let (s := 4) H2 (by omega) ?_
      refine xm_let (s := 5) H2 (by omega) ?_
      refine xm_let H2 (by omega) ?_
      rw [kd_Us, kd_Un (j := f) (by omega), kd_Un (j := g) (by omega), kd_Un (j := 4) (by omega), kd_Us, kd_Un (j := f) (by omega), kd_Un (j := g) (by omega)]
      refine ym_div hf hg HY (hS g hg) g8 ?_
      rw [ez]
      refine br_f (by decide) ?_
      refine ym_work hf hg HY (hS f hf) (hS g hg) hd fun q' l' hq' hl' => ?_
      refine ⟨129, yl_sav hf hg (HY f hf) hq' hl' (HY g hg) 128 0 129 0 rfl (by omega) ?_⟩
      rw [kd_sm_l (hS f hf), kd_sm_l (hS g hg), kd_sm_l (kd_Q_S hd8 (hS f hf)), kd_sm_l (kd_R_S (hS f hf)), Int32.zero_add]
      refine ⟨rfl, kd_rel (E := L) ⟨_, fun j hj => ?_, H2⟩ hS HY⟩
      rw [kd_Un (by omega), kd_Un (by omega)]
end
