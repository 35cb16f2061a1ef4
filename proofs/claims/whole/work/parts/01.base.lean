theorem pk_us {f : Nat → Int32} {k : Nat} {x : Int32} : upd f k x k = x := if_pos rfl
theorem pk_un {f : Nat → Int32} {k j : Nat} {x : Int32} (h : j ≠ k) : upd f k x j = f j := if_neg h
theorem pk_sub {a b : Nat} (h : b ≤ a) : nI a - nI b = nI (a - b) := by
  obtain ⟨c, rfl⟩ : ∃ c, a = c + b := ⟨a - b, by omega⟩
  rw [← nI_add, Int32.add_sub_cancel, Nat.add_sub_cancel]
theorem pk_m1 (n : Nat) : nI (n + 1) + (-1) = nI n := by
  rw [← nI_1, Int32.add_assoc, show (1 : Int32) + (-1) = 0 from rfl, Int32.add_zero]
theorem pk_mul (a b : Nat) : nI a * nI b = nI (a * b) := (Int32.ofNat_mul a b).symm
theorem pk_ix (x : Int32) {n : Nat} (hn : n < 2 ^ 31) : x < 0 ∨ nI n ≤ x ∨ ∃ j : Nat, j < n ∧ x = nI j := by
  by_cases h : x < 0
  · exact Or.inl h
  · obtain ⟨j, hj, rfl⟩ := nI_of h
    by_cases h2 : j < n
    · exact Or.inr (Or.inr ⟨j, h2, rfl⟩)
    · exact Or.inr (Or.inl (nI_le (by omega) hj))
theorem nx_and (a b : Nat) : nI a &&& nI b = nI (a &&& b) := by
  apply Int32.toBitVec_inj.1
  show BitVec.ofNat 32 a &&& BitVec.ofNat 32 b = BitVec.ofNat 32 (a &&& b)
  apply BitVec.eq_of_getLsbD_eq
  intro i hi
  simp [hi]
theorem nx_xor (a b : Nat) : nI a ^^^ nI b = nI (a ^^^ b) := by
  apply Int32.toBitVec_inj.1
  show BitVec.ofNat 32 a ^^^ BitVec.ofNat 32 b = BitVec.ofNat 32 (a ^^^ b)
  apply BitVec.eq_of_getLsbD_eq
  intro i hi
  simp [hi]
theorem kd_or (a b : Nat) : nI a ||| nI b = nI (a ||| b) := by
  apply Int32.toBitVec_inj.1
  show BitVec.ofNat 32 a ||| BitVec.ofNat 32 b = BitVec.ofNat 32 (a ||| b)
  apply BitVec.eq_of_getLsbD_eq
  intro i hi
  simp [hi]
/-- taking the letters of d out of w -/
theorem kd_out {w d : Nat} (h : w &&& d = d) : nI w &&& (nI d ^^^ (-1)) = nI (w ^^^ d) := by
  apply Int32.toBitVec_inj.1
  show BitVec.ofNat 32 w &&& (BitVec.ofNat 32 d ^^^ (-1 : Int32).toBitVec) = BitVec.ofNat 32 (w ^^^ d)
  have e : (-1 : Int32).toBitVec = BitVec.allOnes 32 := by decide
  rw [e]
  apply BitVec.eq_of_getLsbD_eq
  intro i hi
  have hb : (w.testBit i && d.testBit i) = d.testBit i := by rw [← Nat.testBit_and, h]
  simp only [BitVec.getLsbD_and, BitVec.getLsbD_xor, BitVec.getLsbD_ofNat, BitVec.getLsbD_allOnes, hi, decide_true, Bool.true_and, Nat.testBit_xor]
  revert hb
  cases w.testBit i <;> cases d.testBit i <;> simp
theorem kd_in {w d : Nat} (hd : d < 2 ^ 31) (hw : w < 2 ^ 31) : (nI d &&& (nI w ^^^ (-1))) = 0 ↔ w &&& d = d := by
  have e : nI d &&& (nI w ^^^ (-1)) = nI (d ^^^ (w &&& d)) := by
    apply Int32.toBitVec_inj.1
    show BitVec.ofNat 32 d &&& (BitVec.ofNat 32 w ^^^ (-1 : Int32).toBitVec) = BitVec.ofNat 32 (d ^^^ (w &&& d))
    have e : (-1 : Int32).toBitVec = BitVec.allOnes 32 := by decide
    rw [e]
    apply BitVec.eq_of_getLsbD_eq
    intro i hi
    simp only [BitVec.getLsbD_and, BitVec.getLsbD_xor, BitVec.getLsbD_ofNat, BitVec.getLsbD_allOnes, hi, decide_true, Bool.true_and, Nat.testBit_xor, Nat.testBit_and]
    cases w.testBit i <;> cases d.testBit i <;> simp
  have hx : d ^^^ (w &&& d) < 2 ^ 31 := Nat.xor_lt_two_pow hd (Nat.and_lt_two_pow _ hd)
  rw [e, ← nI_0, nI_eq hx (by decide)]
  constructor
  · intro h
    apply Nat.eq_of_testBit_eq
    intro i
    have hi : (d ^^^ (w &&& d)).testBit i = false := by rw [h, Nat.zero_testBit]
    rw [Nat.testBit_xor] at hi
    revert hi
    cases d.testBit i <;> cases (w &&& d).testBit i <;> simp
  · intro h
    rw [h, Nat.xor_self]
def kd_b (b : Bool) : Int32 := if b then 1 else 0
theorem kd_bt : kd_b true = 1 := rfl
theorem kd_bf : kd_b false = 0 := rfl
theorem kd_bz (b : Bool) : kd_b b = 0 ↔ b = false := by cases b <;> decide
theorem kd_bi (a b : Bool) : kd_b a = kd_b b ↔ a = b := by cases a <;> cases b <;> decide
theorem kd_nar (b : Bool) : vp_nar .boolean (kd_b b) = kd_b b := by cases b <;> rfl
theorem kd_nrw (b : Bool) : narrow .boolean (.int (kd_b b)) = .int (kd_b b) := by cases b <;> rfl
theorem kd_bb {b : Bool} {A B : Prop} (f : b = false → A) (g : b = true → B) : (kd_b b = 0 → A) ∧ (¬ kd_b b = 0 → B) := by
  rw [kd_bz]
  exact ⟨f, fun h => g (by cases b <;> simp_all)⟩
theorem kd_ix (s i : Nat) : nI s * 8 + nI i = nI (8 * s + i) := by
  show nI s * nI 8 + nI i = _
  rw [pk_mul, nI_add, Nat.mul_comm]
theorem kd_iy (s i : Nat) : 128 * nI s + nI i = nI (128 * s + i) := by
  show nI 128 * nI s + nI i = _
  rw [pk_mul, nI_add]
def kd_bad (n : Nat) (x : Int32) : Prop := x < 0 ∨ nI n ≤ x
theorem kd_cas (n : Nat) (hn : n < 2 ^ 31) (x : Int32) : kd_bad n x ∨ ∃ j : Nat, j < n ∧ x = nI j := by
  rcases pk_ix x hn with h | h | h
  · exact Or.inl (Or.inl h)
  · exact Or.inl (Or.inr h)
  · exact Or.inr h
theorem kd_bad_ne {n : Nat} {x : Int32} (hn : n < 2 ^ 31) (h : kd_bad n x) {j : Nat} (hj : j < n) : ¬ nI j = x := by
  intro e
  subst e
  rcases h with h | h
  · exact nI_pos (by omega) h
  · exact nI_ge hj hn h
/-! lists -/
theorem kd_ext : ∀ (l l' : List Nat), l.Pairwise (· < ·) → l'.Pairwise (· < ·) → (∀ x, x ∈ l ↔ x ∈ l') → l = l'
  | [], [], _, _, _ => rfl
  | [], b :: t, _, _, h => absurd ((h b).mpr (by simp)) (by simp)
  | a :: t, [], _, _, h => absurd ((h a).mp (by simp)) (by simp)
  | a :: t, b :: t', h1, h2, h => by
    rw [List.pairwise_cons] at h1 h2
    have e : a = b := by
      have ha := (h a).mp (by simp)
      have hb := (h b).mpr (by simp)
      rcases List.mem_cons.mp ha with ha | ha
      · exact ha
      · rcases List.mem_cons.mp hb with hb | hb
        · exact hb.symm
        · have := h1.1 _ hb
          have := h2.1 _ ha
          omega
    subst e
    refine congrArg (a :: ·) (kd_ext t t' h1.2 h2.2 fun x => ?_)
    constructor
    · intro hx
      have := h1.1 _ hx
      rcases List.mem_cons.mp ((h x).mp (List.mem_cons_of_mem _ hx)) with hh | hh
      · omega
      · exact hh
    · intro hx
      have := h2.1 _ hx
      rcases List.mem_cons.mp ((h x).mpr (List.mem_cons_of_mem _ hx)) with hh | hh
      · omega
      · exact hh
theorem kd_r128 (x : Nat) : x ∈ List.range' 0 128 ↔ x < 128 := by
  rw [List.mem_range'_1]
  omega
/-- a strictly rising list below 128 is the range 0 .. 127, sieved -/
theorem kd_sv {l : List Nat} (h : l.Pairwise (· < ·)) (hl : ∀ a ∈ l, a < 128) : (List.range' 0 128).filter (fun x => decide (x ∈ l)) = l := by
  apply kd_ext
  · exact List.Pairwise.filter _ List.pairwise_lt_range'
  · exact h
  · intro x
    rw [List.mem_filter, kd_r128, decide_eq_true_eq]
    exact ⟨fun a => a.2, fun a => ⟨hl x a, a⟩⟩
theorem kd_fold {α : Type} (f : α → Nat → α) (p : Nat → Bool) : ∀ (l : List Nat) (a : α), l.foldl (fun a x => if p x = true then f a x else a) a = (l.filter p).foldl f a
  | [], a => rfl
  | x :: t, a => by
    by_cases h : p x = true
    · rw [List.filter_cons_of_pos h, List.foldl_cons, List.foldl_cons, if_pos h]
      exact kd_fold f p t _
    · rw [List.filter_cons_of_neg h, List.foldl_cons, if_neg h]
      exact kd_fold f p t _
/-- the quotient by a cube, as a list -/
def kd_q (c : Nat) (l : List Nat) : List Nat := (l.filter (fun w => decide (w &&& c = c))).map (fun w => w ^^^ c)
theorem kd_q_nil (c : Nat) : kd_q c [] = [] := rfl
theorem kd_q_t {c a : Nat} {t : List Nat} (h : a &&& c = c) : kd_q c (a :: t) = (a ^^^ c) :: kd_q c t := by
  simp [kd_q, List.filter_cons, h]
theorem kd_q_f {c a : Nat} {t : List Nat} (h : ¬ a &&& c = c) : kd_q c (a :: t) = kd_q c t := by
  simp [kd_q, List.filter_cons, h]
theorem kd_q_len (c : Nat) (l : List Nat) : (kd_q c l).length ≤ l.length := by
  rw [kd_q, List.length_map]
  exact List.length_filter_le _ _
theorem kd_bits {x c : Nat} (h : x &&& c = 0) : (x ||| c) &&& c = c ∧ (x ||| c) ^^^ c = x := by
  constructor
  · apply Nat.eq_of_testBit_eq
    intro i
    simp only [Nat.testBit_and, Nat.testBit_or]
    cases x.testBit i <;> cases c.testBit i <;> rfl
  · apply Nat.eq_of_testBit_eq
    intro i
    have hi : (x.testBit i && c.testBit i) = false := by rw [← Nat.testBit_and, h, Nat.zero_testBit]
    simp only [Nat.testBit_xor, Nat.testBit_or]
    revert hi
    cases x.testBit i <;> cases c.testBit i <;> simp
theorem kd_bits' {w c : Nat} (h : w &&& c = c) : (w ^^^ c) &&& c = 0 ∧ (w ^^^ c) ||| c = w := by
  have hb : ∀ i, (w.testBit i && c.testBit i) = c.testBit i := fun i => by rw [← Nat.testBit_and, h]
  constructor
  · apply Nat.eq_of_testBit_eq
    intro i
    have := hb i
    simp only [Nat.testBit_and, Nat.testBit_xor, Nat.zero_testBit]
    revert this
    cases w.testBit i <;> cases c.testBit i <;> simp
  · apply Nat.eq_of_testBit_eq
    intro i
    have := hb i
    simp only [Nat.testBit_or, Nat.testBit_xor]
    revert this
    cases w.testBit i <;> cases c.testBit i <;> simp
theorem kd_q_mem {c x : Nat} {l : List Nat} : x ∈ kd_q c l ↔ x &&& c = 0 ∧ (x ||| c) ∈ l := by
  simp only [kd_q, List.mem_map, List.mem_filter, decide_eq_true_eq]
  constructor
  · rintro ⟨w, ⟨h1, h2⟩, rfl⟩
    have := kd_bits' h2
    exact ⟨this.1, by rw [this.2]; exact h1⟩
  · rintro ⟨h1, h2⟩
    exact ⟨x ||| c, ⟨h2, (kd_bits h1).1⟩, (kd_bits h1).2⟩
theorem kd_tab : ((List.range 128).all fun w => (List.range 128).all fun c => !(Nat.beq (w &&& c) c) || Nat.beq ((w ^^^ c) + c) w) = true := by decide +kernel
theorem kd_less {w c : Nat} (hw : w < 128) (hc : c < 128) (h : w &&& c = c) : (w ^^^ c) + c = w := by
  have a := List.all_eq_true.mp kd_tab w (List.mem_range.mpr hw)
  have b := List.all_eq_true.mp a c (List.mem_range.mpr hc)
  rw [h] at b
  simpa using b
theorem kd_x128 {a b : Nat} (ha : a < 128) (hb : b < 128) : a ^^^ b < 128 := Nat.xor_lt_two_pow (n := 7) ha hb
theorem kd_o128 {a b : Nat} (ha : a < 128) (hb : b < 128) : a ||| b < 128 := Nat.or_lt_two_pow (n := 7) ha hb
/-- taking out of a sieved rising list the same letters leaves it rising -/
theorem kd_mapS {c : Nat} (hc : c < 128) : ∀ (l : List Nat), l.Pairwise (· < ·) → (∀ a ∈ l, a < 128 ∧ a &&& c = c) → (l.map (fun w => w ^^^ c)).Pairwise (· < ·) := by
  intro l h ha
  rw [List.pairwise_map]
  refine List.Pairwise.imp_of_mem (fun {a b} h1 h2 hab => ?_) h
  have e1 := kd_less (ha a h1).1 hc (ha a h1).2
  have e2 := kd_less (ha b h2).1 hc (ha b h2).2
  omega
theorem kd_q_S {c : Nat} {l : List Nat} (hc : c < 128) (h : l.Pairwise (· < ·)) (ha : ∀ a ∈ l, a < 128) : (kd_q c l).Pairwise (· < ·) := by
  apply kd_mapS hc
  · exact List.Pairwise.filter _ h
  · intro a hm
    rw [List.mem_filter, decide_eq_true_eq] at hm
    exact ⟨ha a hm.1, hm.2⟩
theorem kd_q_128 {c : Nat} {l : List Nat} (hc : c < 128) (ha : ∀ a ∈ l, a < 128) : ∀ a ∈ kd_q c l, a < 128 := by
  intro a hm
  simp only [kd_q, List.mem_map, List.mem_filter] at hm
  obtain ⟨w, ⟨h1, _⟩, rfl⟩ := hm
  exact kd_x128 (ha w h1) hc
