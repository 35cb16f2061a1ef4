theorem kd_split {b : Nat} : ∀ (l : List Nat), l.Pairwise (· < ·) → ∃ p r, l = p ++ r ∧ (l.countP fun a => decide (a < b)) = p.length ∧ (∀ a ∈ p, a < b) ∧ (∀ a ∈ r, b ≤ a)
  | [], _ => ⟨[], [], rfl, rfl, by simp, by simp⟩
  | a :: t, h => by
    rw [List.pairwise_cons] at h
    by_cases hab : a < b
    · obtain ⟨p, r, h1, h2, h3, h4⟩ := kd_split (b := b) t h.2
      refine ⟨a :: p, r, by rw [h1]; rfl, ?_, ?_, h4⟩
      · rw [List.countP_cons_of_pos (by simp; omega), h2, List.length_cons]
      · intro x hx
        rcases List.mem_cons.mp hx with e | e
        · omega
        · exact h3 x e
    · refine ⟨[], a :: t, rfl, ?_, by simp, ?_⟩
      · rw [List.length_nil, List.countP_eq_zero]
        intro x hx
        rw [decide_eq_true_eq]
        rcases List.mem_cons.mp hx with e | e
        · omega
        · have := h.1 x e
          omega
      · intro x hx
        rcases List.mem_cons.mp hx with e | e
        · omega
        · have := h.1 x e
          omega
theorem kd_ins {b : Nat} {l : List Nat} (h : kd_S l) (hb : b < 128) (hn : b ∉ l) : kd_S (l.take (l.countP fun a => decide (a < b)) ++ b :: l.drop (l.countP fun a => decide (a < b))) ∧ ∀ x, x ∈ (l.take (l.countP fun a => decide (a < b)) ++ b :: l.drop (l.countP fun a => decide (a < b))) ↔ x = b ∨ x ∈ l := by
  obtain ⟨p, r, h1, h2, h3, h4⟩ := kd_split (b := b) l h.1
  rw [h2]
  subst h1
  rw [List.take_left, List.drop_left]
  have hm : ∀ x, x ∈ p ++ b :: r ↔ x = b ∨ x ∈ p ++ r := by
    intro x
    simp only [List.mem_append, List.mem_cons]
    constructor
    · rintro (h | h | h)
      · exact Or.inr (Or.inl h)
      · exact Or.inl h
      · exact Or.inr (Or.inr h)
    · rintro (h | h | h)
      · exact Or.inr (Or.inl h)
      · exact Or.inl h
      · exact Or.inr (Or.inr h)
  refine ⟨⟨?_, ?_⟩, hm⟩
  · have hp := List.pairwise_append.mp h.1
    rw [List.pairwise_append]
    refine ⟨hp.1, ?_, ?_⟩
    · rw [List.pairwise_cons]
      refine ⟨fun x hx => ?_, hp.2.1⟩
      have := h4 x hx
      have : x ≠ b := fun e => hn (by rw [← e]; simp [hx])
      omega
    · intro x hx y hy
      rcases List.mem_cons.mp hy with e | e
      · rw [e]
        exact h3 x hx
      · exact hp.2.2 x hx y e
  · intro x hx
    rcases (hm x).mp hx with e | e
    · omega
    · exact h.2 x e
theorem kd_rem {b : Nat} {l : List Nat} (h : kd_S l) (hn : b ∈ l) : (l.countP fun a => decide (a < b)) < l.length ∧ kd_S (l.take (l.countP fun a => decide (a < b)) ++ l.drop ((l.countP fun a => decide (a < b)) + 1)) ∧ ∀ x, x ∈ (l.take (l.countP fun a => decide (a < b)) ++ l.drop ((l.countP fun a => decide (a < b)) + 1)) ↔ x ≠ b ∧ x ∈ l := by
  obtain ⟨p, r, h1, h2, h3, h4⟩ := kd_split (b := b) l h.1
  rw [h2]
  subst h1
  have hp := List.pairwise_append.mp h.1
  have hr : b ∈ r := by
    rcases List.mem_append.mp hn with e | e
    · have := h3 b e
      omega
    · exact e
  cases r with
  | nil => simp at hr
  | cons y r =>
    have hy : y = b := by
      have hyb := h4 y (by simp)
      rcases List.mem_cons.mp hr with e | e
      · exact e.symm
      · have := (List.pairwise_cons.mp hp.2.1).1 b e
        omega
    subst hy
    have e : p ++ y :: r = (p ++ [y]) ++ r := by rw [List.append_assoc]; rfl
    have el : p.length + 1 = (p ++ [y]).length := by rw [List.length_append]; rfl
    rw [List.take_left, el, e, List.drop_left, ← e]
    have hc := List.pairwise_cons.mp hp.2.1
    have hm : ∀ x, x ∈ p ++ r ↔ x ≠ y ∧ x ∈ p ++ y :: r := by
      intro x
      simp only [List.mem_append, List.mem_cons]
      constructor
      · rintro (h | h)
        · have := h3 x h
          exact ⟨by omega, Or.inl h⟩
        · have := hc.1 x h
          exact ⟨by omega, Or.inr (Or.inr h)⟩
      · rintro ⟨h, h' | h' | h'⟩
        · exact Or.inl h'
        · exact absurd h' h
        · exact Or.inr h'
    refine ⟨by rw [List.length_append, List.length_cons]; omega, ⟨?_, fun x hx => h.2 x ((hm x).mp hx).2⟩, hm⟩
    rw [List.pairwise_append]
    exact ⟨hp.1, hc.2, fun x hx z hz => hp.2.2 x hx z (by simp [hz])⟩
theorem kd_Y_upd {E : Nat → List Nat} {a : Nat → Int32} {e b : Nat} {l : List Nat} {v : Bool} (H : kd_Y E a) (he : e < 4) (hb : b < 128) (hm : ∀ x, x ≠ b → (x ∈ l ↔ x ∈ E e)) (hf : decide (b ∈ l) = v) : kd_Y (kd_U E e l) (upd a (128 * e + b) (kd_b v)) := by
  intro j hj x hx
  by_cases h : j = e
  · subst h
    rw [kd_Us]
    by_cases hxb : x = b
    · subst hxb
      rw [pk_us, hf]
    · rw [pk_un (by omega), H j hj x hx]
      exact congrArg kd_b (by simp only [hm x hxb])
  · rw [kd_Un h, pk_un (by omega)]
    exact H j hj x hx
theorem kd_SU {L : Nat → List Nat} {s : Nat} {l : List Nat} (hS : ∀ e, e < 4 → kd_S (L e)) (hl : kd_S l) : ∀ e, e < 4 → kd_S (kd_U L s l e) := by
  intro e he
  by_cases h : e = s
  · rw [h, kd_Us]
    exact hl
  · rw [kd_Un h]
    exact hS e he
/-- the component's lists are rising, and the reference's tables have the same cubes -/
def i_Rel (_ : Nat) (u : SX) (v : SY) : Prop := ∃ L : Nat → List Nat, kd_X L u.1 u.2 ∧ (∀ e, e < 4 → kd_S (L e)) ∧ kd_Y L v.1
theorem i_up {k : Nat} {u : SX} {v : SY} (h : i_Rel k u v) : i_Rel (k + 4) u v := h
theorem i_vc0 : wpX_init (fun u => wpY_init (fun v => i_Rel 0 u v)) :=
  ⟨fun _ => [], fun _ _ => ⟨rfl, by simp, by simp, trivial⟩, fun _ _ => ⟨List.Pairwise.nil, by simp⟩, fun _ _ _ _ => rfl⟩
theorem kd_rel {k : Nat} {E : Nat → List Nat} {c z a q lf : Nat → Int32} (H : kd_XE E c z) (hS : ∀ e, e < 4 → kd_S (E e)) (HY : kd_Y E a) : i_Rel k (c, z) (a, q, lf) := by
  obtain ⟨L, hL, H⟩ := H
  exact ⟨L, H, fun e he => by rw [hL e he]; exact hS e he, fun e he => by rw [hL e he]; exact HY e he⟩
theorem kd_XEI {L : Nat → List Nat} {c z : Nat → Int32} (H : kd_X L c z) : kd_XE L c z := ⟨L, fun _ _ => rfl, H⟩
