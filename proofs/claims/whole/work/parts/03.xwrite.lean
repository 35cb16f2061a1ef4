theorem kd_X_set {L : Nat → List Nat} {c z c' z' : Nat → Int32} {s : Nat} {l : List Nat} (H : kd_X L c z) (hz : z' s = nI l.length) (hzn : ∀ j, j ≠ s → z' j = z j) (hl : l.length ≤ 8) (h8 : ∀ a ∈ l, a < 128) (hc : kd_At c' (8 * s) l) (hcn : ∀ m, (m < 8 * s ∨ 8 * s + 8 ≤ m) → c' m = c m) : kd_X (kd_U L s l) c' z' := by
  intro j hj
  by_cases h : j = s
  · subst h
    rw [kd_Us]
    exact ⟨hz, hl, h8, hc⟩
  · rw [kd_Un h, hzn j h]
    obtain ⟨h1, h2, h3, h4⟩ := H j hj
    exact ⟨h1, h2, h3, kd_At_mp _ _ _ h4 fun i hi => hcn _ (by omega)⟩
theorem kd_X_clr {L : Nat → List Nat} {c z : Nat → Int32} {s : Nat} (H : kd_X L c z) : kd_X (kd_U L s []) c (upd z s 0) :=
  kd_X_set H pk_us (fun j hj => pk_un hj) (by simp) (by simp) trivial (fun _ _ => rfl)
theorem xm_append {post : SX → Prop} {L : Nat → List Nat} {c z : Nat → Int32} {s x : Nat} (H : kd_X L c z) (hs : s < 6) (hl : (L s).length < 8) (hx : x < 128) (hp : ∀ c' z', kd_X (kd_U L s (L s ++ [x])) c' z' → post (c', z')) : wpX_append post (c, z) (nI s) (nI x) := by
  unfold wpX_append
  dsimp only
  obtain ⟨h1, h2, h3, h4⟩ := H s hs
  rw [kd_zs H hs, kd_ix, nI_clamp (n := 8 * s + (L s).length) (by omega), nI_clamp (n := s) (by omega), nI_1]
  refine ⟨vp_in_nI hs (by omega), vp_in_nI (by omega) (by omega), nm_e ⟨vp_in_nI hs (by omega), vp_in_nI hs (by omega), nm_e (hp _ _ ?_)⟩⟩
  refine kd_X_set H ?_ (fun j hj => pk_un hj) ?_ ?_ ?_ ?_
  · rw [pk_us, List.length_append, List.length_singleton]
  · rw [List.length_append, List.length_singleton]
    omega
  · intro a ha
    rcases List.mem_append.mp ha with h | h
    · exact h3 a h
    · rw [List.mem_singleton.mp h]
      exact hx
  · rw [kd_At_app]
    exact ⟨kd_At_mp _ _ _ h4 fun i hi => pk_un (by omega), pk_us, trivial⟩
  · intro m hm
    exact pk_un (by omega)
theorem xl_insert {post : SX → Prop} {s b k len : Nat} {c0 z : Nat → Int32} (hs : s < 6) (hlen : len < 8) : ∀ (j n : Nat) (f : Nat → Int32), j < n → k + j ≤ len → (∀ m, f m = if 8 * s + (k + j) < m ∧ m ≤ 8 * s + len then c0 (m - 1) else c0 m) → (∀ f', (∀ m, f' m = if m = 8 * s + k then nI b else if 8 * s + k < m ∧ m ≤ 8 * s + len then c0 (m - 1) else c0 m) → post (f', upd z s (z s + 1))) → wX_insert_21 post (nI s) (nI b) (nI s * 8) (nI k) n (nI (k + j)) f z := by
  intro j
  induction j with
  | zero =>
    intro n f hn hk hf hp
    obtain ⟨n, rfl⟩ : ∃ m, n = m + 1 := ⟨n - 1, by omega⟩
    refine br_t (nI_le (by omega) (by omega)) ?_
    rw [kd_ix, nI_clamp (n := 8 * s + k) (by omega), nI_clamp (n := s) (by omega)]
    refine ⟨vp_in_nI (by omega) (by omega), nm_e ⟨vp_in_nI hs (by omega), vp_in_nI hs (by omega), nm_e (hp _ fun m => ?_)⟩⟩
    by_cases hm : m = 8 * s + k
    · rw [if_pos hm, hm, pk_us]
    · rw [if_neg hm, pk_un hm, hf m]
      rfl
  | succ j ih =>
    intro n f hn hk hf hp
    obtain ⟨n, rfl⟩ : ∃ m, n = m + 1 := ⟨n - 1, by omega⟩
    refine br_f (nI_ge (by omega) (by omega)) ?_
    have e : nI (8 * s + (k + (j + 1))) - 1 = nI (8 * s + (k + j)) := nI_pred (8 * s + (k + j))
    rw [kd_ix, e, nI_clamp (n := 8 * s + (k + (j + 1))) (by omega), nI_clamp (n := 8 * s + (k + j)) (by omega)]
    refine ⟨vp_in_nI (by omega) (by omega), vp_in_nI (by omega) (by omega), nm_e (nm_r (pk_m1 (k + j)) (ih n _ (by omega) (by omega) (fun m => ?_) hp))⟩
    by_cases hm : m = 8 * s + (k + (j + 1))
    · rw [hm, pk_us, hf, if_neg (by omega), if_pos (by omega)]
      exact congrArg c0 (by omega)
    · rw [pk_un hm, hf]
      have : (8 * s + (k + (j + 1)) < m ∧ m ≤ 8 * s + len) ↔ (8 * s + (k + j) < m ∧ m ≤ 8 * s + len) := by omega
      simp only [this]
theorem xm_insert {post : SX → Prop} {L : Nat → List Nat} {c z : Nat → Int32} {s b : Nat} (H : kd_X L c z) (hs : s < 6) (hb : b < 128) (hl : (L s).length < 8) (hp : ∀ c' z', kd_X (kd_U L s ((L s).take ((L s).countP fun a => decide (a < b)) ++ b :: (L s).drop ((L s).countP fun a => decide (a < b)))) c' z' → post (c', z')) : wpX_insert post (c, z) (nI s) (nI b) := by
  unfold wpX_insert
  dsimp only
  obtain ⟨h1, h2, h3, h4⟩ := H s hs
  refine nm_e ?_
  refine xm_countBelow H hs hb ?_
  have hk : ((L s).countP fun a => decide (a < b)) ≤ (L s).length := List.countP_le_length
  revert hk hp
  generalize ((L s).countP fun a => decide (a < b)) = k
  intro hp hk
  refine ⟨vp_in_nI hs (by omega), nm_r (kd_zs H hs) ⟨(L s).length + 1, ?_⟩⟩
  have e : (L s).length = k + ((L s).length - k) := by omega
  have W := xl_insert (post := post) (b := b) (k := k) (c0 := c) (z := z) hs hl ((L s).length - k) ((L s).length + 1) c (by omega) (by omega) (fun m => by rw [if_neg (by omega)]) ?_
  · rw [← e] at W
    exact W
  · intro f' hf
    refine hp _ _ (kd_X_set H ?_ (fun j hj => pk_un hj) ?_ ?_ ?_ ?_)
    · rw [pk_us, h1, nI_1, List.length_append, List.length_cons, List.length_take, List.length_drop]
      exact congrArg nI (by omega)
    · rw [List.length_append, List.length_cons, List.length_take, List.length_drop]
      omega
    · intro a ha
      rcases List.mem_append.mp ha with h | h
      · exact h3 a (List.mem_of_mem_take h)
      · rcases List.mem_cons.mp h with h | h
        · omega
        · exact h3 a (List.mem_of_mem_drop h)
    · have h4' := h4
      rw [← List.take_append_drop k (L s), kd_At_app] at h4'
      have hlt : ((L s).take k).length = k := by rw [List.length_take]; omega
      rw [kd_At_app]
      rw [hlt] at h4' ⊢
      refine ⟨kd_At_mp _ _ _ h4'.1 fun i hi => ?_, ?_, kd_At_mp _ _ _ h4'.2 fun i hi => ?_⟩
      · rw [hlt] at hi
        rw [hf, if_neg (by omega), if_neg (by omega)]
      · rw [hf, if_pos rfl]
      · rw [List.length_drop] at hi
        rw [hf, if_neg (by omega), if_pos (by omega)]
        exact congrArg c (by omega)
    · intro m hm
      rw [hf, if_neg (by omega), if_neg (by omega)]
theorem xl_remove {post : SX → Prop} {s k last : Nat} {c0 z : Nat → Int32} (hs : s < 6) (hlast : last < 8) (hkl : k ≤ last) : ∀ (j i n : Nat) (f : Nat → Int32), i + j = last → k ≤ i → j < n → (∀ m, f m = if 8 * s + k ≤ m ∧ m < 8 * s + i then c0 (m + 1) else c0 m) → (∀ f', (∀ m, f' m = if 8 * s + k ≤ m ∧ m < 8 * s + last then c0 (m + 1) else c0 m) → post (f', upd z s (nI last))) → wX_remove_27 post (nI s) (nI s * 8) (nI last) n (nI i) f z := by
  intro j
  induction j with
  | zero =>
    intro i n f hi hk hn hf hp
    obtain ⟨n, rfl⟩ : ∃ m, n = m + 1 := ⟨n - 1, by omega⟩
    have : i = last := by omega
    subst this
    refine br_t (nI_le (by omega) (by omega)) ?_
    rw [nI_clamp (n := s) (by omega)]
    exact ⟨vp_in_nI hs (by omega), nm_e (hp _ hf)⟩
  | succ j ih =>
    intro i n f hi hk hn hf hp
    obtain ⟨n, rfl⟩ : ∃ m, n = m + 1 := ⟨n - 1, by omega⟩
    refine br_f (nI_ge (by omega) (by omega)) ?_
    rw [kd_ix, nI_1 (8 * s + i), nI_clamp (n := 8 * s + i) (by omega), nI_clamp (n := 8 * s + i + 1) (by omega)]
    refine ⟨vp_in_nI (by omega) (by omega), vp_in_nI (by omega) (by omega), nm_e (nm_r (nI_1 i) (ih (i + 1) n _ (by omega) (by omega) (by omega) (fun m => ?_) hp))⟩
    by_cases hm : m = 8 * s + i
    · rw [hm, pk_us, hf, if_neg (by omega), if_pos (by omega)]
    · rw [pk_un hm, hf]
      have : (8 * s + k ≤ m ∧ m < 8 * s + i) ↔ (8 * s + k ≤ m ∧ m < 8 * s + (i + 1)) := by omega
      simp only [this]
theorem xm_remove {post : SX → Prop} {L : Nat → List Nat} {c z : Nat → Int32} {s b : Nat} (H : kd_X L c z) (hs : s < 6) (hb : b < 128) (hl : ((L s).countP fun a => decide (a < b)) < (L s).length) (hp : ∀ c' z', kd_X (kd_U L s ((L s).take ((L s).countP fun a => decide (a < b)) ++ (L s).drop (((L s).countP fun a => decide (a < b)) + 1))) c' z' → post (c', z')) : wpX_remove post (c, z) (nI s) (nI b) := by
  unfold wpX_remove
  dsimp only
  obtain ⟨h1, h2, h3, h4⟩ := H s hs
  refine nm_e ?_
  refine ⟨vp_in_nI hs (by omega), ?_⟩
  have e : z (nI s).toNatClampNeg - 1 = nI ((L s).length - 1) := by
    rw [kd_zs H hs]
    have e : (L s).length = (L s).length - 1 + 1 := by omega
    rw [e, nI_pred]
    rfl
  refine nm_r e ?_
  refine xm_countBelow H hs hb ?_
  revert hl hp
  generalize ((L s).countP fun a => decide (a < b)) = k
  intro hk hp
  refine ⟨(L s).length + 1, ?_⟩
  refine xl_remove (k := k) (c0 := c) hs (by omega) (by omega) ((L s).length - 1 - k) k _ c (by omega) (by omega) (by omega) (fun m => by rw [if_neg (by omega)]) ?_
  intro f' hf
  refine hp _ _ (kd_X_set H ?_ (fun j hj => pk_un hj) ?_ ?_ ?_ ?_)
  · rw [pk_us, List.length_append, List.length_take, List.length_drop]
    exact congrArg nI (by omega)
  · rw [List.length_append, List.length_take, List.length_drop]
    omega
  · intro a ha
    rcases List.mem_append.mp ha with h | h
    · exact h3 a (List.mem_of_mem_take h)
    · exact h3 a (List.mem_of_mem_drop h)
  · have a1 := h4
    rw [← List.take_append_drop k (L s), kd_At_app] at a1
    have a2 := h4
    rw [← List.take_append_drop (k + 1) (L s), kd_At_app] at a2
    have hlt : ((L s).take k).length = k := by rw [List.length_take]; omega
    have hlt' : ((L s).take (k + 1)).length = k + 1 := by rw [List.length_take]; omega
    rw [hlt'] at a2
    rw [kd_At_app, hlt]
    refine ⟨kd_At_mp _ _ _ a1.1 fun i hi => ?_, kd_At_mp _ _ _ a2.2 fun i hi => ?_⟩
    · rw [hlt] at hi
      rw [hf, if_neg (by omega)]
    · rw [List.length_drop] at hi
      rw [hf, if_pos (by omega)]
      exact congrArg c (by omega)
  · intro m hm
    rw [hf, if_neg (by omega)]
theorem xl_copy {post : SX → Prop} {L : Nat → List Nat} {s f : Nat} {c0 z : Nat → Int32} (H : kd_X L c0 z) (hs : s < 6) (hf : f < 6) (hne : f ≠ s) : ∀ (t p : List Nat) (i n : Nat) (cc : Nat → Int32), L f = p ++ t → p.length = i → t.length < n → (∀ m, (m < 8 * s ∨ 8 * s + 8 ≤ m) → cc m = c0 m) → kd_At cc (8 * s) p → (∀ c' z', kd_X (kd_U L s (L f)) c' z' → post (c', z')) → wX_copy_10 post (nI s) (nI f) (nI (L f).length) n (nI i) cc z := by
  intro t
  obtain ⟨h1, h2, h3, h4⟩ := H f hf
  induction t with
  | nil =>
    intro p i n cc hL hi hn hc ha hp
    obtain ⟨n, rfl⟩ : ∃ m, n = m + 1 := ⟨n - 1, by omega⟩
    rw [List.append_nil] at hL
    have hlen := congrArg List.length hL
    refine br_t (nI_le (by omega) (by omega)) ?_
    rw [nI_clamp (n := s) (by omega)]
    refine ⟨vp_in_nI hs (by omega), nm_e (hp _ _ (kd_X_set H pk_us (fun j hj => pk_un hj) h2 h3 ?_ hc))⟩
    rw [hL]
    exact ha
  | cons a t ih =>
    intro p i n cc hL hi hn hc ha hp
    obtain ⟨n, rfl⟩ : ∃ m, n = m + 1 := ⟨n - 1, by omega⟩
    have hlen := congrArg List.length hL
    rw [List.length_append, List.length_cons] at hlen
    rw [List.length_cons] at hn
    have hat := h4
    rw [hL, kd_At_app, hi] at hat
    refine br_f (nI_ge (by omega) (by omega)) ?_
    have hv : cc (8 * f + i) = nI a := by
      rw [hc _ (by omega)]
      exact hat.2.1
    rw [kd_ix, kd_ix, nI_clamp (n := 8 * s + i) (by omega), nI_clamp (n := 8 * f + i) (by omega), hv]
    refine ⟨vp_in_nI (by omega) (by omega), vp_in_nI (by omega) (by omega), nm_e (nm_r (nI_1 i) (ih (p ++ [a]) (i + 1) n _ ?_ ?_ (by omega) ?_ ?_ hp))⟩
    · rw [hL, List.append_assoc]
      rfl
    · rw [List.length_append, hi]
      rfl
    · intro m hm
      rw [pk_un (by omega)]
      exact hc m hm
    · rw [kd_At_app, hi]
      exact ⟨kd_At_mp _ _ _ ha fun j hj => pk_un (by omega), pk_us, trivial⟩
theorem xm_copy {post : SX → Prop} {L : Nat → List Nat} {s f : Nat} {c z : Nat → Int32} (H : kd_X L c z) (hs : s < 6) (hf : f < 6) (hne : f ≠ s) (hp : ∀ c' z', kd_X (kd_U L s (L f)) c' z' → post (c', z')) : wpX_copy post (c, z) (nI s) (nI f) :=
  ⟨vp_in_nI hf (by omega), nm_r (kd_zs H hf) ⟨(L f).length + 1, xl_copy H hs hf hne (L f) [] 0 _ c rfl rfl (by omega) (fun _ _ => rfl) trivial hp⟩⟩
