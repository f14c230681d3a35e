/-! the reference's evaluation -/
theorem tc_Cth {kd th jo : Nat → Int32} (C : tc_C kd th jo) {m : Nat} (hm : m < 31) (h : kd m ≠ 0) : th m ≠ 0 := by
  rcases C.1 m hm with k | k | k
  · exact absurd k h
  · rw [(C.2.2.1 m hm k).1]; exact tc_n10
  · rw [(C.2.2.2 m hm k).1]; exact tc_n10
theorem ty_36 {post : SY → Prop} {J2 : Int32 → (Nat → Int32) → (Nat → Int32) → (Nat → Int32) → (Nat → Int32) → (Nat → Int32) → (Nat → Int32) → (Nat → Int32) → (Nat → Int32) → Prop}
    {th jo wo so lf rt kn re : Nat → Int32} {i : Nat} {z : Int32} (hi : i < 31) (f : J2 (nI (i + 1)) th jo wo so lf rt (upd kn i (vp_nar .boolean z)) (upd re i (wo i))) :
    wY_evaluate_36 post J2 (nI i) z (nI i) th jo wo so lf rt kn re := by
  unfold wY_evaluate_36
  rw [tc_cl hi]
  exact ⟨tc_in hi, nm_e ⟨tc_in hi, tc_in hi, nm_e (nm_r (nI_1 i) f)⟩⟩
theorem tc_e0 {kd V kn re : Nat → Int32} {i : Nat} {w : Int32} (k : kd i ≠ 1) (h1 : ∀ m, m < i → kn m ≠ 0 → re m = V m) (h2 : ∀ m, m < i → kd m = 1 → kn m ≠ 0) :
    (∀ m, m < i + 1 → upd kn i 0 m ≠ 0 → upd re i w m = V m) ∧ (∀ m, m < i + 1 → kd m = 1 → upd kn i 0 m ≠ 0) := by
  refine ⟨?_, ?_⟩
  · intro m hm z
    by_cases e : m = i
    · rw [e, pk_us] at z; exact absurd rfl z
    · rw [pk_un e] at z
      rw [pk_un e]; exact h1 m (by omega) z
  · intro m hm z
    by_cases e : m = i
    · rw [e] at z; exact absurd z k
    · rw [pk_un e]; exact h2 m (by omega) z
theorem tc_e1 {kd V kn re : Nat → Int32} {i : Nat} {w : Int32} (k : w = V i) (h1 : ∀ m, m < i → kn m ≠ 0 → re m = V m) (h2 : ∀ m, m < i → kd m = 1 → kn m ≠ 0) :
    (∀ m, m < i + 1 → upd kn i 1 m ≠ 0 → upd re i w m = V m) ∧ (∀ m, m < i + 1 → kd m = 1 → upd kn i 1 m ≠ 0) := by
  refine ⟨?_, ?_⟩
  · intro m hm z
    by_cases e : m = i
    · rw [e, pk_us]; exact k
    · rw [pk_un e] at z
      rw [pk_un e]; exact h1 m (by omega) z
  · intro m hm z
    by_cases e : m = i
    · rw [e, pk_us]; exact tc_n10
    · rw [pk_un e]; exact h2 m (by omega) z
theorem ty_e2 {post : SY → Prop} {kd th jo wo so lf rt V : Nat → Int32} (C : tc_C kd th jo) (hw : ∀ m, m < 31 → kd m = 1 → wo m = V m)
    (F : ∀ kn re, (∀ m, m < 31 → kn m ≠ 0 → re m = V m) → (∀ m, m < 31 → kd m = 1 → kn m ≠ 0) → ∃ n57 : Nat, wY_evaluate_57 post n57 0 th jo wo so lf rt kn re) :
    ∀ d i kn re, i + d = 31 → (∀ m, m < i → kn m ≠ 0 → re m = V m) → (∀ m, m < i → kd m = 1 → kn m ≠ 0) → wY_evaluate_2 post (d + 1) (nI i) th jo wo so lf rt kn re := by
  intro d
  induction d with
  | zero =>
    intro i kn re hi h1 h2
    have e : i = 31 := by omega
    subst e
    exact br_t tc_31 (F kn re h1 h2)
  | succ d ih =>
    intro i kn re hi h1 h2
    have hi' : i < 31 := by omega
    refine br_f (tc_hi hi') ⟨tc_in hi', ?_⟩
    rw [tc_cl hi']
    rcases C.1 i hi' with k | k | k
    · obtain ⟨g1, g2⟩ := tc_e0 (w := wo i) (by rw [k]; exact tc_n01) h1 h2
      exact br_t (C.2.1 i hi' k) (ty_36 (z := 0) hi' (ih (i + 1) _ _ (by omega) g1 g2))
    · obtain ⟨c1, c2⟩ := C.2.2.1 i hi' k
      obtain ⟨g1, g2⟩ := tc_e1 (w := wo i) (hw i hi' k) h1 h2
      exact br_f (by rw [c1]; exact tc_n10) ⟨tc_in hi', br_t c2 (ty_36 (z := 1) hi' (ih (i + 1) _ _ (by omega) g1 g2))⟩
    · obtain ⟨c1, c2⟩ := C.2.2.2 i hi' k
      obtain ⟨g1, g2⟩ := tc_e0 (w := wo i) (by rw [k]; exact tc_n21) h1 h2
      exact br_f (by rw [c1]; exact tc_n10) ⟨tc_in hi', br_f (by rw [c2]; exact tc_n10) (ty_36 (z := 0) hi' (ih (i + 1) _ _ (by omega) g1 g2))⟩
theorem ty_e65 {post : SY → Prop} {J57 : Int32 → (Nat → Int32) → (Nat → Int32) → (Nat → Int32) → (Nat → Int32) → (Nat → Int32) → (Nat → Int32) → (Nat → Int32) → (Nat → Int32) → Prop}
    {kd so lf rt pa th jo wo V : Nat → Int32} {D : Nat → Nat} (T : tc_T kd lf rt pa D) (C : tc_C kd th jo) (hs : ∀ m, so m = 0 ∨ so m = 1 ∨ so m = 2 ∨ so m = 3)
    (E : ∀ m, m < 31 → kd m = 2 → tc_Q so lf rt V m) {t : Nat} (F : ∀ kn re, tc_I kd V kn re D t 31 → J57 (nI (t + 1)) th jo wo so lf rt kn re) :
    ∀ d i kn re, i + d = 31 → tc_I kd V kn re D t i → wY_evaluate_65 post J57 (nI t) (d + 1) (nI i) th jo wo so lf rt kn re := by
  intro d
  induction d with
  | zero =>
    intro i kn re hi h
    have e : i = 31 := by omega
    subst e
    exact br_t tc_31 (nm_r (nI_1 t) (F kn re h))
  | succ d ih =>
    intro i kn re hi h
    have hi' : i < 31 := by omega
    have hin : vp_in (nI i) 31 := tc_in hi'
    refine br_f (tc_hi hi') ⟨hin, ?_⟩
    rw [tc_cl hi']
    rcases C.1 i hi' with k | k | k
    · exact br_t (C.2.1 i hi' k) (nm_r (nI_1 i) (ih (i + 1) _ _ (by omega) (tc_Ino h (fun _ z _ => absurd k z))))
    · obtain ⟨c1, c2⟩ := C.2.2.1 i hi' k
      exact br_f (by rw [c1]; exact tc_n10) ⟨hin, br_t c2 (nm_r (nI_1 i) (ih (i + 1) _ _ (by omega) (tc_Ino h (fun hm _ _ => h.2.1 i hm k))))⟩
    · obtain ⟨c1, c2⟩ := C.2.2.2 i hi' k
      obtain ⟨a, b, J⟩ := T.2.2.2.2.1 i hi' k
      have ia : vp_in (nI a) 31 := tc_in J.1
      have ib : vp_in (nI b) 31 := tc_in J.2.1
      refine br_f (by rw [c1]; exact tc_n10) ⟨hin, br_f (by rw [c2]; exact tc_n10) ⟨hin, ?_⟩⟩
      rw [J.2.2.2.1, J.2.2.2.2.1, tc_cl J.1, tc_cl J.2.1]
      refine ⟨ia, br_c (fun z => ?_) (fun za => ⟨hin, ib, br_c (fun z => ?_) (fun zb => ⟨hin, hin, ia, hin, ib, ty_worked (hs i) ⟨hin, nm_e ⟨hin, nm_e ?_⟩⟩⟩)⟩)⟩
      · exact nm_r (nI_1 i) (ih (i + 1) _ _ (by omega) (tc_Ino h (fun _ _ w => absurd w (tc_Ich J h (Or.inl z)))))
      · exact nm_r (nI_1 i) (ih (i + 1) _ _ (by omega) (tc_Ino h (fun _ _ w => absurd w (tc_Ich J h (Or.inr z)))))
      · exact nm_r (nI_1 i) (ih (i + 1) _ _ (by omega) (tc_Iyes (E i hi' k) J za zb h))
theorem ty_e57 {post : SY → Prop} {kd so lf rt pa th jo wo V : Nat → Int32} {D : Nat → Nat} (T : tc_T kd lf rt pa D) (C : tc_C kd th jo) (hs : ∀ m, so m = 0 ∨ so m = 1 ∨ so m = 2 ∨ so m = 3)
    (E : ∀ m, m < 31 → kd m = 2 → tc_Q so lf rt V m) (F : ∀ kn re, tc_I kd V kn re D 31 0 → post (th, jo, wo, so, lf, rt, kn, re)) :
    ∀ d t kn re, t + d = 31 → tc_I kd V kn re D t 0 → wY_evaluate_57 post (d + 1) (nI t) th jo wo so lf rt kn re := by
  intro d
  induction d with
  | zero =>
    intro t kn re ht h
    have e : t = 31 := by omega
    subst e
    exact br_t tc_31 (F kn re h)
  | succ d ih =>
    intro t kn re ht h
    have ht' : t < 31 := by omega
    exact br_f (tc_hi ht') ⟨31 + 1, ty_e65 T C hs E (fun kn re h => ih (t + 1) kn re (by omega) (tc_Inx h)) 31 0 kn re rfl h⟩
theorem ty_eval {post : SY → Prop} {kd so lf rt pa th jo wo kn re V : Nat → Int32} {D : Nat → Nat} (T : tc_T kd lf rt pa D) (C : tc_C kd th jo) (hs : ∀ m, so m = 0 ∨ so m = 1 ∨ so m = 2 ∨ so m = 3)
    (E : ∀ m, m < 31 → kd m = 2 → tc_Q so lf rt V m) (hw : ∀ m, m < 31 → kd m = 1 → wo m = V m)
    (F : ∀ kn re, (∀ m, m < 31 → kd m ≠ 0 → re m = V m) → post (th, jo, wo, so, lf, rt, kn, re)) : wpY_evaluate post (th, jo, wo, so, lf, rt, kn, re) := by
  unfold wpY_evaluate
  dsimp only
  refine ⟨31 + 1, ty_e2 C hw (fun kn re h1 h2 => ⟨31 + 1, ty_e57 T C hs E (fun kn re h => F kn re (fun m hm km => h.1 m hm (h.2.2.1 m hm km (by omega)))) 31 0 kn re rfl
    ⟨h1, h2, fun m hm km hd => absurd hd (by have := tc_D T hm km; omega), fun m z => absurd z (Nat.not_lt_zero m)⟩⟩) 31 0 kn re rfl (fun m z => absurd z (Nat.not_lt_zero m)) (fun m z => absurd z (Nat.not_lt_zero m))⟩
theorem ty_value {post : Int32 → SY → Prop} {kd so lf rt pa th jo wo kn re V : Nat → Int32} {D : Nat → Nat} (T : tc_T kd lf rt pa D) (C : tc_C kd th jo) (hs : ∀ m, so m = 0 ∨ so m = 1 ∨ so m = 2 ∨ so m = 3)
    (E : ∀ m, m < 31 → kd m = 2 → tc_Q so lf rt V m) (hw : ∀ m, m < 31 → kd m = 1 → wo m = V m) {n : Nat} (hn : n < 31) (k : kd n ≠ 0)
    (F : ∀ kn re, post (V n) (th, jo, wo, so, lf, rt, kn, re)) : wpY_value post (th, jo, wo, so, lf, rt, kn, re) (nI n) := by
  have G : wY_value_18 post (nI n) th jo wo so lf rt kn re := by
    unfold wY_value_18
    refine ty_eval T C hs E hw (fun kn re h => ⟨tc_in hn, ?_⟩)
    rw [tc_cl hn, h n hn k]
    exact F kn re
  unfold wpY_value
  dsimp only
  refine ty_isLeaf C (fun _ => br_f tc_n10 G) (fun h => br_t rfl (ty_isJoint C (fun _ => br_f tc_n10 G) (fun h2 => ?_)))
  exfalso
  rcases C.1 n hn with z | z | z
  · exact k z
  · exact h ⟨n, hn, rfl, z⟩
  · exact h2 ⟨n, hn, rfl, z⟩
theorem ty_value0 {post : Int32 → SY → Prop} {kd so lf rt th jo wo kn re : Nat → Int32} (C : tc_C kd th jo) {x : Int32} (h : ∀ j, j < 31 → x = nI j → kd j = 0)
    (F : post 0 (th, jo, wo, so, lf, rt, kn, re)) : wpY_value post (th, jo, wo, so, lf, rt, kn, re) x := by
  unfold wpY_value
  dsimp only
  refine ty_isLeaf C (fun z => ?_) (fun _ => br_t rfl (ty_isJoint C (fun z => ?_) (fun _ => br_t rfl F)))
  · obtain ⟨j, hj, e, k⟩ := z
    rw [h j hj e] at k
    exact absurd k tc_n01
  · obtain ⟨j, hj, e, k⟩ := z
    rw [h j hj e] at k
    exact absurd k tc_n02
