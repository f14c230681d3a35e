/-! the reference's own methods, each with a general post -/
theorem tc_b1 : vp_nar .boolean 1 = 1 := rfl
theorem tc_b0 : vp_nar .boolean 0 = 0 := rfl
def tc_C (kd th jo : Nat → Int32) : Prop :=
  (∀ m, m < 31 → kd m = 0 ∨ kd m = 1 ∨ kd m = 2) ∧ (∀ m, m < 31 → kd m = 0 → th m = 0) ∧ (∀ m, m < 31 → kd m = 1 → th m = 1 ∧ jo m = 0) ∧ (∀ m, m < 31 → kd m = 2 → th m = 1 ∧ jo m = 1)
theorem tc_RC {kd so lf rt pa va th jo wo : Nat → Int32} {D : Nat → Nat} (R : tc_R kd so lf rt pa va th jo wo D) : tc_C kd th jo :=
  ⟨R.1.1, R.2.2.2.1, fun m hm km => ⟨(R.2.2.2.2.1 m hm km).1, (R.2.2.2.2.1 m hm km).2.1⟩, R.2.2.2.2.2⟩
theorem ty_isLeaf {post : Int32 → Prop} {kd th jo wo so lf rt kn re : Nat → Int32} {x : Int32} (C : tc_C kd th jo) (f : tc_N kd x 1 → post 1) (g : ¬ tc_N kd x 1 → post 0) : wpY_isLeaf post (th, jo, wo, so, lf, rt, kn, re) x := by
  unfold wpY_isLeaf
  dsimp only
  rcases pk_ix x (n := 31) (by omega) with h | h | ⟨j, hj, e⟩
  · exact br_t h (g (tc_No (tc_x0 h)))
  · have h0 : ¬ x < 0 := fun z => absurd (Int32.lt_of_le_of_lt h z) (by decide)
    exact br_f h0 (br_t h (g (tc_No (tc_x31 h))))
  · subst e
    refine br_f (tc_lo hj) (br_f (tc_hi hj) ⟨tc_in hj, ?_⟩)
    rw [tc_cl hj]
    rcases C.1 j hj with k | k | k
    · exact br_t (C.2.1 j hj k) (g (tc_Nj hj (by rw [k]; exact tc_n01)))
    · obtain ⟨h1, h2⟩ := C.2.2.1 j hj k
      exact br_f (by rw [h1]; exact tc_n10) ⟨tc_in hj, br_t h2 (f ⟨j, hj, rfl, k⟩)⟩
    · obtain ⟨h1, h2⟩ := C.2.2.2 j hj k
      exact br_f (by rw [h1]; exact tc_n10) ⟨tc_in hj, br_f (by rw [h2]; exact tc_n10) (g (tc_Nj hj (by rw [k]; exact tc_n21)))⟩
theorem ty_isJoint {post : Int32 → Prop} {kd th jo wo so lf rt kn re : Nat → Int32} {x : Int32} (C : tc_C kd th jo) (f : tc_N kd x 2 → post 1) (g : ¬ tc_N kd x 2 → post 0) : wpY_isJoint post (th, jo, wo, so, lf, rt, kn, re) x := by
  unfold wpY_isJoint
  dsimp only
  rcases pk_ix x (n := 31) (by omega) with h | h | ⟨j, hj, e⟩
  · exact br_t h (g (tc_No (tc_x0 h)))
  · have h0 : ¬ x < 0 := fun z => absurd (Int32.lt_of_le_of_lt h z) (by decide)
    exact br_f h0 (br_t h (g (tc_No (tc_x31 h))))
  · subst e
    refine br_f (tc_lo hj) (br_f (tc_hi hj) ⟨tc_in hj, ?_⟩)
    rw [tc_cl hj]
    rcases C.1 j hj with k | k | k
    · exact br_t (C.2.1 j hj k) (g (tc_Nj hj (by rw [k]; exact tc_n02)))
    · obtain ⟨h1, h2⟩ := C.2.2.1 j hj k
      exact br_f (by rw [h1]; exact tc_n10) ⟨tc_in hj, br_t h2 (g (tc_Nj hj (by rw [k]; exact tc_n12)))⟩
    · obtain ⟨h1, h2⟩ := C.2.2.2 j hj k
      exact br_f (by rw [h1]; exact tc_n10) ⟨tc_in hj, br_f (by rw [h2]; exact tc_n10) (f ⟨j, hj, rfl, k⟩)⟩
theorem ty_ngo {post : Int32 → Prop} {th jo wo so lf rt kn re : Nat → Int32} (f : post (nI (tc_cnt th 31))) :
    ∀ d i, i + d = 31 → wY_nodes_4 post th jo wo so lf rt kn re (d + 1) (nI (tc_cnt th i)) (nI i) := by
  intro d
  induction d with
  | zero =>
    intro i hi
    have e : i = 31 := by omega
    subst e
    exact br_t tc_31 f
  | succ d ih =>
    intro i hi
    have hi' : i < 31 := by omega
    have h := ih (i + 1) (by omega)
    rw [tc_cntS] at h
    refine br_f (tc_hi hi') ⟨tc_in hi', ?_⟩
    rw [tc_cl hi']
    refine br_c (fun z => ?_) (fun z => ?_)
    · rw [if_pos z] at h
      exact nm_r (nI_1 i) h
    · rw [if_neg z] at h
      exact nm_r (nI_1 _) (nm_r (nI_1 i) h)
theorem ty_nodes {post : Int32 → Prop} {th jo wo so lf rt kn re : Nat → Int32} (f : post (nI (tc_cnt th 31))) : wpY_nodes post (th, jo, wo, so, lf, rt, kn, re) := by
  unfold wpY_nodes
  dsimp only
  exact ⟨31 + 1, ty_ngo f 31 0 rfl⟩
theorem ty_lgo {post : Int32 → SY → Prop} {th jo wo so lf rt kn re : Nat → Int32} {x : Int32} {l : Nat} (hl : l < 31) (zl : th l = 0) (nz : ∀ m, m < l → th m ≠ 0)
    (f : post (nI l) (upd th l 1, upd jo l 0, upd wo l x, so, lf, rt, kn, re)) :
    ∀ d i, i + d = l → wY_leaf_2 post x th jo wo so lf rt kn re (d + 1) (nI i) := by
  intro d
  induction d with
  | zero =>
    intro i hi
    have e : i = l := by omega
    subst e
    refine br_f (tc_hi hl) ⟨tc_in hl, ?_⟩
    rw [tc_cl hl]
    exact br_t zl ⟨tc_in hl, nm_e ⟨tc_in hl, nm_e ⟨tc_in hl, nm_e f⟩⟩⟩
  | succ d ih =>
    intro i hi
    have hi' : i < 31 := by omega
    refine br_f (tc_hi hi') ⟨tc_in hi', ?_⟩
    rw [tc_cl hi']
    exact br_f (nz i (by omega)) (nm_r (nI_1 i) (ih (i + 1) (by omega)))
theorem ty_leaf {post : Int32 → SY → Prop} {th jo wo so lf rt kn re : Nat → Int32} {x : Int32} {l : Nat} (hl : l < 31) (zl : th l = 0) (nz : ∀ m, m < l → th m ≠ 0)
    (f : post (nI l) (upd th l 1, upd jo l 0, upd wo l x, so, lf, rt, kn, re)) : wpY_leaf post (th, jo, wo, so, lf, rt, kn, re) x := by
  unfold wpY_leaf
  dsimp only
  exact ⟨l + 1, ty_lgo hl zl nz f l 0 (by omega)⟩
theorem ty_worked {post : Int32 → Prop} {s x y : Int32} (hs : s = 0 ∨ s = 1 ∨ s = 2 ∨ s = 3) (f : post (tc_f s x y)) : wpY_worked post s x y := by
  unfold wpY_worked
  rcases hs with h | h | h | h
  · subst h; rw [tc_f0] at f; exact br_t rfl f
  · subst h; rw [tc_f1] at f; exact br_f (by decide) (br_t rfl f)
  · subst h; rw [tc_f2] at f; exact br_f (by decide) (br_f (by decide) (br_t rfl f))
  · subst h; rw [tc_f3] at f; exact br_f (by decide) (br_f (by decide) (br_f (by decide) f))
