/-- the two sides hold the same sorts and children; the component's kinds say what is there and what is a joint; the leaves' values agree; the component's values solve the joints' equations in a tree -/
def i_Rel (_ : Nat) (u : SX) (v : SY) : Prop := ∃ kd so lf rt pa va th jo wo kn re : Nat → Int32, ∃ D : Nat → Nat, u = (kd, so, lf, rt, pa, va) ∧ v = (th, jo, wo, so, lf, rt, kn, re) ∧ tc_R kd so lf rt pa va th jo wo D
theorem i_up {k : Nat} {u : SX} {v : SY} (h : i_Rel k u v) : i_Rel (k + 5) u v := h
theorem tc_mkR {k : Nat} {kd so lf rt pa va th jo wo kn re : Nat → Int32} {D : Nat → Nat} (R : tc_R kd so lf rt pa va th jo wo D) : i_Rel k (kd, so, lf, rt, pa, va) (th, jo, wo, so, lf, rt, kn, re) :=
  ⟨kd, so, lf, rt, pa, va, th, jo, wo, kn, re, D, rfl, rfl, R⟩
theorem tc_R0 : tc_R (upd (fun _ => 0) 0 1) (fun _ => 0) (fun _ => 0) (fun _ => 0) (upd (fun _ => 0) 0 (-1)) (upd (fun _ => 0) 0 0) (upd (fun _ => 0) 0 1) (fun _ => 0) (fun _ => 0) (fun _ => 0) := by
  have k0 : ∀ m, m ≠ 0 → upd (fun _ => 0) 0 1 m = 0 := fun m h => pk_un h
  have k2 : ∀ m, upd (fun _ => 0) 0 1 m ≠ 2 := by
    intro m h
    by_cases e : m = 0
    · rw [e, pk_us] at h; exact tc_n12 h
    · rw [k0 m e] at h; exact tc_n02 h
  refine ⟨⟨?_, ?_, pk_us, rfl, fun m _ h => absurd h (k2 m), fun c _ h z => absurd (k0 c z) h⟩, fun m _ h => absurd h (k2 m), fun _ => Or.inl rfl, ?_, ?_, fun m _ h => absurd h (k2 m)⟩
  · intro m _
    by_cases e : m = 0
    · rw [e]; exact Or.inr (Or.inl pk_us)
    · exact Or.inl (k0 m e)
  · rw [pk_us]; exact tc_n10
  · intro m _ h; exact h
  · intro m _ h
    have e : m = 0 := by
      by_cases e : m = 0
      · exact e
      · rw [k0 m e] at h; exact absurd h tc_n01
    rw [e]
    exact ⟨pk_us, rfl, pk_us.symm⟩
theorem i_vc0 : wpX_init (fun u => wpY_init (fun v => i_Rel 0 u v)) := by
  unfold wpX_init
  refine tx_mk (n := 0) (by omega) ?_
  dsimp only
  unfold wpY_init
  exact nm_e (tc_mkR tc_R0)
theorem i_vc_grow {k : Nat} {u : SX} {v : SY} (I : i_Rel k u v) (hk : k + 5 ≤ 2560) (v1 : Int32) (v2 : Int32) (v3 : Int32) (v4 : Int32) : wpX_grow (fun r u' => wpY_grow (fun r' v' => r' = r ∧ i_Rel (k + 5) u' v') v v1 v2 v3 v4) u v1 v2 v3 v4 := by
  obtain ⟨kd, so, lf, rt, pa, va, th, jo, wo, kn, re, D, rfl, rfl, R⟩ := I
  have C := tc_RC R
  refine tx_grow R.1 R.2.2.1 R.2.1 (fun h => ty_grow0 C h ⟨rfl, tc_mkR R⟩) ?_
  intro n l r V e hn lr hr kn1 kl kr ml mr E hV
  subst e
  exact ty_grow C hn lr hr kn1 kl kr ml mr ⟨rfl, tc_mkR (tc_Rgrow R hn (by omega) hr (by omega) kn1 kl kr E hV)⟩
theorem i_vc_shrink {k : Nat} {u : SX} {v : SY} (I : i_Rel k u v) (hk : k + 5 ≤ 2560) (v1 : Int32) : wpX_shrink (fun r u' => wpY_shrink (fun r' v' => r' = r ∧ i_Rel (k + 5) u' v') v v1) u v1 := by
  obtain ⟨kd, so, lf, rt, pa, va, th, jo, wo, kn, re, D, rfl, rfl, R⟩ := I
  have C := tc_RC R
  refine tx_shrink R.1 (fun h => ty_shrink0 C h ⟨rfl, tc_mkR R⟩) ?_ ?_
  · intro n a b hn e k2 J h
    subst e
    exact ty_shrink1 C hn k2 J h ⟨rfl, tc_mkR R⟩
  · intro n a b hn e k2 J ka kb
    subst e
    exact ty_shrink C R.2.2.1 R.2.1 (fun m hm km => (R.2.2.2.2.1 m hm km).2.2) hn k2 J ka kb ⟨rfl, tc_mkR (tc_Rshrink R hn k2 J ka kb)⟩
theorem i_vc_set {k : Nat} {u : SX} {v : SY} (I : i_Rel k u v) (hk : k + 5 ≤ 2560) (v1 : Int32) (v2 : Int32) : wpX_set (fun r u' => wpY_set (fun r' v' => r' = r ∧ i_Rel (k + 5) u' v') v v1 v2) u v1 v2 := by
  obtain ⟨kd, so, lf, rt, pa, va, th, jo, wo, kn, re, D, rfl, rfl, R⟩ := I
  have C := tc_RC R
  refine tx_set R.1 R.2.2.1 R.2.1 (fun h => ?_) ?_
  · unfold wpY_set
    dsimp only
    exact ty_isLeaf C (fun w => absurd w h) (fun _ => br_t rfl ⟨rfl, tc_mkR R⟩)
  · intro n V hn e k1 E hV
    subst e
    unfold wpY_set
    dsimp only
    refine ty_isLeaf C (fun _ => br_f tc_n10 ⟨tc_in hn, ?_⟩) (fun w => absurd ⟨n, hn, rfl, k1⟩ w)
    rw [tc_cl hn]
    exact nm_e ⟨rfl, tc_mkR (tc_Rset R hn k1 E hV)⟩
theorem i_vc_setSort {k : Nat} {u : SX} {v : SY} (I : i_Rel k u v) (hk : k + 5 ≤ 2560) (v1 : Int32) (v2 : Int32) : wpX_setSort (fun r u' => wpY_setSort (fun r' v' => r' = r ∧ i_Rel (k + 5) u' v') v v1 v2) u v1 v2 := by
  obtain ⟨kd, so, lf, rt, pa, va, th, jo, wo, kn, re, D, rfl, rfl, R⟩ := I
  have C := tc_RC R
  refine tx_setSort R.1 R.2.2.1 R.2.1 (fun h => ?_) ?_
  · unfold wpY_setSort
    dsimp only
    exact ty_isJoint C (fun w => absurd w h) (fun _ => br_t rfl ⟨rfl, tc_mkR R⟩)
  · intro n V hn e k2 E hV
    subst e
    unfold wpY_setSort
    dsimp only
    refine ty_isJoint C (fun _ => br_f tc_n10 ⟨tc_in hn, ?_⟩) (fun w => absurd ⟨n, hn, rfl, k2⟩ w)
    rw [tc_cl hn]
    exact nm_e ⟨rfl, tc_mkR (tc_Rsort R E hV)⟩
theorem i_vc_turn {k : Nat} {u : SX} {v : SY} (I : i_Rel k u v) (hk : k + 5 ≤ 2560) (v1 : Int32) : wpX_turn (fun r u' => wpY_turn (fun r' v' => r' = r ∧ i_Rel (k + 5) u' v') v v1) u v1 := by
  obtain ⟨kd, so, lf, rt, pa, va, th, jo, wo, kn, re, D, rfl, rfl, R⟩ := I
  have C := tc_RC R
  refine tx_turn R.1 R.2.2.1 R.2.1 (fun h => ?_) ?_
  · unfold wpY_turn
    dsimp only
    exact ty_isJoint C (fun w => absurd w h) (fun _ => br_t rfl ⟨rfl, tc_mkR R⟩)
  · intro n V hn e k2 E hV
    subst e
    unfold wpY_turn
    dsimp only
    refine ty_isJoint C (fun _ => br_f tc_n10 ⟨tc_in hn, ?_⟩) (fun w => absurd ⟨n, hn, rfl, k2⟩ w)
    rw [tc_cl hn]
    exact nm_e ⟨tc_in hn, tc_in hn, nm_e ⟨tc_in hn, nm_e ⟨rfl, tc_mkR (tc_Rturn R hn k2 E hV)⟩⟩⟩
theorem i_vc_value {k : Nat} {u : SX} {v : SY} (I : i_Rel k u v) (hk : k + 5 ≤ 2560) (v1 : Int32) : wpX_value (fun r => wpY_value (fun r' v' => r' = r ∧ i_Rel (k + 5) u v') v v1) u v1 := by
  obtain ⟨kd, so, lf, rt, pa, va, th, jo, wo, kn, re, D, rfl, rfl, R⟩ := I
  have C := tc_RC R
  unfold wpX_value
  dsimp only
  refine tx_isThere (fun j hj e kj => br_f tc_n10 ?_) (fun h => br_t rfl (ty_value0 C h ⟨rfl, tc_mkR R⟩))
  subst e
  refine ⟨tc_in hj, ?_⟩
  rw [tc_cl hj]
  exact ty_value R.1 C R.2.2.1 R.2.1 (fun m hm km => (R.2.2.2.2.1 m hm km).2.2) hj kj (fun kn re => ⟨rfl, tc_mkR R⟩)
theorem i_vc_slope {k : Nat} {u : SX} {v : SY} (I : i_Rel k u v) (hk : k + 5 ≤ 2560) (v1 : Int32) : wpX_slope (fun r => wpY_slope (fun r' v' => r' = r ∧ i_Rel (k + 5) u v') v v1) u v1 := by
  obtain ⟨kd, so, lf, rt, pa, va, th, jo, wo, kn, re, D, rfl, rfl, R⟩ := I
  have C := tc_RC R
  refine tx_slope R.1 R.2.2.1 R.2.1 (fun h => ?_) ?_
  · unfold wpY_slope
    dsimp only
    exact ty_isLeaf C (fun w => absurd w h) (fun _ => br_t rfl ⟨rfl, tc_mkR R⟩)
  · intro n p V hn e k1 S
    subst e
    refine ty_slope R hn k1 S (fun wo' kn re h => ⟨rfl, tc_mkR (D := D) ?_⟩)
    have e : wo' = wo := funext h
    rw [e]
    exact R
theorem i_vc_left {k : Nat} {u : SX} {v : SY} (I : i_Rel k u v) (hk : k + 5 ≤ 2560) (v1 : Int32) : wpX_left (fun r => wpY_left (fun r' => r' = r ∧ i_Rel (k + 5) u v) v v1) u v1 := by
  obtain ⟨kd, so, lf, rt, pa, va, th, jo, wo, kn, re, D, rfl, rfl, R⟩ := I
  have C := tc_RC R
  unfold wpX_left
  dsimp only
  refine tx_isJoint (fun w => br_f tc_n10 ?_) (fun w => br_t rfl ?_)
  · obtain ⟨n, hn, e, k2⟩ := w
    subst e
    refine ⟨tc_in hn, ?_⟩
    unfold wpY_left
    dsimp only
    exact ty_isJoint C (fun _ => br_f tc_n10 ⟨tc_in hn, rfl, tc_mkR R⟩) (fun w => absurd ⟨n, hn, rfl, k2⟩ w)
  · unfold wpY_left
    dsimp only
    exact ty_isJoint C (fun z => absurd z w) (fun _ => br_t rfl ⟨rfl, tc_mkR R⟩)
theorem i_vc_right {k : Nat} {u : SX} {v : SY} (I : i_Rel k u v) (hk : k + 5 ≤ 2560) (v1 : Int32) : wpX_right (fun r => wpY_right (fun r' => r' = r ∧ i_Rel (k + 5) u v) v v1) u v1 := by
  obtain ⟨kd, so, lf, rt, pa, va, th, jo, wo, kn, re, D, rfl, rfl, R⟩ := I
  have C := tc_RC R
  unfold wpX_right
  dsimp only
  refine tx_isJoint (fun w => br_f tc_n10 ?_) (fun w => br_t rfl ?_)
  · obtain ⟨n, hn, e, k2⟩ := w
    subst e
    refine ⟨tc_in hn, ?_⟩
    unfold wpY_right
    dsimp only
    exact ty_isJoint C (fun _ => br_f tc_n10 ⟨tc_in hn, rfl, tc_mkR R⟩) (fun w => absurd ⟨n, hn, rfl, k2⟩ w)
  · unfold wpY_right
    dsimp only
    exact ty_isJoint C (fun z => absurd z w) (fun _ => br_t rfl ⟨rfl, tc_mkR R⟩)
theorem i_vc_joints {k : Nat} {u : SX} {v : SY} (I : i_Rel k u v) (hk : k + 5 ≤ 2560) : wpX_joints (fun r => wpY_joints (fun r' => r' = r ∧ i_Rel (k + 5) u v) v) u := by
  obtain ⟨kd, so, lf, rt, pa, va, th, jo, wo, kn, re, D, rfl, rfl, R⟩ := I
  have C := tc_RC R
  unfold wpX_joints
  dsimp only
  refine ⟨31 + 1, tx_jgo ?_ 31 0 rfl⟩
  unfold wpY_joints
  dsimp only
  exact ⟨31 + 1, ty_jgo C ⟨rfl, tc_mkR R⟩ 31 0 rfl⟩
