/-! the component's slope, and both counts of the joints -/
theorem tc_sl0 (y : Int32) : tc_sl 0 y = 1 := by unfold tc_sl; rw [if_neg tc_n01, if_neg tc_n02, if_neg (by decide)]
theorem tc_sl1 (y : Int32) : tc_sl 1 y = y := by unfold tc_sl; rw [if_pos rfl]
theorem tc_sl2 (y : Int32) : tc_sl 2 y = 1 := by unfold tc_sl; rw [if_neg tc_n21, if_pos rfl]
theorem tc_sl3 (y : Int32) : tc_sl 3 y = -1 := by unfold tc_sl; rw [if_neg (by decide), if_neg (by decide), if_pos rfl]
theorem tc_sr0 (y : Int32) : tc_sr 0 y = 1 := by unfold tc_sr; rw [if_neg tc_n01, if_neg tc_n02, if_neg (by decide)]
theorem tc_sr1 (y : Int32) : tc_sr 1 y = y := by unfold tc_sr; rw [if_pos rfl]
theorem tc_sr2 (y : Int32) : tc_sr 2 y = -1 := by unfold tc_sr; rw [if_neg tc_n21, if_pos rfl]
theorem tc_sr3 (y : Int32) : tc_sr 3 y = 1 := by unfold tc_sr; rw [if_neg (by decide), if_neg (by decide), if_pos rfl]
theorem tx_sijl {post : Int32 → Prop} {kd so lf rt pa va : Nat → Int32} {j b : Nat} (hs : so j = 0 ∨ so j = 1 ∨ so j = 2 ∨ so j = 3) (hj : j < 31) (hb : b < 31)
    (f : post (tc_sl (so j) (va b))) : wX_slopeInJoint_35 post (nI j) 1 (nI b) kd so lf rt pa va := by
  unfold wX_slopeInJoint_35
  rw [tc_cl hj, tc_cl hb]
  refine ⟨tc_in hj, ?_⟩
  rcases hs with h | h | h | h
  · rw [h, tc_sl0] at f
    rw [h]
    exact nm_e (br_t (by decide) f)
  · rw [h, tc_sl1] at f
    rw [h]
    exact nm_e (br_f (by decide) (br_f (by decide) (br_t rfl ⟨tc_in hb, f⟩)))
  · rw [h, tc_sl2] at f
    rw [h]
    exact nm_e (br_f (by decide) (br_f (by decide) (br_f (by decide) (br_t rfl (br_f tc_n10 f)))))
  · rw [h, tc_sl3] at f
    rw [h]
    exact nm_e (br_f (by decide) (br_f (by decide) (br_f (by decide) (br_f (by decide) (br_t rfl (br_f tc_n10 f))))))
theorem tx_sijr {post : Int32 → Prop} {kd so lf rt pa va : Nat → Int32} {j a : Nat} (hs : so j = 0 ∨ so j = 1 ∨ so j = 2 ∨ so j = 3) (hj : j < 31) (ha : a < 31)
    (f : post (tc_sr (so j) (va a))) : wX_slopeInJoint_35 post (nI j) 0 (nI a) kd so lf rt pa va := by
  unfold wX_slopeInJoint_35
  rw [tc_cl hj, tc_cl ha]
  refine ⟨tc_in hj, ?_⟩
  rcases hs with h | h | h | h
  · rw [h, tc_sr0] at f
    rw [h]
    exact nm_e (br_t (by decide) f)
  · rw [h, tc_sr1] at f
    rw [h]
    exact nm_e (br_f (by decide) (br_f (by decide) (br_t rfl ⟨tc_in ha, f⟩)))
  · rw [h, tc_sr2] at f
    rw [h]
    exact nm_e (br_f (by decide) (br_f (by decide) (br_f (by decide) (br_t rfl (br_t rfl f)))))
  · rw [h, tc_sr3] at f
    rw [h]
    exact nm_e (br_f (by decide) (br_f (by decide) (br_f (by decide) (br_f (by decide) (br_t rfl (br_t rfl f))))))
theorem tx_sij {post : Int32 → Prop} {kd so lf rt pa va : Nat → Int32} {D : Nat → Nat} {j a b c : Nat} (hs : so j = 0 ∨ so j = 1 ∨ so j = 2 ∨ so j = 3) (hj : j < 31) (J : tc_J kd lf rt pa D j a b) (h : c = a ∨ c = b)
    (f : ∀ s, (c = a ∧ s = tc_sl (so j) (va b)) ∨ (c = b ∧ s = tc_sr (so j) (va a)) → post s) : wpX_slopeInJoint post (kd, so, lf, rt, pa, va) (nI j) (nI c) := by
  obtain ⟨ha, hb, ab, el, er, _⟩ := J
  unfold wpX_slopeInJoint
  dsimp only
  refine ⟨tc_in hj, ?_⟩
  rw [tc_cl hj, el]
  by_cases e : c = a
  · subst e
    refine br_t rfl ?_
    unfold wX_slopeInJoint_15
    rw [tc_cl hj, er]
    exact br_f tc_n10 ⟨tc_in hj, tx_sijl hs hj hb (f _ (Or.inl ⟨rfl, rfl⟩))⟩
  · have e2 : c = b := h.resolve_left e
    subst e2
    refine br_f (fun z => e (tc_inj ha hb z).symm) ?_
    unfold wX_slopeInJoint_15
    rw [tc_cl hj, el]
    exact br_t rfl ⟨tc_in hj, tx_sijr hs hj ha (f _ (Or.inr ⟨rfl, rfl⟩))⟩
theorem tx_sgo {post : Int32 → Prop} {kd so lf rt pa V : Nat → Int32} {D : Nat → Nat} (T : tc_T kd lf rt pa D) (hs : ∀ m, so m = 0 ∨ so m = 1 ∨ so m = 2 ∨ so m = 3)
    (E : ∀ m, m < 31 → kd m = 2 → tc_Q so lf rt V m) {n : Nat} (F : ∀ p V', tc_S kd so lf rt pa V V' D n 0 p → post p) :
    ∀ d i c p V', i + d = 31 → c < 31 → kd c ≠ 0 → i + D c ≤ 30 → tc_S kd so lf rt pa V V' D n c p → wX_slope_17 post kd so lf rt pa V (d + 1) p (nI c) (nI i) := by
  intro d
  induction d with
  | zero => intro i c p V' hi hc kc hd S; omega
  | succ d ih =>
    intro i c p V' hi hc kc hd S
    have hi' : i < 31 := by omega
    refine br_f (tc_hi hi') ?_
    by_cases c0 : c = 0
    · subst c0
      exact br_t rfl (F p V' S)
    · obtain ⟨j, a, b, hj, kj, J, h⟩ := tc_up T hc kc c0
      have pc : pa c = nI j := by rcases h with h | h <;> rw [h] <;> simp only [J.2.2.2.2.2.2.2.1, J.2.2.2.2.2.2.2.2.1]
      have dc : D c = D j + 1 := by rcases h with h | h <;> rw [h] <;> simp only [J.2.2.2.2.2.2.2.2.2.1, J.2.2.2.2.2.2.2.2.2.2]
      refine br_f (nI_ne0 (by omega) (by omega)) ⟨tc_in hc, ?_⟩
      rw [tc_cl hc, pc]
      refine nm_e (tx_sij (hs j) hj J h (fun s hh => nm_e (nm_r (nI_1 i) (ih (i + 1) j (p * s) _ (by omega) hj ?_ (by omega) (tc_Ss T E hj kj J hh S)))))
      rw [kj]; exact tc_n20
theorem tx_slope {post : Int32 → Prop} {kd so lf rt pa V : Nat → Int32} {D : Nat → Nat} (T : tc_T kd lf rt pa D) (hs : ∀ m, so m = 0 ∨ so m = 1 ∨ so m = 2 ∨ so m = 3)
    (E : ∀ m, m < 31 → kd m = 2 → tc_Q so lf rt V m) {x : Int32} (g : ¬ tc_N kd x 1 → post 0) (F : ∀ n p V', n < 31 → x = nI n → kd n = 1 → tc_S kd so lf rt pa V V' D n 0 p → post p) :
    wpX_slope post (kd, so, lf, rt, pa, V) x := by
  unfold wpX_slope
  dsimp only
  refine tx_isLeaf (fun z => br_f tc_n10 ?_) (fun z => br_t rfl (g z))
  obtain ⟨n, hn, e, k⟩ := z
  have k0 : kd n ≠ 0 := by rw [k]; exact tc_n10
  have hD := tc_D T hn k0
  rw [e]
  exact ⟨31 + 1, tx_sgo T hs E (fun p V' S => F n p V' hn e k S) 31 0 n 1 _ rfl hn k0 (by omega) (tc_S0 T E k)⟩
def tc_jc (kd : Nat → Int32) : Nat → Nat
  | 0 => 0
  | n + 1 => tc_jc kd n + (if kd n = 2 then 1 else 0)
theorem tc_jcS (g : Nat → Int32) (n : Nat) : tc_jc g (n + 1) = tc_jc g n + (if g n = 2 then 1 else 0) := rfl
theorem tx_jgo {post : Int32 → Prop} {kd so lf rt pa va : Nat → Int32} (f : post (nI (tc_jc kd 31))) :
    ∀ d i, i + d = 31 → wX_joints_4 post kd so lf rt pa va (d + 1) (nI (tc_jc kd i)) (nI i) := by
  intro d
  induction d with
  | zero =>
    intro i hi
    have e : i = 31 := by omega
    subst e
    exact br_t tc_31 f
  | succ d ih =>
    intro i hi
    have hi' : i < 31 := by omega
    have h := ih (i + 1) (by omega)
    rw [tc_jcS] at h
    refine br_f (tc_hi hi') ⟨tc_in hi', ?_⟩
    rw [tc_cl hi']
    refine br_c (fun z => ?_) (fun z => ?_)
    · rw [if_pos z] at h
      exact nm_r (nI_1 _) (nm_r (nI_1 i) h)
    · rw [if_neg z] at h
      exact nm_r (nI_1 i) h
theorem ty_jgo {post : Int32 → Prop} {kd th jo wo so lf rt kn re : Nat → Int32} (C : tc_C kd th jo) (f : post (nI (tc_jc kd 31))) :
    ∀ d i, i + d = 31 → wY_joints_4 post th jo wo so lf rt kn re (d + 1) (nI (tc_jc kd i)) (nI i) := by
  intro d
  induction d with
  | zero =>
    intro i hi
    have e : i = 31 := by omega
    subst e
    exact br_t tc_31 f
  | succ d ih =>
    intro i hi
    have hi' : i < 31 := by omega
    have h := ih (i + 1) (by omega)
    rw [tc_jcS] at h
    refine br_f (tc_hi hi') (ty_isJoint C (fun z => br_f tc_n10 ?_) (fun z => br_t rfl ?_))
    · obtain ⟨m, hm, e, k⟩ := z
      rw [← tc_inj hi' hm e] at k
      rw [if_pos k] at h
      exact nm_r (nI_1 _) (nm_r (nI_1 i) h)
    · rw [if_neg (fun k => z ⟨i, hi', rfl, k⟩)] at h
      exact nm_r (nI_1 i) h
