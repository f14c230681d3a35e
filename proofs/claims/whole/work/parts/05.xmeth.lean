/-! the component's own methods, each with a general post -/
def tc_N (kd : Nat → Int32) (x k : Int32) : Prop := ∃ n, n < 31 ∧ x = nI n ∧ kd n = k
theorem tc_Nj {kd : Nat → Int32} {j : Nat} {k : Int32} (hj : j < 31) (h : ¬ kd j = k) : ¬ tc_N kd (nI j) k := by
  rintro ⟨n, hn, e, z⟩
  rw [← tc_inj hj hn e] at z
  exact h z
theorem tc_No {kd : Nat → Int32} {x k : Int32} (h : ∀ j, j < 31 → x ≠ nI j) : ¬ tc_N kd x k := by
  rintro ⟨n, hn, e, _⟩
  exact h n hn e
theorem tc_x0 {x : Int32} (h : x < 0) : ∀ j, j < 31 → x ≠ nI j := by
  intro j hj e
  rw [e] at h
  exact nI_pos (by omega) h
theorem tc_x31 {x : Int32} (h : nI 31 ≤ x) : ∀ j, j < 31 → x ≠ nI j := by
  intro j hj e
  rw [e] at h
  exact nI_ge hj (by omega) h
theorem tc_lo {j : Nat} (hj : j < 31) : ¬ nI j < 0 := nI_pos (by omega)
theorem tc_hi {j : Nat} (hj : j < 31) : ¬ (31 : Int32) ≤ nI j := nI_ge (b := 31) hj (by decide)
theorem tc_31 : (31 : Int32) ≤ nI 31 := by decide
theorem tx_num {post : Int32 → Prop} {kd so lf rt pa va : Nat → Int32} {x : Int32} (f : ∀ j, j < 31 → x = nI j → post 1) (g : (∀ j, j < 31 → x ≠ nI j) → post 0) : wpX_isNumber post (kd, so, lf, rt, pa, va) x := by
  unfold wpX_isNumber
  dsimp only
  rcases pk_ix x (n := 31) (by omega) with h | h | ⟨j, hj, e⟩
  · exact br_t h (g (tc_x0 h))
  · have h0 : ¬ x < 0 := by
      intro z
      obtain ⟨j, hj, e⟩ : ∃ j : Nat, j < 31 ∧ nI j = nI j := ⟨0, by omega, rfl⟩
      exact absurd (Int32.lt_of_le_of_lt h z) (by decide)
    exact br_f h0 (br_t h (g (tc_x31 h)))
  · have h0 : ¬ x < 0 := by rw [e]; exact tc_lo hj
    have h1 : ¬ (31 : Int32) ≤ x := by rw [e]; exact tc_hi hj
    exact br_f h0 (br_f h1 (f j hj e))
theorem tx_isLeaf {post : Int32 → Prop} {kd so lf rt pa va : Nat → Int32} {x : Int32} (f : tc_N kd x 1 → post 1) (g : ¬ tc_N kd x 1 → post 0) : wpX_isLeaf post (kd, so, lf, rt, pa, va) x := by
  unfold wpX_isLeaf
  dsimp only
  refine tx_num (fun j hj e => ?_) (fun h => br_t rfl (g (tc_No h)))
  subst e
  refine br_f tc_n10 ⟨tc_in hj, ?_⟩
  rw [tc_cl hj]
  exact br_c (fun h => f ⟨j, hj, rfl, h⟩) (fun h => g (tc_Nj hj h))
theorem tx_isJoint {post : Int32 → Prop} {kd so lf rt pa va : Nat → Int32} {x : Int32} (f : tc_N kd x 2 → post 1) (g : ¬ tc_N kd x 2 → post 0) : wpX_isJoint post (kd, so, lf, rt, pa, va) x := by
  unfold wpX_isJoint
  dsimp only
  refine tx_num (fun j hj e => ?_) (fun h => br_t rfl (g (tc_No h)))
  subst e
  refine br_f tc_n10 ⟨tc_in hj, ?_⟩
  rw [tc_cl hj]
  exact br_c (fun h => f ⟨j, hj, rfl, h⟩) (fun h => g (tc_Nj hj h))
theorem tx_isThere {post : Int32 → Prop} {kd so lf rt pa va : Nat → Int32} {x : Int32} (f : ∀ j, j < 31 → x = nI j → kd j ≠ 0 → post 1) (g : (∀ j, j < 31 → x = nI j → kd j = 0) → post 0) : wpX_isThere post (kd, so, lf, rt, pa, va) x := by
  unfold wpX_isThere
  dsimp only
  refine tx_num (fun j hj e => ?_) (fun h => br_t rfl (g (fun j hj e => absurd e (h j hj))))
  subst e
  refine br_f tc_n10 ⟨tc_in hj, ?_⟩
  rw [tc_cl hj]
  exact br_c (fun h => g (fun i hi e => by rw [← tc_inj hj hi e]; exact h)) (fun h => f j hj rfl h)
theorem tx_lgo {post : Int32 → Prop} {kd so lf rt pa va : Nat → Int32} {s : Nat} (f : ∀ l, s ≤ l → l < 31 → kd l = 0 → (∀ m, s ≤ m → m < l → kd m ≠ 0) → post (nI l)) (g : (∀ m, s ≤ m → m < 31 → kd m ≠ 0) → post 31) :
    ∀ d i, i + d = 31 → s ≤ i → (∀ m, s ≤ m → m < i → kd m ≠ 0) → wX_leastFreeFrom_2 post kd so lf rt pa va (d + 1) (nI i) := by
  intro d
  induction d with
  | zero =>
    intro i hi si h
    have e : i = 31 := by omega
    subst e
    exact br_t tc_31 (g h)
  | succ d ih =>
    intro i hi si h
    have hi' : i < 31 := by omega
    refine br_f (tc_hi hi') ⟨tc_in hi', ?_⟩
    rw [tc_cl hi']
    refine br_c (fun z => f i si hi' z h) (fun z => nm_r (nI_1 i) (ih (i + 1) (by omega) (by omega) ?_))
    intro m sm hm
    by_cases e : m = i
    · rw [e]; exact z
    · exact h m sm (by omega)
theorem tx_least {post : Int32 → Prop} {kd so lf rt pa va : Nat → Int32} (s : Nat) (hs : s < 100) (f : ∀ l, s ≤ l → l < 31 → kd l = 0 → (∀ m, s ≤ m → m < l → kd m ≠ 0) → post (nI l)) (g : (∀ m, s ≤ m → m < 31 → kd m ≠ 0) → post 31) :
    wpX_leastFreeFrom post (kd, so, lf, rt, pa, va) (nI s) := by
  unfold wpX_leastFreeFrom
  dsimp only
  by_cases h : s ≤ 31
  · exact ⟨31 - s + 1, tx_lgo f g (31 - s) s (by omega) (Nat.le_refl _) (fun m h1 h2 => absurd h1 (by omega))⟩
  · exact ⟨1, br_t (nI_le (a := 31) (by omega) (by omega)) (g (fun m h1 h2 => absurd h1 (by omega)))⟩
theorem tc_f0 (x y : Int32) : tc_f 0 x y = x + y := by unfold tc_f; rw [if_neg tc_n01, if_neg tc_n02, if_neg (by decide)]
theorem tc_f1 (x y : Int32) : tc_f 1 x y = x * y := by unfold tc_f; rw [if_pos rfl]
theorem tc_f2 (x y : Int32) : tc_f 2 x y = x - y := by unfold tc_f; rw [if_neg tc_n21, if_pos rfl]
theorem tc_f3 (x y : Int32) : tc_f 3 x y = y - x := by unfold tc_f; rw [if_neg (by decide), if_neg (by decide), if_pos rfl]
theorem tx_jv {post : Int32 → Prop} {kd so lf rt pa va : Nat → Int32} {j a b : Nat} (hs : so j = 0 ∨ so j = 1 ∨ so j = 2 ∨ so j = 3) (hj : j < 31) (ha : a < 31) (hb : b < 31) (el : lf j = nI a) (er : rt j = nI b)
    (f : post (tc_f (so j) (va a) (va b))) : wpX_jointValue post (kd, so, lf, rt, pa, va) (nI j) := by
  unfold wpX_jointValue
  dsimp only
  rw [tc_cl hj, el, er, tc_cl ha, tc_cl hb]
  refine ⟨tc_in hj, tc_in ha, nm_e ⟨tc_in hj, tc_in hb, nm_e ⟨tc_in hj, ?_⟩⟩⟩
  rcases hs with h | h | h | h
  · rw [h, tc_f0] at f
    rw [h]
    exact nm_e (br_t (by decide) f)
  · rw [h, tc_f1] at f
    rw [h]
    exact nm_e (br_f (by decide) (br_f (by decide) (br_t rfl f)))
  · rw [h, tc_f2] at f
    rw [h]
    exact nm_e (br_f (by decide) (br_f (by decide) (br_f (by decide) (br_t rfl f))))
  · rw [h, tc_f3] at f
    rw [h]
    exact nm_e (br_f (by decide) (br_f (by decide) (br_f (by decide) (br_f (by decide) (br_t rfl f)))))
theorem tx_rgo {post : SX → Prop} {kd so lf rt pa : Nat → Int32} {D : Nat → Nat} (T : tc_T kd lf rt pa D) (hs : ∀ m, so m = 0 ∨ so m = 1 ∨ so m = 2 ∨ so m = 3) :
    ∀ (d i : Nat) (x : Int32) (V : Nat → Int32), i + d = 31 → (x = -1 ∨ ∃ j, j < 31 ∧ x = nI j ∧ kd j = 2 ∧ i + D j ≤ 30) →
    (∀ m, m < 31 → kd m = 2 → nI m ≠ x → tc_Q so lf rt V m) →
    (∀ V', (∀ m, m < 31 → kd m = 2 → tc_Q so lf rt V' m) → (∀ m, m < 31 → kd m ≠ 2 → V' m = V m) → post (kd, so, lf, rt, pa, V')) →
    wX_refreshUpFrom_4 post (d + 1) x (nI i) kd so lf rt pa V := by
  intro d
  induction d with
  | zero =>
    intro i x V hi hx E F
    have e : i = 31 := by omega
    subst e
    refine br_t tc_31 (F V ?_ (fun _ _ _ => rfl))
    rcases hx with h | ⟨j, hj, ex, kj, b⟩
    · intro m hm km
      exact E m hm km (by rw [h]; exact tc_m1 hm)
    · omega
  | succ d ih =>
    intro i x V hi hx E F
    have hi' : i < 31 := by omega
    refine br_f (tc_hi hi') ?_
    rcases hx with h | ⟨j, hj, ex, kj, b⟩
    · exact br_t h (F V (fun m hm km => E m hm km (by rw [h]; exact tc_m1 hm)) (fun _ _ _ => rfl))
    · subst ex
      obtain ⟨a, b, J⟩ := T.2.2.2.2.1 j hj kj
      refine br_f (tc_m1 hj) (tx_jv (hs j) hj J.1 J.2.1 J.2.2.2.1 J.2.2.2.2.1 ⟨tc_in hj, ?_⟩)
      rw [tc_cl hj]
      refine nm_e ⟨tc_in hj, nm_e (nm_r (nI_1 i) (ih (i + 1) (pa j) _ (by omega) ?_ (tc_step T hj J E) ?_))⟩
      · have kj0 : kd j ≠ 0 := by rw [kj]; exact tc_n20
        rcases tc_pa T hj kj0 with ⟨_, h⟩ | ⟨_, p, hp, kp, ep, dp⟩
        · exact Or.inl h
        · exact Or.inr ⟨p, hp, ep, kp, by omega⟩
      · intro V' h1 h2
        refine F V' h1 (fun m hm km => (h2 m hm km).trans (pk_un ?_))
        intro z
        rw [z] at km
        exact km kj
theorem tx_refresh {post : SX → Prop} {kd so lf rt pa V : Nat → Int32} {D : Nat → Nat} (T : tc_T kd lf rt pa D) (hs : ∀ m, so m = 0 ∨ so m = 1 ∨ so m = 2 ∨ so m = 3) {x : Int32}
    (hx : x = -1 ∨ ∃ j, j < 31 ∧ x = nI j ∧ kd j = 2)
    (E : ∀ m, m < 31 → kd m = 2 → nI m ≠ x → tc_Q so lf rt V m)
    (F : ∀ V', (∀ m, m < 31 → kd m = 2 → tc_Q so lf rt V' m) → (∀ m, m < 31 → kd m ≠ 2 → V' m = V m) → post (kd, so, lf, rt, pa, V')) :
    wpX_refreshUpFrom post (kd, so, lf, rt, pa, V) x := by
  unfold wpX_refreshUpFrom
  dsimp only
  refine ⟨31 + 1, tx_rgo T hs 31 0 x V rfl ?_ E F⟩
  rcases hx with h | ⟨j, hj, ex, kj⟩
  · exact Or.inl h
  · refine Or.inr ⟨j, hj, ex, kj, ?_⟩
    have := tc_D T hj (by rw [kj]; exact tc_n20)
    omega
