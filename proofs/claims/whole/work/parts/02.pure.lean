/-! the tree, as numbers: kinds kd (0 absent, 1 leaf, 2 joint), children lf rt, parents pa, depths D -/
theorem tc_inj {a b : Nat} (ha : a < 31) (hb : b < 31) (h : nI a = nI b) : a = b := (nI_eq (by omega) (by omega)).mp h
theorem tc_cl {a : Nat} (ha : a < 31) : (nI a).toNatClampNeg = a := nI_clamp (by omega)
theorem tc_in {a : Nat} (ha : a < 31) : vp_in (nI a) 31 := vp_in_nI ha (by omega)
theorem tc_m1 {a : Nat} (ha : a < 31) : nI a ≠ -1 := by
  intro h
  have h2 := congrArg Int32.toInt h
  rw [nI_toInt (by omega)] at h2
  have h3 : (-1 : Int32).toInt = -1 := by decide
  omega

/-- what a joint of sort s works out -/
def tc_f (s x y : Int32) : Int32 := if s = 1 then x * y else if s = 2 then x - y else if s = 3 then y - x else x + y
/-- its slope in its left child, y the right one's value -/
def tc_sl (s y : Int32) : Int32 := if s = 1 then y else if s = 2 then 1 else if s = 3 then -1 else 1
/-- its slope in its right child, x the left one's value -/
def tc_sr (s x : Int32) : Int32 := if s = 1 then x else if s = 2 then -1 else if s = 3 then 1 else 1
theorem tc_fl (s x y p : Int32) : tc_f s (x + p) y = tc_f s x y + p * tc_sl s y := by
  unfold tc_f tc_sl
  by_cases h1 : s = 1
  · simp only [if_pos h1]; grind
  · simp only [if_neg h1]
    by_cases h2 : s = 2
    · simp only [if_pos h2]; grind
    · simp only [if_neg h2]
      by_cases h3 : s = 3
      · simp only [if_pos h3]; grind
      · simp only [if_neg h3]; grind
theorem tc_fr (s x y p : Int32) : tc_f s x (y + p) = tc_f s x y + p * tc_sr s x := by
  unfold tc_f tc_sr
  by_cases h1 : s = 1
  · simp only [if_pos h1]; grind
  · simp only [if_neg h1]
    by_cases h2 : s = 2
    · simp only [if_pos h2]; grind
    · simp only [if_neg h2]
      by_cases h3 : s = 3
      · simp only [if_pos h3]; grind
      · simp only [if_neg h3]; grind

/-- joint n has the children a and b -/
def tc_J (kd lf rt pa : Nat → Int32) (D : Nat → Nat) (n a b : Nat) : Prop :=
  a < 31 ∧ b < 31 ∧ a ≠ b ∧ lf n = nI a ∧ rt n = nI b ∧ kd a ≠ 0 ∧ kd b ≠ 0 ∧ pa a = nI n ∧ pa b = nI n ∧ D a = D n + 1 ∧ D b = D n + 1
/-- a tree with the root 0 -/
def tc_T (kd lf rt pa : Nat → Int32) (D : Nat → Nat) : Prop :=
  (∀ n, n < 31 → kd n = 0 ∨ kd n = 1 ∨ kd n = 2) ∧ kd 0 ≠ 0 ∧ pa 0 = -1 ∧ D 0 = 0 ∧
  (∀ n, n < 31 → kd n = 2 → ∃ a b, tc_J kd lf rt pa D n a b) ∧
  (∀ c, c < 31 → kd c ≠ 0 → c ≠ 0 → ∃ p, p < 31 ∧ kd p = 2 ∧ (lf p = nI c ∨ rt p = nI c))
/-- the equation of joint n in the values V -/
def tc_Q (so lf rt V : Nat → Int32) (n : Nat) : Prop := V n = tc_f (so n) (V (lf n).toNatClampNeg) (V (rt n).toNatClampNeg)
theorem tc_Qe {kd so lf rt pa V : Nat → Int32} {D : Nat → Nat} {n a b : Nat} (J : tc_J kd lf rt pa D n a b) : tc_Q so lf rt V n ↔ V n = tc_f (so n) (V a) (V b) := by
  obtain ⟨ha, hb, _, el, er, _⟩ := J
  unfold tc_Q
  rw [el, er, tc_cl ha, tc_cl hb]

/-- a node that is there and not the root has its joint -/
theorem tc_up {kd lf rt pa : Nat → Int32} {D : Nat → Nat} (T : tc_T kd lf rt pa D) {c : Nat} (hc : c < 31) (k : kd c ≠ 0) (h0 : c ≠ 0) :
    ∃ p a b, p < 31 ∧ kd p = 2 ∧ tc_J kd lf rt pa D p a b ∧ (c = a ∨ c = b) := by
  obtain ⟨_, _, _, _, hJ, hP⟩ := T
  obtain ⟨p, hp, kp, h⟩ := hP c hc k h0
  obtain ⟨a, b, J⟩ := hJ p hp kp
  refine ⟨p, a, b, hp, kp, J, ?_⟩
  obtain ⟨ha, hb, _, el, er, _⟩ := J
  rcases h with h | h
  · exact Or.inl (tc_inj hc ha (h.symm.trans el))
  · exact Or.inr (tc_inj hc hb (h.symm.trans er))

theorem tc_pig : ∀ (N : Nat) (f : Nat → Nat), (∀ i, i ≤ N → f i < N) → ∃ i j, i < j ∧ j ≤ N ∧ f i = f j := by
  intro N
  induction N with
  | zero => intro f h; exact absurd (h 0 (Nat.le_refl 0)) (Nat.not_lt_zero _)
  | succ N ih =>
    intro f h
    by_cases e : ∃ i, i ≤ N ∧ f i = f (N + 1)
    · obtain ⟨i, hi, e⟩ := e
      exact ⟨i, N + 1, by omega, Nat.le_refl _, e⟩
    · have ne : ∀ i, i ≤ N → f i ≠ f (N + 1) := fun i hi z => e ⟨i, hi, z⟩
      have hv : f (N + 1) < N + 1 := h (N + 1) (Nat.le_refl _)
      obtain ⟨i, j, hij, hj, g⟩ := ih (fun i => if f i < f (N + 1) then f i else f i - 1) (by
        intro i hi
        have h1 := ne i hi
        have h2 := h i (by omega)
        show (if f i < f (N + 1) then f i else f i - 1) < N
        split <;> omega)
      have g' : (if f i < f (N + 1) then f i else f i - 1) = (if f j < f (N + 1) then f j else f j - 1) := g
      have h1 := ne i (by omega)
      have h2 := ne j hj
      refine ⟨i, j, hij, by omega, ?_⟩
      split at g' <;> split at g' <;> omega

/-- no node lies deeper than 30 -/
theorem tc_D {kd lf rt pa : Nat → Int32} {D : Nat → Nat} (T : tc_T kd lf rt pa D) {c : Nat} (hc : c < 31) (k : kd c ≠ 0) : D c ≤ 30 := by
  have lad : ∀ t, t ≤ D c → ∃ m, m < 31 ∧ kd m ≠ 0 ∧ D m = D c - t := by
    intro t
    induction t with
    | zero => intro _; exact ⟨c, hc, k, by omega⟩
    | succ t ih =>
      intro ht
      obtain ⟨m, hm, km, em⟩ := ih (by omega)
      have m0 : m ≠ 0 := by
        intro z
        have := T.2.2.2.1
        rw [z] at em
        omega
      obtain ⟨p, a, b, hp, kp, J, h⟩ := tc_up T hm km m0
      obtain ⟨_, _, _, _, _, _, _, _, _, da, db⟩ := J
      refine ⟨p, hp, by rw [kp]; decide, ?_⟩
      rcases h with h | h
      · rw [h] at em; omega
      · rw [h] at em; omega
  by_cases hD : D c ≤ 30
  · exact hD
  · exfalso
    have ex : ∀ j : Nat, ∃ m : Nat, j ≤ D c → m < 31 ∧ D m = j := by
      intro j
      by_cases hj : j ≤ D c
      · obtain ⟨m, hm, _, em⟩ := lad (D c - j) (by omega)
        exact ⟨m, fun _ => ⟨hm, by omega⟩⟩
      · exact ⟨0, fun z => absurd z hj⟩
    obtain ⟨f, hf⟩ := Classical.axiomOfChoice ex
    obtain ⟨i, j, hij, hj, e⟩ := tc_pig 31 f (fun i hi => (hf i (by omega)).1)
    have h1 := (hf i (by omega)).2
    have h2 := (hf j (by omega)).2
    rw [e] at h1
    omega
/-- a joint's children have it as parent, and no other joint has them -/
theorem tc_one {kd lf rt pa : Nat → Int32} {D : Nat → Nat} {n a b m c d : Nat} (hn : n < 31) (hm : m < 31) (J : tc_J kd lf rt pa D n a b) (K : tc_J kd lf rt pa D m c d) (ne : n ≠ m) : a ≠ c ∧ a ≠ d ∧ b ≠ c ∧ b ≠ d := by
  obtain ⟨_, _, _, _, _, _, _, pa1, pb1, _, _⟩ := J
  obtain ⟨_, _, _, _, _, _, _, pc1, pd1, _, _⟩ := K
  have z : nI n ≠ nI m := fun e => ne (tc_inj hn hm e)
  refine ⟨?_, ?_, ?_, ?_⟩
  · intro e; rw [e] at pa1; exact z (pa1.symm.trans pc1)
  · intro e; rw [e] at pa1; exact z (pa1.symm.trans pd1)
  · intro e; rw [e] at pb1; exact z (pb1.symm.trans pc1)
  · intro e; rw [e] at pb1; exact z (pb1.symm.trans pd1)
