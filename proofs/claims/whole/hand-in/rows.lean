section
theorem pk_us {f : Nat → Int32} {k : Nat} {x : Int32} : upd f k x k = x := if_pos rfl
theorem pk_un {f : Nat → Int32} {k j : Nat} {x : Int32} (h : j ≠ k) : upd f k x j = f j := if_neg h
theorem pk_ix (x : Int32) {n : Nat} (hn : n < 2 ^ 31) : x < 0 ∨ nI n ≤ x ∨ ∃ j : Nat, j < n ∧ x = nI j := by
  by_cases h : x < 0
  · exact Or.inl h
  · obtain ⟨j, hj, rfl⟩ := nI_of h
    by_cases h2 : j < n
    · exact Or.inr (Or.inr ⟨j, h2, rfl⟩)
    · exact Or.inr (Or.inl (nI_le (by omega) hj))
theorem pk_le {x y : Int32} {A B : Prop} (a b : Nat) (f : a ≤ b → A) (g : b < a → B) (hx : x = nI a := by rfl) (hy : y = nI b := by rfl) (ha : a < 2 ^ 31 := by omega) (hb : b < 2 ^ 31 := by omega) : (x ≤ y → A) ∧ (¬ x ≤ y → B) := by
  subst hx hy
  rw [nI_leI ha hb]
  exact ⟨f, fun z => g (by omega)⟩
theorem pk_lt {x y : Int32} {A B : Prop} (a b : Nat) (f : a < b → A) (g : b ≤ a → B) (hx : x = nI a := by rfl) (hy : y = nI b := by rfl) (ha : a < 2 ^ 31 := by omega) (hb : b < 2 ^ 31 := by omega) : (x < y → A) ∧ (¬ x < y → B) := by
  subst hx hy
  rw [nI_ltI ha hb]
  exact ⟨f, fun z => g (by omega)⟩
theorem pk_eq {x y : Int32} {A B : Prop} (a b : Nat) (f : a = b → A) (g : a ≠ b → B) (hx : x = nI a := by rfl) (hy : y = nI b := by rfl) (ha : a < 2 ^ 31 := by omega) (hb : b < 2 ^ 31 := by omega) : (x = y → A) ∧ (¬ x = y → B) := by
  subst hx hy
  rw [nI_eq ha hb]
  exact ⟨f, g⟩
theorem pk_in {x : Int32} (n N : Nat) (h : n < N) (hx : x = nI n := by rfl) (hN : N < 2 ^ 31 := by omega) : vp_in x N := by
  subst hx
  exact vp_in_nI h hN
theorem pk_cl {x : Int32} (n : Nat) (hx : x = nI n := by rfl) (h : n < 2 ^ 31 := by omega) : x.toNatClampNeg = n := by
  subst hx
  exact nI_clamp h
theorem pk_tn {n : Nat} (h : n < 2 ^ 32) : (nI n).toBitVec.toNat = n := Nat.mod_eq_of_lt h
theorem pk_and (x : Int32) {m : Int32} (k : Nat) (hm : m.toBitVec.toNat = 2 ^ k - 1) : x &&& m = nI (x.toBitVec.toNat % 2 ^ k) := by
  apply Int32.toBitVec_inj.mp
  apply BitVec.eq_of_toNat_eq
  rw [Int32.toBitVec_and, BitVec.toNat_and, hm, Nat.and_two_pow_sub_one_eq_mod]
  show _ = (BitVec.ofNat 32 _).toNat
  rw [BitVec.toNat_ofNat]
  exact (Nat.mod_eq_of_lt (Nat.lt_of_le_of_lt (Nat.mod_le _ _) x.toBitVec.isLt)).symm
theorem pk_andN {n : Nat} (h : n < 2 ^ 32) {m : Int32} (k : Nat) (hm : m.toBitVec.toNat = 2 ^ k - 1) : nI n &&& m = nI (n % 2 ^ k) := by
  rw [pk_and _ k hm, pk_tn h]
theorem pk_andE (x : Int32) {m : Int32} (k : Nat) (hm : m.toBitVec.toNat = 2 ^ k - 1) : ∃ j : Nat, j < 2 ^ k ∧ x &&& m = nI j := ⟨_, Nat.mod_lt _ (Nat.two_pow_pos k), pk_and x k hm⟩
theorem pk_loop {σ : Type} (W : Nat → Nat → σ → Prop) (I : Nat → σ → Prop) (e i0 : Nat) (s : σ) (hi : i0 ≤ e) (h0 : I i0 s) (hx : ∀ n s, I e s → W (n + 1) e s)
    (hs : ∀ n i s, i < e → I i s → (∀ s', I (i + 1) s' → W n (i + 1) s') → W (n + 1) i s) : ∃ n, W n i0 s :=
  ⟨e + 1, loop_i W I e hx hs (e + 1) i0 s hi (by omega) h0⟩
end
section
/-! the tree, as numbers: kinds kd (0 absent, 1 leaf, 2 joint), children lf rt, parents pa, depths D -/
theorem tc_inj {a b : Nat} (ha : a < 31) (hb : b < 31) (h : nI a = nI b) : a = b := (nI_eq (by omega) (by omega)).mp h
theorem tc_cl {a : Nat} (ha : a < 31) : (nI a).toNatClampNeg = a := nI_clamp (by omega)
theorem tc_in {a : Nat} (ha : a < 31) : vp_in (nI a) 31 := vp_in_nI ha (by omega)
theorem tc_m1 {a : Nat} (ha : a < 31) : nI a ≠ -1 := by
  intro h
  have h2 := congrArg Int32.toInt h
  rw [nI_toInt (by omega)] at h2
  have h3 : (-1 : Int32).toInt = -1 := by decide
  omega

/-- what a joint of sort s works out -/
def tc_f (s x y : Int32) : Int32 := if s = 1 then x * y else if s = 2 then x - y else if s = 3 then y - x else x + y
/-- its slope in its left child, y the right one's value -/
def tc_sl (s y : Int32) : Int32 := if s = 1 then y else if s = 2 then 1 else if s = 3 then -1 else 1
/-- its slope in its right child, x the left one's value -/
def tc_sr (s x : Int32) : Int32 := if s = 1 then x else if s = 2 then -1 else if s = 3 then 1 else 1
theorem tc_fl (s x y p : Int32) : tc_f s (x + p) y = tc_f s x y + p * tc_sl s y := by
  unfold tc_f tc_sl
  by_cases h1 : s = 1
  · simp only [if_pos h1]; grind
  · simp only [if_neg h1]
    by_cases h2 : s = 2
    · simp only [if_pos h2]; grind
    · simp only [if_neg h2]
      by_cases h3 : s = 3
      · simp only [if_pos h3]; grind
      · simp only [if_neg h3]; grind
theorem tc_fr (s x y p : Int32) : tc_f s x (y + p) = tc_f s x y + p * tc_sr s x := by
  unfold tc_f tc_sr
  by_cases h1 : s = 1
  · simp only [if_pos h1]; grind
  · simp only [if_neg h1]
    by_cases h2 : s = 2
    · simp only [if_pos h2]; grind
    · simp only [if_neg h2]
      by_cases h3 : s = 3
      · simp only [if_pos h3]; grind
      · simp only [if_neg h3]; grind

/-- joint n has the children a and b -/
def tc_J (kd lf rt pa : Nat → Int32) (D : Nat → Nat) (n a b : Nat) : Prop :=
  a < 31 ∧ b < 31 ∧ a ≠ b ∧ lf n = nI a ∧ rt n = nI b ∧ kd a ≠ 0 ∧ kd b ≠ 0 ∧ pa a = nI n ∧ pa b = nI n ∧ D a = D n + 1 ∧ D b = D n + 1
/-- a tree with the root 0 -/
def tc_T (kd lf rt pa : Nat → Int32) (D : Nat → Nat) : Prop :=
  (∀ n, n < 31 → kd n = 0 ∨ kd n = 1 ∨ kd n = 2) ∧ kd 0 ≠ 0 ∧ pa 0 = -1 ∧ D 0 = 0 ∧
  (∀ n, n < 31 → kd n = 2 → ∃ a b, tc_J kd lf rt pa D n a b) ∧
  (∀ c, c < 31 → kd c ≠ 0 → c ≠ 0 → ∃ p, p < 31 ∧ kd p = 2 ∧ (lf p = nI c ∨ rt p = nI c))
/-- the equation of joint n in the values V -/
def tc_Q (so lf rt V : Nat → Int32) (n : Nat) : Prop := V n = tc_f (so n) (V (lf n).toNatClampNeg) (V (rt n).toNatClampNeg)
theorem tc_Qe {kd so lf rt pa V : Nat → Int32} {D : Nat → Nat} {n a b : Nat} (J : tc_J kd lf rt pa D n a b) : tc_Q so lf rt V n ↔ V n = tc_f (so n) (V a) (V b) := by
  obtain ⟨ha, hb, _, el, er, _⟩ := J
  unfold tc_Q
  rw [el, er, tc_cl ha, tc_cl hb]

/-- a node that is there and not the root has its joint -/
theorem tc_up {kd lf rt pa : Nat → Int32} {D : Nat → Nat} (T : tc_T kd lf rt pa D) {c : Nat} (hc : c < 31) (k : kd c ≠ 0) (h0 : c ≠ 0) :
    ∃ p a b, p < 31 ∧ kd p = 2 ∧ tc_J kd lf rt pa D p a b ∧ (c = a ∨ c = b) := by
  obtain ⟨_, _, _, _, hJ, hP⟩ := T
  obtain ⟨p, hp, kp, h⟩ := hP c hc k h0
  obtain ⟨a, b, J⟩ := hJ p hp kp
  refine ⟨p, a, b, hp, kp, J, ?_⟩
  obtain ⟨ha, hb, _, el, er, _⟩ := J
  rcases h with h | h
  · exact Or.inl (tc_inj hc ha (h.symm.trans el))
  · exact Or.inr (tc_inj hc hb (h.symm.trans er))

theorem tc_pig : ∀ (N : Nat) (f : Nat → Nat), (∀ i, i ≤ N → f i < N) → ∃ i j, i < j ∧ j ≤ N ∧ f i = f j := by
  intro N
  induction N with
  | zero => intro f h; exact absurd (h 0 (Nat.le_refl 0)) (Nat.not_lt_zero _)
  | succ N ih =>
    intro f h
    by_cases e : ∃ i, i ≤ N ∧ f i = f (N + 1)
    · obtain ⟨i, hi, e⟩ := e
      exact ⟨i, N + 1, by omega, Nat.le_refl _, e⟩
    · have ne : ∀ i, i ≤ N → f i ≠ f (N + 1) := fun i hi z => e ⟨i, hi, z⟩
      have hv : f (N + 1) < N + 1 := h (N + 1) (Nat.le_refl _)
      obtain ⟨i, j, hij, hj, g⟩ := ih (fun i => if f i < f (N + 1) then f i else f i - 1) (by
        intro i hi
        have h1 := ne i hi
        have h2 := h i (by omega)
        show (if f i < f (N + 1) then f i else f i - 1) < N
        split <;> omega)
      have g' : (if f i < f (N + 1) then f i else f i - 1) = (if f j < f (N + 1) then f j else f j - 1) := g
      have h1 := ne i (by omega)
      have h2 := ne j hj
      refine ⟨i, j, hij, by omega, ?_⟩
      split at g' <;> split at g' <;> omega

/-- no node lies deeper than 30 -/
theorem tc_D {kd lf rt pa : Nat → Int32} {D : Nat → Nat} (T : tc_T kd lf rt pa D) {c : Nat} (hc : c < 31) (k : kd c ≠ 0) : D c ≤ 30 := by
  have lad : ∀ t, t ≤ D c → ∃ m, m < 31 ∧ kd m ≠ 0 ∧ D m = D c - t := by
    intro t
    induction t with
    | zero => intro _; exact ⟨c, hc, k, by omega⟩
    | succ t ih =>
      intro ht
      obtain ⟨m, hm, km, em⟩ := ih (by omega)
      have m0 : m ≠ 0 := by
        intro z
        have := T.2.2.2.1
        rw [z] at em
        omega
      obtain ⟨p, a, b, hp, kp, J, h⟩ := tc_up T hm km m0
      obtain ⟨_, _, _, _, _, _, _, _, _, da, db⟩ := J
      refine ⟨p, hp, by rw [kp]; decide, ?_⟩
      rcases h with h | h
      · rw [h] at em; omega
      · rw [h] at em; omega
  by_cases hD : D c ≤ 30
  · exact hD
  · exfalso
    have ex : ∀ j : Nat, ∃ m : Nat, j ≤ D c → m < 31 ∧ D m = j := by
      intro j
      by_cases hj : j ≤ D c
      · obtain ⟨m, hm, _, em⟩ := lad (D c - j) (by omega)
        exact ⟨m, fun _ => ⟨hm, by omega⟩⟩
      · exact ⟨0, fun z => absurd z hj⟩
    obtain ⟨f, hf⟩ := Classical.axiomOfChoice ex
    obtain ⟨i, j, hij, hj, e⟩ := tc_pig 31 f (fun i hi => (hf i (by omega)).1)
    have h1 := (hf i (by omega)).2
    have h2 := (hf j (by omega)).2
    rw [e] at h1
    omega
/-- a joint's children have it as parent, and no other joint has them -/
theorem tc_one {kd lf rt pa : Nat → Int32} {D : Nat → Nat} {n a b m c d : Nat} (hn : n < 31) (hm : m < 31) (J : tc_J kd lf rt pa D n a b) (K : tc_J kd lf rt pa D m c d) (ne : n ≠ m) : a ≠ c ∧ a ≠ d ∧ b ≠ c ∧ b ≠ d := by
  obtain ⟨_, _, _, _, _, _, _, pa1, pb1, _, _⟩ := J
  obtain ⟨_, _, _, _, _, _, _, pc1, pd1, _, _⟩ := K
  have z : nI n ≠ nI m := fun e => ne (tc_inj hn hm e)
  refine ⟨?_, ?_, ?_, ?_⟩
  · intro e; rw [e] at pa1; exact z (pa1.symm.trans pc1)
  · intro e; rw [e] at pa1; exact z (pa1.symm.trans pd1)
  · intro e; rw [e] at pb1; exact z (pb1.symm.trans pc1)
  · intro e; rw [e] at pb1; exact z (pb1.symm.trans pd1)
end
section
theorem tc_n10 : ¬ (1 : Int32) = 0 := by decide
theorem tc_n20 : ¬ (2 : Int32) = 0 := by decide
theorem tc_n12 : ¬ (1 : Int32) = 2 := by decide
theorem tc_n21 : ¬ (2 : Int32) = 1 := by decide
theorem tc_n01 : ¬ (0 : Int32) = 1 := by decide
theorem tc_n02 : ¬ (0 : Int32) = 2 := by decide
/-- grow keeps the tree -/
theorem tc_Tgrow {kd lf rt pa : Nat → Int32} {D : Nat → Nat} (T : tc_T kd lf rt pa D) {n l r : Nat} (hn : n < 31) (hl : l < 31) (hr : r < 31) (ne : l ≠ r) (kn : kd n = 1) (kl : kd l = 0) (kr : kd r = 0) :
    tc_T (upd (upd (upd kd l 1) r 1) n 2) (upd lf n (nI l)) (upd rt n (nI r)) (upd (upd pa l (nI n)) r (nI n)) (fun m => if m = l ∨ m = r then D n + 1 else D m) := by
  obtain ⟨h3, k0, p0, d0, hJ, hP⟩ := T
  have nl : n ≠ l := by intro e; rw [e, kl] at kn; exact tc_n01 kn
  have nr : n ≠ r := by intro e; rw [e, kr] at kn; exact tc_n01 kn
  have l0 : 0 ≠ l := by intro e; rw [← e] at kl; exact k0 kl
  have r0 : 0 ≠ r := by intro e; rw [← e] at kr; exact k0 kr
  obtain ⟨K, hK⟩ : ∃ K, K = upd (upd (upd kd l 1) r 1) n 2 := ⟨_, rfl⟩
  obtain ⟨D', hD⟩ : ∃ D' : Nat → Nat, D' = fun m => if m = l ∨ m = r then D n + 1 else D m := ⟨_, rfl⟩
  have kN : K n = 2 := by rw [hK]; exact pk_us
  have kR : K r = 1 := by rw [hK]; exact (pk_un nr.symm).trans pk_us
  have kL : K l = 1 := by rw [hK]; exact (pk_un nl.symm).trans ((pk_un ne).trans pk_us)
  have kO : ∀ m, m ≠ n → m ≠ l → m ≠ r → K m = kd m := by intro m a b c; rw [hK]; exact (pk_un a).trans ((pk_un c).trans (pk_un b))
  have dL : D' l = D n + 1 := by rw [hD]; exact if_pos (Or.inl rfl)
  have dR : D' r = D n + 1 := by rw [hD]; exact if_pos (Or.inr rfl)
  have dO : ∀ m, m ≠ l → m ≠ r → D' m = D m := by intro m a b; rw [hD]; exact if_neg (fun z => z.elim a b)
  have kZ : ∀ m, kd m ≠ 0 → K m ≠ 0 := by
    intro m km
    by_cases e : m = n
    · rw [e, kN]; exact tc_n20
    · rw [kO m e (fun z => km (z ▸ kl)) (fun z => km (z ▸ kr))]; exact km
  rw [← hK, ← hD]
  refine ⟨?_, kZ 0 k0, ?_, ?_, ?_, ?_⟩
  · intro m hm
    by_cases e1 : m = n
    · exact Or.inr (Or.inr (e1 ▸ kN))
    · by_cases e2 : m = l
      · exact Or.inr (Or.inl (e2 ▸ kL))
      · by_cases e3 : m = r
        · exact Or.inr (Or.inl (e3 ▸ kR))
        · rw [kO m e1 e2 e3]; exact h3 m hm
  · exact (pk_un r0).trans ((pk_un l0).trans p0)
  · rw [dO 0 l0 r0]; exact d0
  · intro m hm km
    by_cases e : m = n
    · subst e
      refine ⟨l, r, hl, hr, ne, pk_us, pk_us, ?_, ?_, ?_, pk_us, ?_, ?_⟩
      · rw [kL]; exact tc_n10
      · rw [kR]; exact tc_n10
      · exact (pk_un ne).trans pk_us
      · rw [dL, dO m nl nr]
      · rw [dR, dO m nl nr]
    · have ml : m ≠ l := by intro z; rw [z, kL] at km; exact tc_n12 km
      have mr : m ≠ r := by intro z; rw [z, kR] at km; exact tc_n12 km
      rw [kO m e ml mr] at km
      obtain ⟨a, b, ha, hb, ab, el, er, ka, kb, qa, qb, da, db⟩ := hJ m hm km
      have al : a ≠ l := fun z => ka (z ▸ kl)
      have ar : a ≠ r := fun z => ka (z ▸ kr)
      have bl : b ≠ l := fun z => kb (z ▸ kl)
      have br : b ≠ r := fun z => kb (z ▸ kr)
      refine ⟨a, b, ha, hb, ab, (pk_un e).trans el, (pk_un e).trans er, kZ a ka, kZ b kb, ?_, ?_, ?_, ?_⟩
      · exact (pk_un ar).trans ((pk_un al).trans qa)
      · exact (pk_un br).trans ((pk_un bl).trans qb)
      · rw [dO a al ar, dO m ml mr]; exact da
      · rw [dO b bl br, dO m ml mr]; exact db
  · intro c hc kc c0
    by_cases e2 : c = l
    · exact ⟨n, hn, kN, Or.inl (by rw [e2]; exact pk_us)⟩
    · by_cases e3 : c = r
      · exact ⟨n, hn, kN, Or.inr (by rw [e3]; exact pk_us)⟩
      · have kc' : kd c ≠ 0 := by
          by_cases e1 : c = n
          · rw [e1, kn]; exact tc_n10
          · rw [kO c e1 e2 e3] at kc; exact kc
        obtain ⟨p, hp, kp, h⟩ := hP c hc kc' c0
        have pn : p ≠ n := by intro z; rw [z, kn] at kp; exact tc_n12 kp
        have pl : p ≠ l := by intro z; rw [z, kl] at kp; exact tc_n02 kp
        have pr : p ≠ r := by intro z; rw [z, kr] at kp; exact tc_n02 kp
        refine ⟨p, hp, (kO p pn pl pr).trans kp, ?_⟩
        rcases h with h | h
        · exact Or.inl ((pk_un pn).trans h)
        · exact Or.inr ((pk_un pn).trans h)
/-- and the equations of the other joints -/
theorem tc_Egrow {kd so lf rt pa va : Nat → Int32} {D : Nat → Nat} (T : tc_T kd lf rt pa D) {n l r : Nat} {s x y : Int32} (ne : l ≠ r) (kn : kd n = 1) (kl : kd l = 0) (kr : kd r = 0)
    (E : ∀ m, m < 31 → kd m = 2 → tc_Q so lf rt va m) (m : Nat) (hm : m < 31) (km : upd (upd (upd kd l 1) r 1) n 2 m = 2) (e : m ≠ n) :
    tc_Q (upd so n s) (upd lf n (nI l)) (upd rt n (nI r)) (upd (upd va l x) r y) m := by
  obtain ⟨h3, k0, p0, d0, hJ, hP⟩ := T
  rw [pk_un e] at km
  have mr : m ≠ r := by intro z; rw [z, pk_us] at km; exact tc_n12 km
  rw [pk_un mr] at km
  have ml : m ≠ l := by intro z; rw [z, pk_us] at km; exact tc_n12 km
  rw [pk_un ml] at km
  have Em := E m hm km
  obtain ⟨a, b, ha, hb, ab, el, er, ka, kb, _⟩ := hJ m hm km
  have al : a ≠ l := fun z => ka (z ▸ kl)
  have ar : a ≠ r := fun z => ka (z ▸ kr)
  have bl : b ≠ l := fun z => kb (z ▸ kl)
  have br : b ≠ r := fun z => kb (z ▸ kr)
  unfold tc_Q at Em ⊢
  rw [el, er, tc_cl ha, tc_cl hb] at Em
  rw [pk_un e, pk_un e, pk_un e, el, er, tc_cl ha, tc_cl hb, pk_un mr, pk_un ml, pk_un ar, pk_un al, pk_un br, pk_un bl]
  exact Em
/-- shrink keeps the tree -/
theorem tc_Tshrink {kd lf rt pa : Nat → Int32} {D : Nat → Nat} (T : tc_T kd lf rt pa D) {n a b : Nat} (hn : n < 31) (kn : kd n = 2) (J : tc_J kd lf rt pa D n a b) (ka1 : kd a = 1) (kb1 : kd b = 1) :
    tc_T (upd (upd (upd kd a 0) b 0) n 1) lf rt pa D := by
  obtain ⟨h3, k0, p0, d0, hJ, hP⟩ := T
  have J0 := J
  obtain ⟨ha, hb, ab, el, er, ka, kb, qa, qb, da, db⟩ := J
  have na : n ≠ a := by intro e; rw [e] at da; omega
  have nb : n ≠ b := by intro e; rw [e] at db; omega
  have a0 : 0 ≠ a := by intro e; rw [← e] at da; omega
  have b0 : 0 ≠ b := by intro e; rw [← e] at db; omega
  obtain ⟨K, hK⟩ : ∃ K, K = upd (upd (upd kd a 0) b 0) n 1 := ⟨_, rfl⟩
  have kN : K n = 1 := by rw [hK]; exact pk_us
  have kB : K b = 0 := by rw [hK]; exact (pk_un nb.symm).trans pk_us
  have kA : K a = 0 := by rw [hK]; exact (pk_un na.symm).trans ((pk_un ab).trans pk_us)
  have kO : ∀ m, m ≠ n → m ≠ a → m ≠ b → K m = kd m := by intro m x y z; rw [hK]; exact (pk_un x).trans ((pk_un z).trans (pk_un y))
  have kZ : ∀ m, kd m ≠ 0 → m ≠ a → m ≠ b → K m ≠ 0 := by
    intro m km ma mb
    by_cases e : m = n
    · rw [e, kN]; exact tc_n10
    · rw [kO m e ma mb]; exact km
  rw [← hK]
  refine ⟨?_, kZ 0 k0 a0 b0, p0, d0, ?_, ?_⟩
  · intro m hm
    by_cases e1 : m = n
    · exact Or.inr (Or.inl (e1 ▸ kN))
    · by_cases e2 : m = a
      · exact Or.inl (e2 ▸ kA)
      · by_cases e3 : m = b
        · exact Or.inl (e3 ▸ kB)
        · rw [kO m e1 e2 e3]; exact h3 m hm
  · intro m hm km
    have mn : m ≠ n := by intro z; rw [z, kN] at km; exact tc_n12 km
    have ma : m ≠ a := by intro z; rw [z, kA] at km; exact tc_n02 km
    have mb : m ≠ b := by intro z; rw [z, kB] at km; exact tc_n02 km
    rw [kO m mn ma mb] at km
    obtain ⟨c, d, M⟩ := hJ m hm km
    obtain ⟨z1, z2, z3, z4⟩ := tc_one hm hn M J0 mn
    obtain ⟨hc, hd, cd, el', er', kc, kd', r⟩ := M
    exact ⟨c, d, hc, hd, cd, el', er', kZ c kc z1 z2, kZ d kd' z3 z4, r⟩
  · intro c hc kc c0
    have ca : c ≠ a := fun z => kc (z ▸ kA)
    have cb : c ≠ b := fun z => kc (z ▸ kB)
    have kc' : kd c ≠ 0 := by
      by_cases e1 : c = n
      · rw [e1, kn]; exact tc_n20
      · rw [kO c e1 ca cb] at kc; exact kc
    obtain ⟨p, hp, kp, h⟩ := hP c hc kc' c0
    have pn : p ≠ n := by
      intro z
      rw [z, el, er] at h
      rcases h with h | h
      · exact ca (tc_inj hc ha h.symm)
      · exact cb (tc_inj hc hb h.symm)
    have pa' : p ≠ a := by intro z; rw [z, ka1] at kp; exact tc_n12 kp
    have pb' : p ≠ b := by intro z; rw [z, kb1] at kp; exact tc_n12 kp
    exact ⟨p, hp, (kO p pn pa' pb').trans kp, h⟩
/-- turn keeps the tree -/
theorem tc_Tturn {kd lf rt pa : Nat → Int32} {D : Nat → Nat} (T : tc_T kd lf rt pa D) {n : Nat} (hn : n < 31) (kn : kd n = 2) :
    tc_T kd (upd lf n (rt n)) (upd rt n (lf n)) pa D := by
  obtain ⟨h3, k0, p0, d0, hJ, hP⟩ := T
  refine ⟨h3, k0, p0, d0, ?_, ?_⟩
  · intro m hm km
    obtain ⟨a, b, ha, hb, ab, el, er, ka, kb, qa, qb, da, db⟩ := hJ m hm km
    by_cases e : m = n
    · subst e
      exact ⟨b, a, hb, ha, ab.symm, pk_us.trans er, pk_us.trans el, kb, ka, qb, qa, db, da⟩
    · exact ⟨a, b, ha, hb, ab, (pk_un e).trans el, (pk_un e).trans er, ka, kb, qa, qb, da, db⟩
  · intro c hc kc c0
    obtain ⟨p, hp, kp, h⟩ := hP c hc kc c0
    refine ⟨p, hp, kp, ?_⟩
    by_cases e : p = n
    · subst e
      rcases h with h | h
      · exact Or.inr (pk_us.trans h)
      · exact Or.inl (pk_us.trans h)
    · rcases h with h | h
      · exact Or.inl ((pk_un e).trans h)
      · exact Or.inr ((pk_un e).trans h)
/-- the relation, without what the reference works out anew each time -/
def tc_R (kd so lf rt pa va th jo wo : Nat → Int32) (D : Nat → Nat) : Prop :=
  tc_T kd lf rt pa D ∧ (∀ m, m < 31 → kd m = 2 → tc_Q so lf rt va m) ∧ (∀ m, so m = 0 ∨ so m = 1 ∨ so m = 2 ∨ so m = 3) ∧
  (∀ m, m < 31 → kd m = 0 → th m = 0) ∧ (∀ m, m < 31 → kd m = 1 → th m = 1 ∧ jo m = 0 ∧ wo m = va m) ∧ (∀ m, m < 31 → kd m = 2 → th m = 1 ∧ jo m = 1)
theorem tc_so {so : Nat → Int32} (h : ∀ m, so m = 0 ∨ so m = 1 ∨ so m = 2 ∨ so m = 3) (n : Nat) (x : Int32) (m : Nat) : upd so n (x &&& 3) m = 0 ∨ upd so n (x &&& 3) m = 1 ∨ upd so n (x &&& 3) m = 2 ∨ upd so n (x &&& 3) m = 3 := by
  by_cases e : m = n
  · subst e
    rw [pk_us]
    obtain ⟨j, hj, e⟩ := pk_andE x (m := 3) 2 (by decide)
    rw [e]
    have hj' : j < 4 := hj
    have : j = 0 ∨ j = 1 ∨ j = 2 ∨ j = 3 := by omega
    rcases this with h | h | h | h <;> subst h
    · exact Or.inl rfl
    · exact Or.inr (Or.inl rfl)
    · exact Or.inr (Or.inr (Or.inl rfl))
    · exact Or.inr (Or.inr (Or.inr rfl))
  · rw [pk_un e]; exact h m
theorem tc_Rgrow {kd so lf rt pa va th jo wo : Nat → Int32} {D : Nat → Nat} (R : tc_R kd so lf rt pa va th jo wo D) {n l r : Nat} {s x y : Int32} (hn : n < 31) (hl : l < 31) (hr : r < 31) (ne : l ≠ r) (kn : kd n = 1) (kl : kd l = 0) (kr : kd r = 0)
    {V : Nat → Int32} (E : ∀ m, m < 31 → upd (upd (upd kd l 1) r 1) n 2 m = 2 → tc_Q (upd so n (s &&& 3)) (upd lf n (nI l)) (upd rt n (nI r)) V m)
    (hV : ∀ m, m < 31 → upd (upd (upd kd l 1) r 1) n 2 m ≠ 2 → V m = upd (upd va l x) r y m) :
    tc_R (upd (upd (upd kd l 1) r 1) n 2) (upd so n (s &&& 3)) (upd lf n (nI l)) (upd rt n (nI r)) (upd (upd pa l (nI n)) r (nI n)) V
      (upd (upd th l 1) r 1) (upd (upd (upd jo l 0) r 0) n 1) (upd (upd wo l x) r y) (fun m => if m = l ∨ m = r then D n + 1 else D m) := by
  obtain ⟨T, _, hs, c0, c1, c2⟩ := R
  have nl : n ≠ l := by intro e; rw [e, kl] at kn; exact tc_n01 kn
  have nr : n ≠ r := by intro e; rw [e, kr] at kn; exact tc_n01 kn
  refine ⟨tc_Tgrow T hn hl hr ne kn kl kr, E, tc_so hs n s, ?_, ?_, ?_⟩
  · intro m hm km
    have mn : m ≠ n := by intro z; rw [z, pk_us] at km; exact tc_n20 km
    rw [pk_un mn] at km
    have mr : m ≠ r := by intro z; rw [z, pk_us] at km; exact tc_n10 km
    rw [pk_un mr] at km
    have ml : m ≠ l := by intro z; rw [z, pk_us] at km; exact tc_n10 km
    rw [pk_un ml] at km
    rw [pk_un mr, pk_un ml]
    exact c0 m hm km
  · intro m hm km
    have hVm := hV m hm (by rw [km]; exact tc_n12)
    rw [hVm]
    have mn : m ≠ n := by intro z; rw [z, pk_us] at km; exact tc_n21 km
    rw [pk_un mn] at km
    rw [pk_un (f := upd (upd jo l 0) r 0) mn]
    by_cases mr : m = r
    · subst mr; exact ⟨pk_us, pk_us, pk_us.trans pk_us.symm⟩
    · rw [pk_un mr] at km
      rw [pk_un mr, pk_un mr, pk_un mr, pk_un mr]
      by_cases ml : m = l
      · subst ml; exact ⟨pk_us, pk_us, pk_us.trans pk_us.symm⟩
      · rw [pk_un ml] at km
        rw [pk_un ml, pk_un ml, pk_un ml, pk_un ml]
        exact c1 m hm km
  · intro m hm km
    by_cases mn : m = n
    · subst mn
      exact ⟨by rw [pk_un nr, pk_un nl]; exact (c1 m hm kn).1, pk_us⟩
    · rw [pk_un mn] at km
      have mr : m ≠ r := by intro z; rw [z, pk_us] at km; exact tc_n12 km
      rw [pk_un mr] at km
      have ml : m ≠ l := by intro z; rw [z, pk_us] at km; exact tc_n12 km
      rw [pk_un ml] at km
      rw [pk_un mr, pk_un ml, pk_un mn, pk_un mr, pk_un ml]
      exact c2 m hm km
theorem tc_Rshrink {kd so lf rt pa va th jo wo : Nat → Int32} {D : Nat → Nat} (R : tc_R kd so lf rt pa va th jo wo D) {n a b : Nat} (hn : n < 31) (kn : kd n = 2) (J : tc_J kd lf rt pa D n a b) (ka1 : kd a = 1) (kb1 : kd b = 1) :
    tc_R (upd (upd (upd kd a 0) b 0) n 1) so lf rt pa va (upd (upd th a 0) b 0) (upd jo n 0) (upd wo n (va n)) D := by
  obtain ⟨T, E, hs, c0, c1, c2⟩ := R
  have J0 := J
  obtain ⟨ha, hb, ab, el, er, ka, kb, qa, qb, da, db⟩ := J
  have na : n ≠ a := by intro e; rw [e] at da; omega
  have nb : n ≠ b := by intro e; rw [e] at db; omega
  refine ⟨tc_Tshrink T hn kn J0 ka1 kb1, ?_, hs, ?_, ?_, ?_⟩
  · intro m hm km
    have mn : m ≠ n := by intro z; rw [z, pk_us] at km; exact tc_n12 km
    rw [pk_un mn] at km
    have mb : m ≠ b := by intro z; rw [z, pk_us] at km; exact tc_n02 km
    rw [pk_un mb] at km
    have ma : m ≠ a := by intro z; rw [z, pk_us] at km; exact tc_n02 km
    rw [pk_un ma] at km
    exact E m hm km
  · intro m hm km
    have mn : m ≠ n := by intro z; rw [z, pk_us] at km; exact tc_n10 km
    rw [pk_un mn] at km
    by_cases mb : m = b
    · rw [mb]; exact pk_us
    · rw [pk_un mb] at km
      rw [pk_un mb]
      by_cases ma : m = a
      · rw [ma]; exact pk_us
      · rw [pk_un ma] at km
        rw [pk_un ma]
        exact c0 m hm km
  · intro m hm km
    by_cases mn : m = n
    · subst mn
      exact ⟨by rw [pk_un nb, pk_un na]; exact (c2 m hm kn).1, pk_us, pk_us⟩
    · rw [pk_un mn] at km
      have mb : m ≠ b := by intro z; rw [z, pk_us] at km; exact tc_n01 km
      rw [pk_un mb] at km
      have ma : m ≠ a := by intro z; rw [z, pk_us] at km; exact tc_n01 km
      rw [pk_un ma] at km
      rw [pk_un mb, pk_un ma, pk_un mn, pk_un mn]
      exact c1 m hm km
  · intro m hm km
    have mn : m ≠ n := by intro z; rw [z, pk_us] at km; exact tc_n12 km
    rw [pk_un mn] at km
    have mb : m ≠ b := by intro z; rw [z, pk_us] at km; exact tc_n02 km
    rw [pk_un mb] at km
    have ma : m ≠ a := by intro z; rw [z, pk_us] at km; exact tc_n02 km
    rw [pk_un ma] at km
    rw [pk_un mb, pk_un ma, pk_un mn]
    exact c2 m hm km
/-- set, setSort, turn: the kinds stay -/
theorem tc_Rset {kd so lf rt pa va th jo wo : Nat → Int32} {D : Nat → Nat} (R : tc_R kd so lf rt pa va th jo wo D) {n : Nat} {x : Int32} (hn : n < 31) (kn : kd n = 1)
    {V : Nat → Int32} (E : ∀ m, m < 31 → kd m = 2 → tc_Q so lf rt V m) (hV : ∀ m, m < 31 → kd m ≠ 2 → V m = upd va n x m) :
    tc_R kd so lf rt pa V th jo (upd wo n x) D := by
  obtain ⟨T, _, hs, c0, c1, c2⟩ := R
  refine ⟨T, E, hs, c0, ?_, c2⟩
  intro m hm km
  obtain ⟨h1, h2, h3⟩ := c1 m hm km
  refine ⟨h1, h2, ?_⟩
  rw [hV m hm (by rw [km]; exact tc_n12)]
  by_cases mn : m = n
  · rw [mn, pk_us, pk_us]
  · rw [pk_un mn, pk_un mn]; exact h3
theorem tc_Rsort {kd so lf rt pa va th jo wo : Nat → Int32} {D : Nat → Nat} (R : tc_R kd so lf rt pa va th jo wo D) {n : Nat} {x : Int32}
    {V : Nat → Int32} (E : ∀ m, m < 31 → kd m = 2 → tc_Q (upd so n (x &&& 3)) lf rt V m) (hV : ∀ m, m < 31 → kd m ≠ 2 → V m = va m) :
    tc_R kd (upd so n (x &&& 3)) lf rt pa V th jo wo D := by
  obtain ⟨T, _, hs, c0, c1, c2⟩ := R
  refine ⟨T, E, tc_so hs n x, c0, ?_, c2⟩
  intro m hm km
  obtain ⟨h1, h2, h3⟩ := c1 m hm km
  exact ⟨h1, h2, h3.trans (hV m hm (by rw [km]; exact tc_n12)).symm⟩
theorem tc_Rturn {kd so lf rt pa va th jo wo : Nat → Int32} {D : Nat → Nat} (R : tc_R kd so lf rt pa va th jo wo D) {n : Nat} (hn : n < 31) (kn : kd n = 2)
    {V : Nat → Int32} (E : ∀ m, m < 31 → kd m = 2 → tc_Q so (upd lf n (rt n)) (upd rt n (lf n)) V m) (hV : ∀ m, m < 31 → kd m ≠ 2 → V m = va m) :
    tc_R kd so (upd lf n (rt n)) (upd rt n (lf n)) pa V th jo wo D := by
  obtain ⟨T, _, hs, c0, c1, c2⟩ := R
  refine ⟨tc_Tturn T hn kn, E, hs, c0, ?_, c2⟩
  intro m hm km
  obtain ⟨h1, h2, h3⟩ := c1 m hm km
  exact ⟨h1, h2, h3.trans (hV m hm (by rw [km]; exact tc_n12)).symm⟩
end
section
/-- the parent of a node that is there -/
theorem tc_pa {kd lf rt pa : Nat → Int32} {D : Nat → Nat} (T : tc_T kd lf rt pa D) {c : Nat} (hc : c < 31) (k : kd c ≠ 0) :
    (c = 0 ∧ pa c = -1) ∨ (c ≠ 0 ∧ ∃ p, p < 31 ∧ kd p = 2 ∧ pa c = nI p ∧ D c = D p + 1) := by
  by_cases c0 : c = 0
  · exact Or.inl ⟨c0, by rw [c0]; exact T.2.2.1⟩
  · obtain ⟨p, a, b, hp, kp, J, h⟩ := tc_up T hc k c0
    obtain ⟨_, _, _, _, _, _, _, qa, qb, da, db⟩ := J
    refine Or.inr ⟨c0, p, hp, kp, ?_⟩
    rcases h with h | h
    · rw [h]; exact ⟨qa, da⟩
    · rw [h]; exact ⟨qb, db⟩
/-- a value changed at j leaves the equations of the joints that are neither j nor its parent -/
theorem tc_keep {kd so lf rt pa : Nat → Int32} {D : Nat → Nat} {V : Nat → Int32} {j m c d : Nat} {x : Int32} (J : tc_J kd lf rt pa D m c d) (mj : m ≠ j) (q : nI m ≠ pa j) (E : tc_Q so lf rt V m) : tc_Q so lf rt (upd V j x) m := by
  obtain ⟨hc, hd, cd, el, er, kc, kd', qc, qd, dc, dd⟩ := J
  have cj : c ≠ j := by intro z; rw [z] at qc; exact q qc.symm
  have dj : d ≠ j := by intro z; rw [z] at qd; exact q qd.symm
  unfold tc_Q at E ⊢
  rw [el, er, tc_cl hc, tc_cl hd] at E ⊢
  rw [pk_un mj, pk_un cj, pk_un dj]
  exact E
/-- a step of the refreshing -/
theorem tc_step {kd so lf rt pa : Nat → Int32} {D : Nat → Nat} (T : tc_T kd lf rt pa D) {V : Nat → Int32} {j a b : Nat} (hj : j < 31)
    (J : tc_J kd lf rt pa D j a b) (E : ∀ m, m < 31 → kd m = 2 → nI m ≠ nI j → tc_Q so lf rt V m) (m : Nat) (hm : m < 31) (km : kd m = 2) (q : nI m ≠ pa j) :
    tc_Q so lf rt (upd V j (tc_f (so j) (V a) (V b))) m := by
  by_cases e : m = j
  · subst e
    rw [tc_Qe J]
    obtain ⟨ha, hb, ab, el, er, ka, kb, qa, qb, da, db⟩ := J
    have aj : a ≠ m := by intro z; rw [z] at da; omega
    have bj : b ≠ m := by intro z; rw [z] at db; omega
    rw [pk_us, pk_un aj, pk_un bj]
  · obtain ⟨c, d, M⟩ := T.2.2.2.2.1 m hm km
    exact tc_keep M e q (E m hm km (fun z => e (tc_inj hm hj z)))

/-- the slope's walk: V' are the values with the leaf n greater by one, as far up as c, whose value grows by p -/
def tc_S (kd so lf rt pa V V' : Nat → Int32) (D : Nat → Nat) (n c : Nat) (p : Int32) : Prop :=
  V' c = V c + p ∧ (∀ m, m < 31 → kd m ≠ 0 → m ≠ c → D m ≤ D c → V' m = V m) ∧ (∀ m, m < 31 → kd m = 2 → nI m ≠ pa c → tc_Q so lf rt V' m) ∧
  (∀ m, m < 31 → kd m = 1 → V' m = upd V n (V n + 1) m)
theorem tc_S0 {kd so lf rt pa V : Nat → Int32} {D : Nat → Nat} (T : tc_T kd lf rt pa D) (E : ∀ m, m < 31 → kd m = 2 → tc_Q so lf rt V m) {n : Nat} (kn : kd n = 1) :
    tc_S kd so lf rt pa V (upd V n (V n + 1)) D n n 1 := by
  refine ⟨pk_us, fun m _ _ mn _ => pk_un mn, ?_, fun m _ _ => rfl⟩
  intro m hm km q
  obtain ⟨c, d, M⟩ := T.2.2.2.2.1 m hm km
  exact tc_keep M (by intro z; rw [z, kn] at km; exact tc_n12 km) q (E m hm km)
theorem tc_Ss {kd so lf rt pa V V' : Nat → Int32} {D : Nat → Nat} (T : tc_T kd lf rt pa D) (E : ∀ m, m < 31 → kd m = 2 → tc_Q so lf rt V m) {n c j a b : Nat} {p s : Int32} (hj : j < 31) (kj : kd j = 2)
    (J : tc_J kd lf rt pa D j a b) (h : (c = a ∧ s = tc_sl (so j) (V b)) ∨ (c = b ∧ s = tc_sr (so j) (V a))) (S : tc_S kd so lf rt pa V V' D n c p) :
    tc_S kd so lf rt pa V (upd V' j (V j + p * s)) D n j (p * s) := by
  obtain ⟨s1, s2, s3, s4⟩ := S
  have Ej := (tc_Qe J).mp (E j hj kj)
  have J0 := J
  obtain ⟨ha, hb, ab, el, er, ka, kb, qa, qb, da, db⟩ := J
  have aj : a ≠ j := by intro z; rw [z] at da; omega
  have bj : b ≠ j := by intro z; rw [z] at db; omega
  have dc : D c = D j + 1 := by rcases h with h | h <;> rw [h.1] <;> assumption
  have qc : pa c = nI j := by rcases h with h | h <;> rw [h.1] <;> assumption
  refine ⟨pk_us, ?_, ?_, ?_⟩
  · intro m hm km mj dm
    rw [pk_un mj]
    exact s2 m hm km (by intro z; rw [z] at dm; omega) (by omega)
  · intro m hm km q
    by_cases e : m = j
    · subst e
      rw [tc_Qe J0, pk_us, pk_un aj, pk_un bj, Ej]
      rcases h with ⟨h1, h2⟩ | ⟨h1, h2⟩
      · subst h1
        rw [s1, s2 b hb kb ab.symm (by omega), h2]
        exact (tc_fl _ _ _ _).symm
      · subst h1
        rw [s1, s2 a ha ka ab (by omega), h2]
        exact (tc_fr _ _ _ _).symm
    · obtain ⟨x, y, M⟩ := T.2.2.2.2.1 m hm km
      exact tc_keep M e q (s3 m hm km (by rw [qc]; exact fun z => e (tc_inj hm hj z)))
  · intro m hm km
    rw [pk_un (by intro z; rw [z, kj] at km; exact tc_n21 km)]
    exact s4 m hm km
theorem tc_Se {kd so lf rt pa V V' : Nat → Int32} {D : Nat → Nat} (T : tc_T kd lf rt pa D) {n : Nat} {p : Int32} (S : tc_S kd so lf rt pa V V' D n 0 p) (m : Nat) (hm : m < 31) (km : kd m = 2) : tc_Q so lf rt V' m :=
  S.2.2.1 m hm km (by rw [T.2.2.1]; exact tc_m1 hm)

/-- the reference's evaluation, in round t, at node n -/
def tc_I (kd V kn re : Nat → Int32) (D : Nat → Nat) (t n : Nat) : Prop :=
  (∀ m, m < 31 → kn m ≠ 0 → re m = V m) ∧ (∀ m, m < 31 → kd m = 1 → kn m ≠ 0) ∧ (∀ m, m < 31 → kd m ≠ 0 → 31 ≤ D m + t → kn m ≠ 0) ∧
  (∀ m, m < n → m < 31 → kd m ≠ 0 → 31 ≤ D m + (t + 1) → kn m ≠ 0)
theorem tc_Inx {kd V kn re : Nat → Int32} {D : Nat → Nat} {t : Nat} (h : tc_I kd V kn re D t 31) : tc_I kd V kn re D (t + 1) 0 :=
  ⟨h.1, h.2.1, fun m hm => h.2.2.2 m hm hm, fun m z => absurd z (Nat.not_lt_zero m)⟩
theorem tc_Iyes {kd so lf rt pa V kn re : Nat → Int32} {D : Nat → Nat} {t n a b : Nat} (E : tc_Q so lf rt V n) (J : tc_J kd lf rt pa D n a b) (ha : kn a ≠ 0) (hb : kn b ≠ 0) (h : tc_I kd V kn re D t n) :
    tc_I kd V (upd kn n 1) (upd re n (tc_f (so n) (re a) (re b))) D t (n + 1) := by
  obtain ⟨h1, h2, h3, h4⟩ := h
  have mono : ∀ m, kn m ≠ 0 → upd kn n 1 m ≠ 0 := by
    intro m hm
    by_cases e : m = n
    · rw [e, pk_us]; exact tc_n10
    · rw [pk_un e]; exact hm
  refine ⟨?_, fun m hm km => mono m (h2 m hm km), fun m hm km hd => mono m (h3 m hm km hd), ?_⟩
  · intro m hm km
    by_cases e : m = n
    · subst e
      rw [pk_us, h1 a J.1 ha, h1 b J.2.1 hb]
      exact ((tc_Qe J).mp E).symm
    · rw [pk_un e] at km
      rw [pk_un e]; exact h1 m hm km
  · intro m hmn hm km hd
    by_cases e : m = n
    · rw [e, pk_us]; exact tc_n10
    · exact mono m (h4 m (by omega) hm km hd)
theorem tc_Ino {kd V kn re : Nat → Int32} {D : Nat → Nat} {t n : Nat} (h : tc_I kd V kn re D t n) (hn : n < 31 → kd n ≠ 0 → 31 ≤ D n + (t + 1) → kn n ≠ 0) : tc_I kd V kn re D t (n + 1) := by
  obtain ⟨h1, h2, h3, h4⟩ := h
  refine ⟨h1, h2, h3, ?_⟩
  intro m hmn hm km hd
  by_cases e : m = n
  · subst e; exact hn hm km hd
  · exact h4 m (by omega) hm km hd
/-- a joint one of whose children is not known is not due -/
theorem tc_Ich {kd lf rt pa V kn re : Nat → Int32} {D : Nat → Nat} {t n a b : Nat} (J : tc_J kd lf rt pa D n a b) (h : tc_I kd V kn re D t n) (z : kn a = 0 ∨ kn b = 0) : ¬ 31 ≤ D n + (t + 1) := by
  obtain ⟨h1, h2, h3, h4⟩ := h
  obtain ⟨ha, hb, ab, el, er, ka, kb, qa, qb, da, db⟩ := J
  intro w
  rcases z with z | z
  · exact h3 a ha ka (by omega) z
  · exact h3 b hb kb (by omega) z

/-- how many below n are not 0 -/
def tc_cnt (g : Nat → Int32) : Nat → Nat
  | 0 => 0
  | n + 1 => tc_cnt g n + (if g n = 0 then 0 else 1)
theorem tc_cntS (g : Nat → Int32) (n : Nat) : tc_cnt g (n + 1) = tc_cnt g n + (if g n = 0 then 0 else 1) := rfl
theorem tc_cnt0 (g : Nat → Int32) : ∀ n, tc_cnt g n ≤ n := by
  intro n
  induction n with
  | zero => exact Nat.le_refl 0
  | succ n ih => rw [tc_cntS]; split <;> omega
theorem tc_cnt1 (g : Nat → Int32) {a : Nat} (ha : g a = 0) : ∀ n, a < n → tc_cnt g n + 1 ≤ n := by
  intro n
  induction n with
  | zero => intro h; omega
  | succ n ih =>
    intro h
    rw [tc_cntS]
    by_cases e : a = n
    · rw [← e, if_pos ha]
      have := tc_cnt0 g a
      omega
    · have := ih (by omega)
      split <;> omega
theorem tc_cnt2 (g : Nat → Int32) {a b : Nat} (ha : g a = 0) (hb : g b = 0) (ab : a < b) : ∀ n, b < n → tc_cnt g n + 2 ≤ n := by
  intro n
  induction n with
  | zero => intro h; omega
  | succ n ih =>
    intro h
    rw [tc_cntS]
    by_cases e : b = n
    · rw [← e, if_pos hb]
      have := tc_cnt1 g ha b ab
      omega
    · have := ih (by omega)
      split <;> omega
theorem tc_cnt3 (g : Nat → Int32) (a : Nat) : ∀ n, (∀ m, m < n → m ≠ a → g m ≠ 0) → n ≤ tc_cnt g n + 1 ∧ (n ≤ a → n ≤ tc_cnt g n) := by
  intro n
  induction n with
  | zero => intro _; exact ⟨by omega, fun _ => Nat.zero_le _⟩
  | succ n ih =>
    intro h
    obtain ⟨h1, h2⟩ := ih (fun m hm => h m (by omega))
    rw [tc_cntS]
    by_cases e : n = a
    · have := h2 (by omega)
      refine ⟨?_, fun z => by omega⟩
      split <;> omega
    · rw [if_neg (h n (by omega) e)]
      exact ⟨by omega, fun z => by have := h2 (by omega); omega⟩
end
section
/-! the component's own methods, each with a general post -/
def tc_N (kd : Nat → Int32) (x k : Int32) : Prop := ∃ n, n < 31 ∧ x = nI n ∧ kd n = k
theorem tc_Nj {kd : Nat → Int32} {j : Nat} {k : Int32} (hj : j < 31) (h : ¬ kd j = k) : ¬ tc_N kd (nI j) k := by
  rintro ⟨n, hn, e, z⟩
  rw [← tc_inj hj hn e] at z
  exact h z
theorem tc_No {kd : Nat → Int32} {x k : Int32} (h : ∀ j, j < 31 → x ≠ nI j) : ¬ tc_N kd x k := by
  rintro ⟨n, hn, e, _⟩
  exact h n hn e
theorem tc_x0 {x : Int32} (h : x < 0) : ∀ j, j < 31 → x ≠ nI j := by
  intro j hj e
  rw [e] at h
  exact nI_pos (by omega) h
theorem tc_x31 {x : Int32} (h : nI 31 ≤ x) : ∀ j, j < 31 → x ≠ nI j := by
  intro j hj e
  rw [e] at h
  exact nI_ge hj (by omega) h
theorem tc_lo {j : Nat} (hj : j < 31) : ¬ nI j < 0 := nI_pos (by omega)
theorem tc_hi {j : Nat} (hj : j < 31) : ¬ (31 : Int32) ≤ nI j := nI_ge (b := 31) hj (by decide)
theorem tc_31 : (31 : Int32) ≤ nI 31 := by decide
theorem tx_num {post : Int32 → Prop} {kd so lf rt pa va : Nat → Int32} {x : Int32} (f : ∀ j, j < 31 → x = nI j → post 1) (g : (∀ j, j < 31 → x ≠ nI j) → post 0) : wpX_isNumber post (kd, so, lf, rt, pa, va) x := by
  unfold wpX_isNumber
  dsimp only
  rcases pk_ix x (n := 31) (by omega) with h | h | ⟨j, hj, e⟩
  · exact br_t h (g (tc_x0 h))
  · have h0 : ¬ x < 0 := by
      intro z
      obtain ⟨j, hj, e⟩ : ∃ j : Nat, j < 31 ∧ nI j = nI j := ⟨0, by omega, rfl⟩
      exact absurd (Int32.lt_of_le_of_lt h z) (by decide)
    exact br_f h0 (br_t h (g (tc_x31 h)))
  · have h0 : ¬ x < 0 := by rw [e]; exact tc_lo hj
    have h1 : ¬ (31 : Int32) ≤ x := by rw [e]; exact tc_hi hj
    exact br_f h0 (br_f h1 (f j hj e))
theorem tx_isLeaf {post : Int32 → Prop} {kd so lf rt pa va : Nat → Int32} {x : Int32} (f : tc_N kd x 1 → post 1) (g : ¬ tc_N kd x 1 → post 0) : wpX_isLeaf post (kd, so, lf, rt, pa, va) x := by
  unfold wpX_isLeaf
  dsimp only
  refine tx_num (fun j hj e => ?_) (fun h => br_t rfl (g (tc_No h)))
  subst e
  refine br_f tc_n10 ⟨tc_in hj, ?_⟩
  rw [tc_cl hj]
  exact br_c (fun h => f ⟨j, hj, rfl, h⟩) (fun h => g (tc_Nj hj h))
theorem tx_isJoint {post : Int32 → Prop} {kd so lf rt pa va : Nat → Int32} {x : Int32} (f : tc_N kd x 2 → post 1) (g : ¬ tc_N kd x 2 → post 0) : wpX_isJoint post (kd, so, lf, rt, pa, va) x := by
  unfold wpX_isJoint
  dsimp only
  refine tx_num (fun j hj e => ?_) (fun h => br_t rfl (g (tc_No h)))
  subst e
  refine br_f tc_n10 ⟨tc_in hj, ?_⟩
  rw [tc_cl hj]
  exact br_c (fun h => f ⟨j, hj, rfl, h⟩) (fun h => g (tc_Nj hj h))
theorem tx_isThere {post : Int32 → Prop} {kd so lf rt pa va : Nat → Int32} {x : Int32} (f : ∀ j, j < 31 → x = nI j → kd j ≠ 0 → post 1) (g : (∀ j, j < 31 → x = nI j → kd j = 0) → post 0) : wpX_isThere post (kd, so, lf, rt, pa, va) x := by
  unfold wpX_isThere
  dsimp only
  refine tx_num (fun j hj e => ?_) (fun h => br_t rfl (g (fun j hj e => absurd e (h j hj))))
  subst e
  refine br_f tc_n10 ⟨tc_in hj, ?_⟩
  rw [tc_cl hj]
  exact br_c (fun h => g (fun i hi e => by rw [← tc_inj hj hi e]; exact h)) (fun h => f j hj rfl h)
theorem tx_lgo {post : Int32 → Prop} {kd so lf rt pa va : Nat → Int32} {s : Nat} (f : ∀ l, s ≤ l → l < 31 → kd l = 0 → (∀ m, s ≤ m → m < l → kd m ≠ 0) → post (nI l)) (g : (∀ m, s ≤ m → m < 31 → kd m ≠ 0) → post 31) :
    ∀ d i, i + d = 31 → s ≤ i → (∀ m, s ≤ m → m < i → kd m ≠ 0) → wX_leastFreeFrom_2 post kd so lf rt pa va (d + 1) (nI i) := by
  intro d
  induction d with
  | zero =>
    intro i hi si h
    have e : i = 31 := by omega
    subst e
    exact br_t tc_31 (g h)
  | succ d ih =>
    intro i hi si h
    have hi' : i < 31 := by omega
    refine br_f (tc_hi hi') ⟨tc_in hi', ?_⟩
    rw [tc_cl hi']
    refine br_c (fun z => f i si hi' z h) (fun z => nm_r (nI_1 i) (ih (i + 1) (by omega) (by omega) ?_))
    intro m sm hm
    by_cases e : m = i
    · rw [e]; exact z
    · exact h m sm (by omega)
theorem tx_least {post : Int32 → Prop} {kd so lf rt pa va : Nat → Int32} (s : Nat) (hs : s < 100) (f : ∀ l, s ≤ l → l < 31 → kd l = 0 → (∀ m, s ≤ m → m < l → kd m ≠ 0) → post (nI l)) (g : (∀ m, s ≤ m → m < 31 → kd m ≠ 0) → post 31) :
    wpX_leastFreeFrom post (kd, so, lf, rt, pa, va) (nI s) := by
  unfold wpX_leastFreeFrom
  dsimp only
  by_cases h : s ≤ 31
  · exact ⟨31 - s + 1, tx_lgo f g (31 - s) s (by omega) (Nat.le_refl _) (fun m h1 h2 => absurd h1 (by omega))⟩
  · exact ⟨1, br_t (nI_le (a := 31) (by omega) (by omega)) (g (fun m h1 h2 => absurd h1 (by omega)))⟩
theorem tc_f0 (x y : Int32) : tc_f 0 x y = x + y := by unfold tc_f; rw [if_neg tc_n01, if_neg tc_n02, if_neg (by decide)]
theorem tc_f1 (x y : Int32) : tc_f 1 x y = x * y := by unfold tc_f; rw [if_pos rfl]
theorem tc_f2 (x y : Int32) : tc_f 2 x y = x - y := by unfold tc_f; rw [if_neg tc_n21, if_pos rfl]
theorem tc_f3 (x y : Int32) : tc_f 3 x y = y - x := by unfold tc_f; rw [if_neg (by decide), if_neg (by decide), if_pos rfl]
theorem tx_jv {post : Int32 → Prop} {kd so lf rt pa va : Nat → Int32} {j a b : Nat} (hs : so j = 0 ∨ so j = 1 ∨ so j = 2 ∨ so j = 3) (hj : j < 31) (ha : a < 31) (hb : b < 31) (el : lf j = nI a) (er : rt j = nI b)
    (f : post (tc_f (so j) (va a) (va b))) : wpX_jointValue post (kd, so, lf, rt, pa, va) (nI j) := by
  unfold wpX_jointValue
  dsimp only
  rw [tc_cl hj, el, er, tc_cl ha, tc_cl hb]
  refine ⟨tc_in hj, tc_in ha, nm_e ⟨tc_in hj, tc_in hb, nm_e ⟨tc_in hj, ?_⟩⟩⟩
  rcases hs with h | h | h | h
  · rw [h, tc_f0] at f
    rw [h]
    exact nm_e (br_t (by decide) f)
  · rw [h, tc_f1] at f
    rw [h]
    exact nm_e (br_f (by decide) (br_f (by decide) (br_t rfl f)))
  · rw [h, tc_f2] at f
    rw [h]
    exact nm_e (br_f (by decide) (br_f (by decide) (br_f (by decide) (br_t rfl f))))
  · rw [h, tc_f3] at f
    rw [h]
    exact nm_e (br_f (by decide) (br_f (by decide) (br_f (by decide) (br_f (by decide) (br_t rfl f)))))
theorem tx_rgo {post : SX → Prop} {kd so lf rt pa : Nat → Int32} {D : Nat → Nat} (T : tc_T kd lf rt pa D) (hs : ∀ m, so m = 0 ∨ so m = 1 ∨ so m = 2 ∨ so m = 3) :
    ∀ (d i : Nat) (x : Int32) (V : Nat → Int32), i + d = 31 → (x = -1 ∨ ∃ j, j < 31 ∧ x = nI j ∧ kd j = 2 ∧ i + D j ≤ 30) →
    (∀ m, m < 31 → kd m = 2 → nI m ≠ x → tc_Q so lf rt V m) →
    (∀ V', (∀ m, m < 31 → kd m = 2 → tc_Q so lf rt V' m) → (∀ m, m < 31 → kd m ≠ 2 → V' m = V m) → post (kd, so, lf, rt, pa, V')) →
    wX_refreshUpFrom_4 post (d + 1) x (nI i) kd so lf rt pa V := by
  intro d
  induction d with
  | zero =>
    intro i x V hi hx E F
    have e : i = 31 := by omega
    subst e
    refine br_t tc_31 (F V ?_ (fun _ _ _ => rfl))
    rcases hx with h | ⟨j, hj, ex, kj, b⟩
    · intro m hm km
      exact E m hm km (by rw [h]; exact tc_m1 hm)
    · omega
  | succ d ih =>
    intro i x V hi hx E F
    have hi' : i < 31 := by omega
    refine br_f (tc_hi hi') ?_
    rcases hx with h | ⟨j, hj, ex, kj, b⟩
    · exact br_t h (F V (fun m hm km => E m hm km (by rw [h]; exact tc_m1 hm)) (fun _ _ _ => rfl))
    · subst ex
      obtain ⟨a, b, J⟩ := T.2.2.2.2.1 j hj kj
      refine br_f (tc_m1 hj) (tx_jv (hs j) hj J.1 J.2.1 J.2.2.2.1 J.2.2.2.2.1 ⟨tc_in hj, ?_⟩)
      rw [tc_cl hj]
      refine nm_e ⟨tc_in hj, nm_e (nm_r (nI_1 i) (ih (i + 1) (pa j) _ (by omega) ?_ (tc_step T hj J E) ?_))⟩
      · have kj0 : kd j ≠ 0 := by rw [kj]; exact tc_n20
        rcases tc_pa T hj kj0 with ⟨_, h⟩ | ⟨_, p, hp, kp, ep, dp⟩
        · exact Or.inl h
        · exact Or.inr ⟨p, hp, ep, kp, by omega⟩
      · intro V' h1 h2
        refine F V' h1 (fun m hm km => (h2 m hm km).trans (pk_un ?_))
        intro z
        rw [z] at km
        exact km kj
theorem tx_refresh {post : SX → Prop} {kd so lf rt pa V : Nat → Int32} {D : Nat → Nat} (T : tc_T kd lf rt pa D) (hs : ∀ m, so m = 0 ∨ so m = 1 ∨ so m = 2 ∨ so m = 3) {x : Int32}
    (hx : x = -1 ∨ ∃ j, j < 31 ∧ x = nI j ∧ kd j = 2)
    (E : ∀ m, m < 31 → kd m = 2 → nI m ≠ x → tc_Q so lf rt V m)
    (F : ∀ V', (∀ m, m < 31 → kd m = 2 → tc_Q so lf rt V' m) → (∀ m, m < 31 → kd m ≠ 2 → V' m = V m) → post (kd, so, lf, rt, pa, V')) :
    wpX_refreshUpFrom post (kd, so, lf, rt, pa, V) x := by
  unfold wpX_refreshUpFrom
  dsimp only
  refine ⟨31 + 1, tx_rgo T hs 31 0 x V rfl ?_ E F⟩
  rcases hx with h | ⟨j, hj, ex, kj⟩
  · exact Or.inl h
  · refine Or.inr ⟨j, hj, ex, kj, ?_⟩
    have := tc_D T hj (by rw [kj]; exact tc_n20)
    omega
end
section
/-! the reference's own methods, each with a general post -/
theorem tc_b1 : vp_nar .boolean 1 = 1 := rfl
theorem tc_b0 : vp_nar .boolean 0 = 0 := rfl
def tc_C (kd th jo : Nat → Int32) : Prop :=
  (∀ m, m < 31 → kd m = 0 ∨ kd m = 1 ∨ kd m = 2) ∧ (∀ m, m < 31 → kd m = 0 → th m = 0) ∧ (∀ m, m < 31 → kd m = 1 → th m = 1 ∧ jo m = 0) ∧ (∀ m, m < 31 → kd m = 2 → th m = 1 ∧ jo m = 1)
theorem tc_RC {kd so lf rt pa va th jo wo : Nat → Int32} {D : Nat → Nat} (R : tc_R kd so lf rt pa va th jo wo D) : tc_C kd th jo :=
  ⟨R.1.1, R.2.2.2.1, fun m hm km => ⟨(R.2.2.2.2.1 m hm km).1, (R.2.2.2.2.1 m hm km).2.1⟩, R.2.2.2.2.2⟩
theorem ty_isLeaf {post : Int32 → Prop} {kd th jo wo so lf rt kn re : Nat → Int32} {x : Int32} (C : tc_C kd th jo) (f : tc_N kd x 1 → post 1) (g : ¬ tc_N kd x 1 → post 0) : wpY_isLeaf post (th, jo, wo, so, lf, rt, kn, re) x := by
  unfold wpY_isLeaf
  dsimp only
  rcases pk_ix x (n := 31) (by omega) with h | h | ⟨j, hj, e⟩
  · exact br_t h (g (tc_No (tc_x0 h)))
  · have h0 : ¬ x < 0 := fun z => absurd (Int32.lt_of_le_of_lt h z) (by decide)
    exact br_f h0 (br_t h (g (tc_No (tc_x31 h))))
  · subst e
    refine br_f (tc_lo hj) (br_f (tc_hi hj) ⟨tc_in hj, ?_⟩)
    rw [tc_cl hj]
    rcases C.1 j hj with k | k | k
    · exact br_t (C.2.1 j hj k) (g (tc_Nj hj (by rw [k]; exact tc_n01)))
    · obtain ⟨h1, h2⟩ := C.2.2.1 j hj k
      exact br_f (by rw [h1]; exact tc_n10) ⟨tc_in hj, br_t h2 (f ⟨j, hj, rfl, k⟩)⟩
    · obtain ⟨h1, h2⟩ := C.2.2.2 j hj k
      exact br_f (by rw [h1]; exact tc_n10) ⟨tc_in hj, br_f (by rw [h2]; exact tc_n10) (g (tc_Nj hj (by rw [k]; exact tc_n21)))⟩
theorem ty_isJoint {post : Int32 → Prop} {kd th jo wo so lf rt kn re : Nat → Int32} {x : Int32} (C : tc_C kd th jo) (f : tc_N kd x 2 → post 1) (g : ¬ tc_N kd x 2 → post 0) : wpY_isJoint post (th, jo, wo, so, lf, rt, kn, re) x := by
  unfold wpY_isJoint
  dsimp only
  rcases pk_ix x (n := 31) (by omega) with h | h | ⟨j, hj, e⟩
  · exact br_t h (g (tc_No (tc_x0 h)))
  · have h0 : ¬ x < 0 := fun z => absurd (Int32.lt_of_le_of_lt h z) (by decide)
    exact br_f h0 (br_t h (g (tc_No (tc_x31 h))))
  · subst e
    refine br_f (tc_lo hj) (br_f (tc_hi hj) ⟨tc_in hj, ?_⟩)
    rw [tc_cl hj]
    rcases C.1 j hj with k | k | k
    · exact br_t (C.2.1 j hj k) (g (tc_Nj hj (by rw [k]; exact tc_n02)))
    · obtain ⟨h1, h2⟩ := C.2.2.1 j hj k
      exact br_f (by rw [h1]; exact tc_n10) ⟨tc_in hj, br_t h2 (g (tc_Nj hj (by rw [k]; exact tc_n12)))⟩
    · obtain ⟨h1, h2⟩ := C.2.2.2 j hj k
      exact br_f (by rw [h1]; exact tc_n10) ⟨tc_in hj, br_f (by rw [h2]; exact tc_n10) (f ⟨j, hj, rfl, k⟩)⟩
theorem ty_ngo {post : Int32 → Prop} {th jo wo so lf rt kn re : Nat → Int32} (f : post (nI (tc_cnt th 31))) :
    ∀ d i, i + d = 31 → wY_nodes_4 post th jo wo so lf rt kn re (d + 1) (nI (tc_cnt th i)) (nI i) := by
  intro d
  induction d with
  | zero =>
    intro i hi
    have e : i = 31 := by omega
    subst e
    exact br_t tc_31 f
  | succ d ih =>
    intro i hi
    have hi' : i < 31 := by omega
    have h := ih (i + 1) (by omega)
    rw [tc_cntS] at h
    refine br_f (tc_hi hi') ⟨tc_in hi', ?_⟩
    rw [tc_cl hi']
    refine br_c (fun z => ?_) (fun z => ?_)
    · rw [if_pos z] at h
      exact nm_r (nI_1 i) h
    · rw [if_neg z] at h
      exact nm_r (nI_1 _) (nm_r (nI_1 i) h)
theorem ty_nodes {post : Int32 → Prop} {th jo wo so lf rt kn re : Nat → Int32} (f : post (nI (tc_cnt th 31))) : wpY_nodes post (th, jo, wo, so, lf, rt, kn, re) := by
  unfold wpY_nodes
  dsimp only
  exact ⟨31 + 1, ty_ngo f 31 0 rfl⟩
theorem ty_lgo {post : Int32 → SY → Prop} {th jo wo so lf rt kn re : Nat → Int32} {x : Int32} {l : Nat} (hl : l < 31) (zl : th l = 0) (nz : ∀ m, m < l → th m ≠ 0)
    (f : post (nI l) (upd th l 1, upd jo l 0, upd wo l x, so, lf, rt, kn, re)) :
    ∀ d i, i + d = l → wY_leaf_2 post x th jo wo so lf rt kn re (d + 1) (nI i) := by
  intro d
  induction d with
  | zero =>
    intro i hi
    have e : i = l := by omega
    subst e
    refine br_f (tc_hi hl) ⟨tc_in hl, ?_⟩
    rw [tc_cl hl]
    exact br_t zl ⟨tc_in hl, nm_e ⟨tc_in hl, nm_e ⟨tc_in hl, nm_e f⟩⟩⟩
  | succ d ih =>
    intro i hi
    have hi' : i < 31 := by omega
    refine br_f (tc_hi hi') ⟨tc_in hi', ?_⟩
    rw [tc_cl hi']
    exact br_f (nz i (by omega)) (nm_r (nI_1 i) (ih (i + 1) (by omega)))
theorem ty_leaf {post : Int32 → SY → Prop} {th jo wo so lf rt kn re : Nat → Int32} {x : Int32} {l : Nat} (hl : l < 31) (zl : th l = 0) (nz : ∀ m, m < l → th m ≠ 0)
    (f : post (nI l) (upd th l 1, upd jo l 0, upd wo l x, so, lf, rt, kn, re)) : wpY_leaf post (th, jo, wo, so, lf, rt, kn, re) x := by
  unfold wpY_leaf
  dsimp only
  exact ⟨l + 1, ty_lgo hl zl nz f l 0 (by omega)⟩
theorem ty_worked {post : Int32 → Prop} {s x y : Int32} (hs : s = 0 ∨ s = 1 ∨ s = 2 ∨ s = 3) (f : post (tc_f s x y)) : wpY_worked post s x y := by
  unfold wpY_worked
  rcases hs with h | h | h | h
  · subst h; rw [tc_f0] at f; exact br_t rfl f
  · subst h; rw [tc_f1] at f; exact br_f (by decide) (br_t rfl f)
  · subst h; rw [tc_f2] at f; exact br_f (by decide) (br_f (by decide) (br_t rfl f))
  · subst h; rw [tc_f3] at f; exact br_f (by decide) (br_f (by decide) (br_f (by decide) f))
end
section
/-! the reference's evaluation -/
theorem tc_Cth {kd th jo : Nat → Int32} (C : tc_C kd th jo) {m : Nat} (hm : m < 31) (h : kd m ≠ 0) : th m ≠ 0 := by
  rcases C.1 m hm with k | k | k
  · exact absurd k h
  · rw [(C.2.2.1 m hm k).1]; exact tc_n10
  · rw [(C.2.2.2 m hm k).1]; exact tc_n10
theorem ty_36 {post : SY → Prop} {J2 : Int32 → (Nat → Int32) → (Nat → Int32) → (Nat → Int32) → (Nat → Int32) → (Nat → Int32) → (Nat → Int32) → (Nat → Int32) → (Nat → Int32) → Prop}
    {th jo wo so lf rt kn re : Nat → Int32} {i : Nat} {z : Int32} (hi : i < 31) (f : J2 (nI (i + 1)) th jo wo so lf rt (upd kn i (vp_nar .boolean z)) (upd re i (wo i))) :
    wY_evaluate_36 post J2 (nI i) z (nI i) th jo wo so lf rt kn re := by
  unfold wY_evaluate_36
  rw [tc_cl hi]
  exact ⟨tc_in hi, nm_e ⟨tc_in hi, tc_in hi, nm_e (nm_r (nI_1 i) f)⟩⟩
theorem tc_e0 {kd V kn re : Nat → Int32} {i : Nat} {w : Int32} (k : kd i ≠ 1) (h1 : ∀ m, m < i → kn m ≠ 0 → re m = V m) (h2 : ∀ m, m < i → kd m = 1 → kn m ≠ 0) :
    (∀ m, m < i + 1 → upd kn i 0 m ≠ 0 → upd re i w m = V m) ∧ (∀ m, m < i + 1 → kd m = 1 → upd kn i 0 m ≠ 0) := by
  refine ⟨?_, ?_⟩
  · intro m hm z
    by_cases e : m = i
    · rw [e, pk_us] at z; exact absurd rfl z
    · rw [pk_un e] at z
      rw [pk_un e]; exact h1 m (by omega) z
  · intro m hm z
    by_cases e : m = i
    · rw [e] at z; exact absurd z k
    · rw [pk_un e]; exact h2 m (by omega) z
theorem tc_e1 {kd V kn re : Nat → Int32} {i : Nat} {w : Int32} (k : w = V i) (h1 : ∀ m, m < i → kn m ≠ 0 → re m = V m) (h2 : ∀ m, m < i → kd m = 1 → kn m ≠ 0) :
    (∀ m, m < i + 1 → upd kn i 1 m ≠ 0 → upd re i w m = V m) ∧ (∀ m, m < i + 1 → kd m = 1 → upd kn i 1 m ≠ 0) := by
  refine ⟨?_, ?_⟩
  · intro m hm z
    by_cases e : m = i
    · rw [e, pk_us]; exact k
    · rw [pk_un e] at z
      rw [pk_un e]; exact h1 m (by omega) z
  · intro m hm z
    by_cases e : m = i
    · rw [e, pk_us]; exact tc_n10
    · rw [pk_un e]; exact h2 m (by omega) z
theorem ty_e2 {post : SY → Prop} {kd th jo wo so lf rt V : Nat → Int32} (C : tc_C kd th jo) (hw : ∀ m, m < 31 → kd m = 1 → wo m = V m)
    (F : ∀ kn re, (∀ m, m < 31 → kn m ≠ 0 → re m = V m) → (∀ m, m < 31 → kd m = 1 → kn m ≠ 0) → ∃ n57 : Nat, wY_evaluate_57 post n57 0 th jo wo so lf rt kn re) :
    ∀ d i kn re, i + d = 31 → (∀ m, m < i → kn m ≠ 0 → re m = V m) → (∀ m, m < i → kd m = 1 → kn m ≠ 0) → wY_evaluate_2 post (d + 1) (nI i) th jo wo so lf rt kn re := by
  intro d
  induction d with
  | zero =>
    intro i kn re hi h1 h2
    have e : i = 31 := by omega
    subst e
    exact br_t tc_31 (F kn re h1 h2)
  | succ d ih =>
    intro i kn re hi h1 h2
    have hi' : i < 31 := by omega
    refine br_f (tc_hi hi') ⟨tc_in hi', ?_⟩
    rw [tc_cl hi']
    rcases C.1 i hi' with k | k | k
    · obtain ⟨g1, g2⟩ := tc_e0 (w := wo i) (by rw [k]; exact tc_n01) h1 h2
      exact br_t (C.2.1 i hi' k) (ty_36 (z := 0) hi' (ih (i + 1) _ _ (by omega) g1 g2))
    · obtain ⟨c1, c2⟩ := C.2.2.1 i hi' k
      obtain ⟨g1, g2⟩ := tc_e1 (w := wo i) (hw i hi' k) h1 h2
      exact br_f (by rw [c1]; exact tc_n10) ⟨tc_in hi', br_t c2 (ty_36 (z := 1) hi' (ih (i + 1) _ _ (by omega) g1 g2))⟩
    · obtain ⟨c1, c2⟩ := C.2.2.2 i hi' k
      obtain ⟨g1, g2⟩ := tc_e0 (w := wo i) (by rw [k]; exact tc_n21) h1 h2
      exact br_f (by rw [c1]; exact tc_n10) ⟨tc_in hi', br_f (by rw [c2]; exact tc_n10) (ty_36 (z := 0) hi' (ih (i + 1) _ _ (by omega) g1 g2))⟩
theorem ty_e65 {post : SY → Prop} {J57 : Int32 → (Nat → Int32) → (Nat → Int32) → (Nat → Int32) → (Nat → Int32) → (Nat → Int32) → (Nat → Int32) → (Nat → Int32) → (Nat → Int32) → Prop}
    {kd so lf rt pa th jo wo V : Nat → Int32} {D : Nat → Nat} (T : tc_T kd lf rt pa D) (C : tc_C kd th jo) (hs : ∀ m, so m = 0 ∨ so m = 1 ∨ so m = 2 ∨ so m = 3)
    (E : ∀ m, m < 31 → kd m = 2 → tc_Q so lf rt V m) {t : Nat} (F : ∀ kn re, tc_I kd V kn re D t 31 → J57 (nI (t + 1)) th jo wo so lf rt kn re) :
    ∀ d i kn re, i + d = 31 → tc_I kd V kn re D t i → wY_evaluate_65 post J57 (nI t) (d + 1) (nI i) th jo wo so lf rt kn re := by
  intro d
  induction d with
  | zero =>
    intro i kn re hi h
    have e : i = 31 := by omega
    subst e
    exact br_t tc_31 (nm_r (nI_1 t) (F kn re h))
  | succ d ih =>
    intro i kn re hi h
    have hi' : i < 31 := by omega
    have hin : vp_in (nI i) 31 := tc_in hi'
    refine br_f (tc_hi hi') ⟨hin, ?_⟩
    rw [tc_cl hi']
    rcases C.1 i hi' with k | k | k
    · exact br_t (C.2.1 i hi' k) (nm_r (nI_1 i) (ih (i + 1) _ _ (by omega) (tc_Ino h (fun _ z _ => absurd k z))))
    · obtain ⟨c1, c2⟩ := C.2.2.1 i hi' k
      exact br_f (by rw [c1]; exact tc_n10) ⟨hin, br_t c2 (nm_r (nI_1 i) (ih (i + 1) _ _ (by omega) (tc_Ino h (fun hm _ _ => h.2.1 i hm k))))⟩
    · obtain ⟨c1, c2⟩ := C.2.2.2 i hi' k
      obtain ⟨a, b, J⟩ := T.2.2.2.2.1 i hi' k
      have ia : vp_in (nI a) 31 := tc_in J.1
      have ib : vp_in (nI b) 31 := tc_in J.2.1
      refine br_f (by rw [c1]; exact tc_n10) ⟨hin, br_f (by rw [c2]; exact tc_n10) ⟨hin, ?_⟩⟩
      rw [J.2.2.2.1, J.2.2.2.2.1, tc_cl J.1, tc_cl J.2.1]
      refine ⟨ia, br_c (fun z => ?_) (fun za => ⟨hin, ib, br_c (fun z => ?_) (fun zb => ⟨hin, hin, ia, hin, ib, ty_worked (hs i) ⟨hin, nm_e ⟨hin, nm_e ?_⟩⟩⟩)⟩)⟩
      · exact nm_r (nI_1 i) (ih (i + 1) _ _ (by omega) (tc_Ino h (fun _ _ w => absurd w (tc_Ich J h (Or.inl z)))))
      · exact nm_r (nI_1 i) (ih (i + 1) _ _ (by omega) (tc_Ino h (fun _ _ w => absurd w (tc_Ich J h (Or.inr z)))))
      · exact nm_r (nI_1 i) (ih (i + 1) _ _ (by omega) (tc_Iyes (E i hi' k) J za zb h))
theorem ty_e57 {post : SY → Prop} {kd so lf rt pa th jo wo V : Nat → Int32} {D : Nat → Nat} (T : tc_T kd lf rt pa D) (C : tc_C kd th jo) (hs : ∀ m, so m = 0 ∨ so m = 1 ∨ so m = 2 ∨ so m = 3)
    (E : ∀ m, m < 31 → kd m = 2 → tc_Q so lf rt V m) (F : ∀ kn re, tc_I kd V kn re D 31 0 → post (th, jo, wo, so, lf, rt, kn, re)) :
    ∀ d t kn re, t + d = 31 → tc_I kd V kn re D t 0 → wY_evaluate_57 post (d + 1) (nI t) th jo wo so lf rt kn re := by
  intro d
  induction d with
  | zero =>
    intro t kn re ht h
    have e : t = 31 := by omega
    subst e
    exact br_t tc_31 (F kn re h)
  | succ d ih =>
    intro t kn re ht h
    have ht' : t < 31 := by omega
    exact br_f (tc_hi ht') ⟨31 + 1, ty_e65 T C hs E (fun kn re h => ih (t + 1) kn re (by omega) (tc_Inx h)) 31 0 kn re rfl h⟩
theorem ty_eval {post : SY → Prop} {kd so lf rt pa th jo wo kn re V : Nat → Int32} {D : Nat → Nat} (T : tc_T kd lf rt pa D) (C : tc_C kd th jo) (hs : ∀ m, so m = 0 ∨ so m = 1 ∨ so m = 2 ∨ so m = 3)
    (E : ∀ m, m < 31 → kd m = 2 → tc_Q so lf rt V m) (hw : ∀ m, m < 31 → kd m = 1 → wo m = V m)
    (F : ∀ kn re, (∀ m, m < 31 → kd m ≠ 0 → re m = V m) → post (th, jo, wo, so, lf, rt, kn, re)) : wpY_evaluate post (th, jo, wo, so, lf, rt, kn, re) := by
  unfold wpY_evaluate
  dsimp only
  refine ⟨31 + 1, ty_e2 C hw (fun kn re h1 h2 => ⟨31 + 1, ty_e57 T C hs E (fun kn re h => F kn re (fun m hm km => h.1 m hm (h.2.2.1 m hm km (by omega)))) 31 0 kn re rfl
    ⟨h1, h2, fun m hm km hd => absurd hd (by have := tc_D T hm km; omega), fun m z => absurd z (Nat.not_lt_zero m)⟩⟩) 31 0 kn re rfl (fun m z => absurd z (Nat.not_lt_zero m)) (fun m z => absurd z (Nat.not_lt_zero m))⟩
theorem ty_value {post : Int32 → SY → Prop} {kd so lf rt pa th jo wo kn re V : Nat → Int32} {D : Nat → Nat} (T : tc_T kd lf rt pa D) (C : tc_C kd th jo) (hs : ∀ m, so m = 0 ∨ so m = 1 ∨ so m = 2 ∨ so m = 3)
    (E : ∀ m, m < 31 → kd m = 2 → tc_Q so lf rt V m) (hw : ∀ m, m < 31 → kd m = 1 → wo m = V m) {n : Nat} (hn : n < 31) (k : kd n ≠ 0)
    (F : ∀ kn re, post (V n) (th, jo, wo, so, lf, rt, kn, re)) : wpY_value post (th, jo, wo, so, lf, rt, kn, re) (nI n) := by
  have G : wY_value_18 post (nI n) th jo wo so lf rt kn re := by
    unfold wY_value_18
    refine ty_eval T C hs E hw (fun kn re h => ⟨tc_in hn, ?_⟩)
    rw [tc_cl hn, h n hn k]
    exact F kn re
  unfold wpY_value
  dsimp only
  refine ty_isLeaf C (fun _ => br_f tc_n10 G) (fun h => br_t rfl (ty_isJoint C (fun _ => br_f tc_n10 G) (fun h2 => ?_)))
  exfalso
  rcases C.1 n hn with z | z | z
  · exact k z
  · exact h ⟨n, hn, rfl, z⟩
  · exact h2 ⟨n, hn, rfl, z⟩
theorem ty_value0 {post : Int32 → SY → Prop} {kd so lf rt th jo wo kn re : Nat → Int32} (C : tc_C kd th jo) {x : Int32} (h : ∀ j, j < 31 → x = nI j → kd j = 0)
    (F : post 0 (th, jo, wo, so, lf, rt, kn, re)) : wpY_value post (th, jo, wo, so, lf, rt, kn, re) x := by
  unfold wpY_value
  dsimp only
  refine ty_isLeaf C (fun z => ?_) (fun _ => br_t rfl (ty_isJoint C (fun z => ?_) (fun _ => br_t rfl F)))
  · obtain ⟨j, hj, e, k⟩ := z
    rw [h j hj e] at k
    exact absurd k tc_n01
  · obtain ⟨j, hj, e, k⟩ := z
    rw [h j hj e] at k
    exact absurd k tc_n02
end
section
/-! the component's slope, and both counts of the joints -/
theorem tc_sl0 (y : Int32) : tc_sl 0 y = 1 := by unfold tc_sl; rw [if_neg tc_n01, if_neg tc_n02, if_neg (by decide)]
theorem tc_sl1 (y : Int32) : tc_sl 1 y = y := by unfold tc_sl; rw [if_pos rfl]
theorem tc_sl2 (y : Int32) : tc_sl 2 y = 1 := by unfold tc_sl; rw [if_neg tc_n21, if_pos rfl]
theorem tc_sl3 (y : Int32) : tc_sl 3 y = -1 := by unfold tc_sl; rw [if_neg (by decide), if_neg (by decide), if_pos rfl]
theorem tc_sr0 (y : Int32) : tc_sr 0 y = 1 := by unfold tc_sr; rw [if_neg tc_n01, if_neg tc_n02, if_neg (by decide)]
theorem tc_sr1 (y : Int32) : tc_sr 1 y = y := by unfold tc_sr; rw [if_pos rfl]
theorem tc_sr2 (y : Int32) : tc_sr 2 y = -1 := by unfold tc_sr; rw [if_neg tc_n21, if_pos rfl]
theorem tc_sr3 (y : Int32) : tc_sr 3 y = 1 := by unfold tc_sr; rw [if_neg (by decide), if_neg (by decide), if_pos rfl]
theorem tx_sijl {post : Int32 → Prop} {kd so lf rt pa va : Nat → Int32} {j b : Nat} (hs : so j = 0 ∨ so j = 1 ∨ so j = 2 ∨ so j = 3) (hj : j < 31) (hb : b < 31)
    (f : post (tc_sl (so j) (va b))) : wX_slopeInJoint_35 post (nI j) 1 (nI b) kd so lf rt pa va := by
  unfold wX_slopeInJoint_35
  rw [tc_cl hj, tc_cl hb]
  refine ⟨tc_in hj, ?_⟩
  rcases hs with h | h | h | h
  · rw [h, tc_sl0] at f
    rw [h]
    exact nm_e (br_t (by decide) f)
  · rw [h, tc_sl1] at f
    rw [h]
    exact nm_e (br_f (by decide) (br_f (by decide) (br_t rfl ⟨tc_in hb, f⟩)))
  · rw [h, tc_sl2] at f
    rw [h]
    exact nm_e (br_f (by decide) (br_f (by decide) (br_f (by decide) (br_t rfl (br_f tc_n10 f)))))
  · rw [h, tc_sl3] at f
    rw [h]
    exact nm_e (br_f (by decide) (br_f (by decide) (br_f (by decide) (br_f (by decide) (br_t rfl (br_f tc_n10 f))))))
theorem tx_sijr {post : Int32 → Prop} {kd so lf rt pa va : Nat → Int32} {j a : Nat} (hs : so j = 0 ∨ so j = 1 ∨ so j = 2 ∨ so j = 3) (hj : j < 31) (ha : a < 31)
    (f : post (tc_sr (so j) (va a))) : wX_slopeInJoint_35 post (nI j) 0 (nI a) kd so lf rt pa va := by
  unfold wX_slopeInJoint_35
  rw [tc_cl hj, tc_cl ha]
  refine ⟨tc_in hj, ?_⟩
  rcases hs with h | h | h | h
  · rw [h, tc_sr0] at f
    rw [h]
    exact nm_e (br_t (by decide) f)
  · rw [h, tc_sr1] at f
    rw [h]
    exact nm_e (br_f (by decide) (br_f (by decide) (br_t rfl ⟨tc_in ha, f⟩)))
  · rw [h, tc_sr2] at f
    rw [h]
    exact nm_e (br_f (by decide) (br_f (by decide) (br_f (by decide) (br_t rfl (br_t rfl f)))))
  · rw [h, tc_sr3] at f
    rw [h]
    exact nm_e (br_f (by decide) (br_f (by decide) (br_f (by decide) (br_f (by decide) (br_t rfl (br_t rfl f))))))
theorem tx_sij {post : Int32 → Prop} {kd so lf rt pa va : Nat → Int32} {D : Nat → Nat} {j a b c : Nat} (hs : so j = 0 ∨ so j = 1 ∨ so j = 2 ∨ so j = 3) (hj : j < 31) (J : tc_J kd lf rt pa D j a b) (h : c = a ∨ c = b)
    (f : ∀ s, (c = a ∧ s = tc_sl (so j) (va b)) ∨ (c = b ∧ s = tc_sr (so j) (va a)) → post s) : wpX_slopeInJoint post (kd, so, lf, rt, pa, va) (nI j) (nI c) := by
  obtain ⟨ha, hb, ab, el, er, _⟩ := J
  unfold wpX_slopeInJoint
  dsimp only
  refine ⟨tc_in hj, ?_⟩
  rw [tc_cl hj, el]
  by_cases e : c = a
  · subst e
    refine br_t rfl ?_
    unfold wX_slopeInJoint_15
    rw [tc_cl hj, er]
    exact br_f tc_n10 ⟨tc_in hj, tx_sijl hs hj hb (f _ (Or.inl ⟨rfl, rfl⟩))⟩
  · have e2 : c = b := h.resolve_left e
    subst e2
    refine br_f (fun z => e (tc_inj ha hb z).symm) ?_
    unfold wX_slopeInJoint_15
    rw [tc_cl hj, el]
    exact br_t rfl ⟨tc_in hj, tx_sijr hs hj ha (f _ (Or.inr ⟨rfl, rfl⟩))⟩
theorem tx_sgo {post : Int32 → Prop} {kd so lf rt pa V : Nat → Int32} {D : Nat → Nat} (T : tc_T kd lf rt pa D) (hs : ∀ m, so m = 0 ∨ so m = 1 ∨ so m = 2 ∨ so m = 3)
    (E : ∀ m, m < 31 → kd m = 2 → tc_Q so lf rt V m) {n : Nat} (F : ∀ p V', tc_S kd so lf rt pa V V' D n 0 p → post p) :
    ∀ d i c p V', i + d = 31 → c < 31 → kd c ≠ 0 → i + D c ≤ 30 → tc_S kd so lf rt pa V V' D n c p → wX_slope_17 post kd so lf rt pa V (d + 1) p (nI c) (nI i) := by
  intro d
  induction d with
  | zero => intro i c p V' hi hc kc hd S; omega
  | succ d ih =>
    intro i c p V' hi hc kc hd S
    have hi' : i < 31 := by omega
    refine br_f (tc_hi hi') ?_
    by_cases c0 : c = 0
    · subst c0
      exact br_t rfl (F p V' S)
    · obtain ⟨j, a, b, hj, kj, J, h⟩ := tc_up T hc kc c0
      have pc : pa c = nI j := by rcases h with h | h <;> rw [h] <;> simp only [J.2.2.2.2.2.2.2.1, J.2.2.2.2.2.2.2.2.1]
      have dc : D c = D j + 1 := by rcases h with h | h <;> rw [h] <;> simp only [J.2.2.2.2.2.2.2.2.2.1, J.2.2.2.2.2.2.2.2.2.2]
      refine br_f (nI_ne0 (by omega) (by omega)) ⟨tc_in hc, ?_⟩
      rw [tc_cl hc, pc]
      refine nm_e (tx_sij (hs j) hj J h (fun s hh => nm_e (nm_r (nI_1 i) (ih (i + 1) j (p * s) _ (by omega) hj ?_ (by omega) (tc_Ss T E hj kj J hh S)))))
      rw [kj]; exact tc_n20
theorem tx_slope {post : Int32 → Prop} {kd so lf rt pa V : Nat → Int32} {D : Nat → Nat} (T : tc_T kd lf rt pa D) (hs : ∀ m, so m = 0 ∨ so m = 1 ∨ so m = 2 ∨ so m = 3)
    (E : ∀ m, m < 31 → kd m = 2 → tc_Q so lf rt V m) {x : Int32} (g : ¬ tc_N kd x 1 → post 0) (F : ∀ n p V', n < 31 → x = nI n → kd n = 1 → tc_S kd so lf rt pa V V' D n 0 p → post p) :
    wpX_slope post (kd, so, lf, rt, pa, V) x := by
  unfold wpX_slope
  dsimp only
  refine tx_isLeaf (fun z => br_f tc_n10 ?_) (fun z => br_t rfl (g z))
  obtain ⟨n, hn, e, k⟩ := z
  have k0 : kd n ≠ 0 := by rw [k]; exact tc_n10
  have hD := tc_D T hn k0
  rw [e]
  exact ⟨31 + 1, tx_sgo T hs E (fun p V' S => F n p V' hn e k S) 31 0 n 1 _ rfl hn k0 (by omega) (tc_S0 T E k)⟩
def tc_jc (kd : Nat → Int32) : Nat → Nat
  | 0 => 0
  | n + 1 => tc_jc kd n + (if kd n = 2 then 1 else 0)
theorem tc_jcS (g : Nat → Int32) (n : Nat) : tc_jc g (n + 1) = tc_jc g n + (if g n = 2 then 1 else 0) := rfl
theorem tx_jgo {post : Int32 → Prop} {kd so lf rt pa va : Nat → Int32} (f : post (nI (tc_jc kd 31))) :
    ∀ d i, i + d = 31 → wX_joints_4 post kd so lf rt pa va (d + 1) (nI (tc_jc kd i)) (nI i) := by
  intro d
  induction d with
  | zero =>
    intro i hi
    have e : i = 31 := by omega
    subst e
    exact br_t tc_31 f
  | succ d ih =>
    intro i hi
    have hi' : i < 31 := by omega
    have h := ih (i + 1) (by omega)
    rw [tc_jcS] at h
    refine br_f (tc_hi hi') ⟨tc_in hi', ?_⟩
    rw [tc_cl hi']
    refine br_c (fun z => ?_) (fun z => ?_)
    · rw [if_pos z] at h
      exact nm_r (nI_1 _) (nm_r (nI_1 i) h)
    · rw [if_neg z] at h
      exact nm_r (nI_1 i) h
theorem ty_jgo {post : Int32 → Prop} {kd th jo wo so lf rt kn re : Nat → Int32} (C : tc_C kd th jo) (f : post (nI (tc_jc kd 31))) :
    ∀ d i, i + d = 31 → wY_joints_4 post th jo wo so lf rt kn re (d + 1) (nI (tc_jc kd i)) (nI i) := by
  intro d
  induction d with
  | zero =>
    intro i hi
    have e : i = 31 := by omega
    subst e
    exact br_t tc_31 f
  | succ d ih =>
    intro i hi
    have hi' : i < 31 := by omega
    have h := ih (i + 1) (by omega)
    rw [tc_jcS] at h
    refine br_f (tc_hi hi') (ty_isJoint C (fun z => br_f tc_n10 ?_) (fun z => br_t rfl ?_))
    · obtain ⟨m, hm, e, k⟩ := z
      rw [← tc_inj hi' hm e] at k
      rw [if_pos k] at h
      exact nm_r (nI_1 _) (nm_r (nI_1 i) h)
    · rw [if_neg (fun k => z ⟨i, hi', rfl, k⟩)] at h
      exact nm_r (nI_1 i) h
end
section
theorem tx_mk {post : SX → Prop} {kd so lf rt pa va : Nat → Int32} {n : Nat} {p v : Int32} (hn : n < 31) (f : post (upd kd n 1, so, lf, rt, upd pa n p, upd va n v)) : wpX_makeLeaf post (kd, so, lf, rt, pa, va) (nI n) p v := by
  unfold wpX_makeLeaf
  dsimp only
  rw [tc_cl hn]
  exact ⟨tc_in hn, nm_e ⟨tc_in hn, nm_e ⟨tc_in hn, nm_e f⟩⟩⟩
theorem tx_grow {post : Int32 → SX → Prop} {kd so lf rt pa va : Nat → Int32} {D : Nat → Nat} (T : tc_T kd lf rt pa D) (hs : ∀ m, so m = 0 ∨ so m = 1 ∨ so m = 2 ∨ so m = 3)
    (E : ∀ m, m < 31 → kd m = 2 → tc_Q so lf rt va m) {z s x y : Int32}
    (g : (¬ tc_N kd z 1 ∨ ∃ a, ∀ m, m < 31 → m ≠ a → kd m ≠ 0) → post (-1) (kd, so, lf, rt, pa, va))
    (f : ∀ n l r V, z = nI n → n < 31 → l < r → r < 31 → kd n = 1 → kd l = 0 → kd r = 0 → (∀ m, m < l → kd m ≠ 0) → (∀ m, l < m → m < r → kd m ≠ 0) →
      (∀ m, m < 31 → upd (upd (upd kd l 1) r 1) n 2 m = 2 → tc_Q (upd so n (s &&& 3)) (upd lf n (nI l)) (upd rt n (nI r)) V m) →
      (∀ m, m < 31 → upd (upd (upd kd l 1) r 1) n 2 m ≠ 2 → V m = upd (upd va l x) r y m) →
      post (nI l) (upd (upd (upd kd l 1) r 1) n 2, upd so n (s &&& 3), upd lf n (nI l), upd rt n (nI r), upd (upd pa l (nI n)) r (nI n), V)) :
    wpX_grow post (kd, so, lf, rt, pa, va) z s x y := by
  unfold wpX_grow
  dsimp only
  refine tx_isLeaf (fun w => br_f tc_n10 ?_) (fun w => br_t rfl (g (Or.inl w)))
  obtain ⟨n, hn, e, kn⟩ := w
  subst e
  refine tx_least 0 (by omega) (fun l _ hl kl ml => ?_) (fun h => ?_)
  · rw [nI_1 l]
    refine tx_least (l + 1) (by omega) (fun r lr hr kr mr => ?_) (fun h => ?_)
    · have nl : l ≠ r := by omega
      refine br_t (nI_lt (b := 31) hr (by decide)) (tx_mk hl (tx_mk hr ⟨tc_in hn, ?_⟩))
      rw [tc_cl hn]
      refine nm_e ⟨tc_in hn, nm_e ⟨tc_in hn, nm_e ⟨tc_in hn, nm_e ?_⟩⟩⟩
      refine tx_refresh (tc_Tgrow T hn hl hr nl kn kl kr) (tc_so hs n s) (Or.inr ⟨n, hn, rfl, pk_us⟩) ?_ ?_
      · intro m hm km ne
        exact tc_Egrow T nl kn kl kr E m hm km (fun w => ne (by rw [w]))
      · intro V h1 h2
        exact f n l r V rfl hn (by omega) hr kn kl kr (fun m hm => ml m (Nat.zero_le m) hm) (fun m hm => mr m hm) h1 h2
    · refine br_f (by decide) (g (Or.inr ⟨l, fun m hm ne => ?_⟩))
      by_cases w : m < l
      · exact ml m (Nat.zero_le m) w
      · exact h m (by omega) hm
  · refine tx_least 32 (by omega) (fun r lr hr => absurd lr (by omega)) (fun _ => ?_)
    exact br_f (by decide) (g (Or.inr ⟨0, fun m hm _ => h m (Nat.zero_le m) hm⟩))
theorem ty_grow0 {post : Int32 → SY → Prop} {kd th jo wo so lf rt kn re : Nat → Int32} (C : tc_C kd th jo) {z s x y : Int32}
    (h : ¬ tc_N kd z 1 ∨ ∃ a, ∀ m, m < 31 → m ≠ a → kd m ≠ 0) (f : post (-1) (th, jo, wo, so, lf, rt, kn, re)) : wpY_grow post (th, jo, wo, so, lf, rt, kn, re) z s x y := by
  unfold wpY_grow
  dsimp only
  refine ty_isLeaf C (fun w => br_f tc_n10 (ty_nodes (br_f ?_ f))) (fun w => br_t rfl f)
  rcases h with h | ⟨a, h⟩
  · exact absurd w h
  · have h1 := (tc_cnt3 th a 31 (fun m hm ne => tc_Cth C hm (h m hm ne))).1
    have h2 := tc_cnt0 th 31
    exact nI_ge (a := 29) (by omega) (by omega)
theorem ty_grow {post : Int32 → SY → Prop} {kd th jo wo so lf rt kn re : Nat → Int32} (C : tc_C kd th jo) {s x y : Int32} {n l r : Nat}
    (hn : n < 31) (lr : l < r) (hr : r < 31) (kn1 : kd n = 1) (kl : kd l = 0) (kr : kd r = 0) (ml : ∀ m, m < l → kd m ≠ 0) (mr : ∀ m, l < m → m < r → kd m ≠ 0)
    (f : post (nI l) (upd (upd th l 1) r 1, upd (upd (upd jo l 0) r 0) n 1, upd (upd wo l x) r y, upd so n (s &&& 3), upd lf n (nI l), upd rt n (nI r), kn, re)) :
    wpY_grow post (th, jo, wo, so, lf, rt, kn, re) (nI n) s x y := by
  have hl : l < 31 := by omega
  have tl : th l = 0 := C.2.1 l hl kl
  have tr : th r = 0 := C.2.1 r hr kr
  unfold wpY_grow
  dsimp only
  refine ty_isLeaf C (fun w => br_f tc_n10 (ty_nodes (br_t ?_ ?_))) (fun w => absurd ⟨n, hn, rfl, kn1⟩ w)
  · have := tc_cnt2 th tl tr lr 31 hr
    exact nI_le (b := 29) (by omega) (by decide)
  · refine ty_leaf hl tl (fun m hm => tc_Cth C (by omega) (ml m hm)) ⟨tc_in hn, ?_⟩
    rw [tc_cl hn]
    refine nm_e (ty_leaf hr ?_ ?_ ⟨tc_in hn, nm_e ⟨tc_in hn, nm_e ⟨tc_in hn, nm_e ⟨tc_in hn, ?_⟩⟩⟩⟩)
    · exact (pk_un (show r ≠ l by omega)).trans tr
    · intro m hm
      dsimp only
      by_cases e : m = l
      · rw [e, pk_us]; exact tc_n10
      · rw [pk_un e]
        by_cases w : m < l
        · exact tc_Cth C (by omega) (ml m w)
        · exact tc_Cth C (by omega) (mr m (by omega) hm)
    · dsimp only
      rw [pk_us]
      exact f
end
section
theorem tx_shrink {post : Int32 → SX → Prop} {kd so lf rt pa va : Nat → Int32} {D : Nat → Nat} (T : tc_T kd lf rt pa D) {z : Int32}
    (g0 : ¬ tc_N kd z 2 → post (-1) (kd, so, lf, rt, pa, va))
    (g1 : ∀ n a b, n < 31 → z = nI n → kd n = 2 → tc_J kd lf rt pa D n a b → (¬ kd a = 1 ∨ ¬ kd b = 1) → post (-1) (kd, so, lf, rt, pa, va))
    (f : ∀ n a b, n < 31 → z = nI n → kd n = 2 → tc_J kd lf rt pa D n a b → kd a = 1 → kd b = 1 → post 0 (upd (upd (upd kd a 0) b 0) n 1, so, lf, rt, pa, va)) :
    wpX_shrink post (kd, so, lf, rt, pa, va) z := by
  unfold wpX_shrink
  dsimp only
  refine tx_isJoint (fun w => br_f tc_n10 ?_) (fun w => br_t rfl (g0 w))
  obtain ⟨n, hn, e, kn⟩ := w
  subst e
  obtain ⟨a, b, J⟩ := T.2.2.2.2.1 n hn kn
  have ha := J.1
  have hb := J.2.1
  refine ⟨tc_in hn, ?_⟩
  rw [tc_cl hn, J.2.2.2.1, J.2.2.2.2.1]
  refine nm_e ⟨tc_in hn, nm_e (tx_isLeaf (fun wa => br_f tc_n10 (tx_isLeaf (fun wb => br_f tc_n10 ⟨tc_in ha, ?_⟩) (fun wb => br_t rfl ?_))) (fun wa => br_t rfl ?_))⟩
  · obtain ⟨a', ha', ea, ka⟩ := wa
    obtain ⟨b', hb', eb, kb⟩ := wb
    rw [← tc_inj ha ha' ea] at ka
    rw [← tc_inj hb hb' eb] at kb
    rw [tc_cl ha, tc_cl hb]
    exact nm_e ⟨tc_in hb, nm_e ⟨tc_in hn, nm_e (f n a b hn rfl kn J ka kb)⟩⟩
  · exact g1 n a b hn rfl kn J (Or.inr (fun k => wb ⟨b, hb, rfl, k⟩))
  · exact g1 n a b hn rfl kn J (Or.inl (fun k => wa ⟨a, ha, rfl, k⟩))
theorem ty_shrink0 {post : Int32 → SY → Prop} {kd th jo wo so lf rt kn re : Nat → Int32} (C : tc_C kd th jo) {z : Int32} (h : ¬ tc_N kd z 2) (f : post (-1) (th, jo, wo, so, lf, rt, kn, re)) : wpY_shrink post (th, jo, wo, so, lf, rt, kn, re) z := by
  unfold wpY_shrink
  dsimp only
  exact ty_isJoint C (fun w => absurd w h) (fun _ => br_t rfl f)
theorem ty_shrink1 {post : Int32 → SY → Prop} {kd pa th jo wo so lf rt kn re : Nat → Int32} {D : Nat → Nat} (C : tc_C kd th jo) {n a b : Nat} (hn : n < 31) (k2 : kd n = 2) (J : tc_J kd lf rt pa D n a b) (h : ¬ kd a = 1 ∨ ¬ kd b = 1)
    (f : post (-1) (th, jo, wo, so, lf, rt, kn, re)) : wpY_shrink post (th, jo, wo, so, lf, rt, kn, re) (nI n) := by
  have ha := J.1
  have hb := J.2.1
  unfold wpY_shrink
  dsimp only
  refine ty_isJoint C (fun w => br_f tc_n10 ⟨tc_in hn, ?_⟩) (fun w => br_t rfl f)
  rw [tc_cl hn, J.2.2.2.1, J.2.2.2.2.1]
  refine ty_isLeaf C (fun wa => br_f tc_n10 ⟨tc_in hn, ?_⟩) (fun _ => br_t rfl f)
  refine ty_isLeaf C (fun wb => ?_) (fun _ => br_t rfl f)
  exfalso
  rcases h with h | h
  · exact tc_Nj ha h wa
  · exact tc_Nj hb h wb
theorem ty_shrink {post : Int32 → SY → Prop} {kd pa va th jo wo so lf rt kn re : Nat → Int32} {D : Nat → Nat} (C : tc_C kd th jo) (hs : ∀ m, so m = 0 ∨ so m = 1 ∨ so m = 2 ∨ so m = 3)
    (E : ∀ m, m < 31 → kd m = 2 → tc_Q so lf rt va m) (hw : ∀ m, m < 31 → kd m = 1 → wo m = va m) {n a b : Nat} (hn : n < 31) (k2 : kd n = 2) (J : tc_J kd lf rt pa D n a b) (ka : kd a = 1) (kb : kd b = 1)
    (f : post 0 (upd (upd th a 0) b 0, upd jo n 0, upd wo n (va n), so, lf, rt, kn, re)) : wpY_shrink post (th, jo, wo, so, lf, rt, kn, re) (nI n) := by
  have ha := J.1
  have hb := J.2.1
  have En := (tc_Qe J).mp (E n hn k2)
  have i1 : vp_in (nI n) 31 := tc_in hn
  have i2 : vp_in (nI a) 31 := tc_in ha
  have i3 : vp_in (nI b) 31 := tc_in hb
  unfold wpY_shrink
  dsimp only
  refine ty_isJoint C (fun w => br_f tc_n10 ⟨i1, ?_⟩) (fun w => absurd ⟨n, hn, rfl, k2⟩ w)
  rw [tc_cl hn, J.2.2.2.1, J.2.2.2.2.1, tc_cl ha, tc_cl hb]
  refine ty_isLeaf C (fun wa => br_f tc_n10 ⟨i1, ?_⟩) (fun w => absurd ⟨a, ha, rfl, ka⟩ w)
  refine ty_isLeaf C (fun wb => br_f tc_n10 ⟨i1, i1, i2, i1, i3, ty_worked (hs n) ⟨i1, ?_⟩⟩) (fun w => absurd ⟨b, hb, rfl, kb⟩ w)
  rw [hw a ha ka, hw b hb kb, ← En]
  exact nm_e ⟨i1, nm_e ⟨i1, i2, nm_e ⟨i1, i3, nm_e f⟩⟩⟩
end
section
theorem tx_set {post : Int32 → SX → Prop} {kd so lf rt pa va : Nat → Int32} {D : Nat → Nat} (T : tc_T kd lf rt pa D) (hs : ∀ m, so m = 0 ∨ so m = 1 ∨ so m = 2 ∨ so m = 3)
    (E : ∀ m, m < 31 → kd m = 2 → tc_Q so lf rt va m) {z x : Int32} (g : ¬ tc_N kd z 1 → post (-1) (kd, so, lf, rt, pa, va))
    (f : ∀ n V, n < 31 → z = nI n → kd n = 1 → (∀ m, m < 31 → kd m = 2 → tc_Q so lf rt V m) → (∀ m, m < 31 → kd m ≠ 2 → V m = upd va n x m) → post 0 (kd, so, lf, rt, pa, V)) :
    wpX_set post (kd, so, lf, rt, pa, va) z x := by
  unfold wpX_set
  dsimp only
  refine tx_isLeaf (fun w => br_f tc_n10 ?_) (fun w => br_t rfl (g w))
  obtain ⟨n, hn, e, kn⟩ := w
  subst e
  refine ⟨tc_in hn, ?_⟩
  rw [tc_cl hn]
  refine nm_e ⟨tc_in hn, tx_refresh T hs ?_ ?_ (fun V h1 h2 => f n V hn rfl kn h1 h2)⟩
  · rcases tc_pa T hn (by rw [kn]; exact tc_n10) with ⟨_, h⟩ | ⟨_, p, hp, kp, ep, _⟩
    · exact Or.inl h
    · exact Or.inr ⟨p, hp, ep, kp⟩
  · intro m hm km q
    obtain ⟨c, d, M⟩ := T.2.2.2.2.1 m hm km
    exact tc_keep M (by intro w; rw [w, kn] at km; exact tc_n12 km) q (E m hm km)
theorem tx_setSort {post : Int32 → SX → Prop} {kd so lf rt pa va : Nat → Int32} {D : Nat → Nat} (T : tc_T kd lf rt pa D) (hs : ∀ m, so m = 0 ∨ so m = 1 ∨ so m = 2 ∨ so m = 3)
    (E : ∀ m, m < 31 → kd m = 2 → tc_Q so lf rt va m) {z x : Int32} (g : ¬ tc_N kd z 2 → post (-1) (kd, so, lf, rt, pa, va))
    (f : ∀ n V, n < 31 → z = nI n → kd n = 2 → (∀ m, m < 31 → kd m = 2 → tc_Q (upd so n (x &&& 3)) lf rt V m) → (∀ m, m < 31 → kd m ≠ 2 → V m = va m) → post 0 (kd, upd so n (x &&& 3), lf, rt, pa, V)) :
    wpX_setSort post (kd, so, lf, rt, pa, va) z x := by
  unfold wpX_setSort
  dsimp only
  refine tx_isJoint (fun w => br_f tc_n10 ?_) (fun w => br_t rfl (g w))
  obtain ⟨n, hn, e, kn⟩ := w
  subst e
  refine ⟨tc_in hn, ?_⟩
  rw [tc_cl hn]
  refine nm_e (tx_refresh T (tc_so hs n x) (Or.inr ⟨n, hn, rfl, kn⟩) ?_ (fun V h1 h2 => f n V hn rfl kn h1 h2))
  intro m hm km q
  have mn : m ≠ n := fun w => q (by rw [w])
  have Em := E m hm km
  unfold tc_Q at Em ⊢
  rw [pk_un mn]
  exact Em
theorem tx_turn {post : Int32 → SX → Prop} {kd so lf rt pa va : Nat → Int32} {D : Nat → Nat} (T : tc_T kd lf rt pa D) (hs : ∀ m, so m = 0 ∨ so m = 1 ∨ so m = 2 ∨ so m = 3)
    (E : ∀ m, m < 31 → kd m = 2 → tc_Q so lf rt va m) {z : Int32} (g : ¬ tc_N kd z 2 → post (-1) (kd, so, lf, rt, pa, va))
    (f : ∀ n V, n < 31 → z = nI n → kd n = 2 → (∀ m, m < 31 → kd m = 2 → tc_Q so (upd lf n (rt n)) (upd rt n (lf n)) V m) → (∀ m, m < 31 → kd m ≠ 2 → V m = va m) → post 0 (kd, so, upd lf n (rt n), upd rt n (lf n), pa, V)) :
    wpX_turn post (kd, so, lf, rt, pa, va) z := by
  unfold wpX_turn
  dsimp only
  refine tx_isJoint (fun w => br_f tc_n10 ?_) (fun w => br_t rfl (g w))
  obtain ⟨n, hn, e, kn⟩ := w
  subst e
  refine ⟨tc_in hn, ?_⟩
  rw [tc_cl hn]
  refine nm_e ⟨tc_in hn, tc_in hn, nm_e ⟨tc_in hn, nm_e (tx_refresh (tc_Tturn T hn kn) hs (Or.inr ⟨n, hn, rfl, kn⟩) ?_ (fun V h1 h2 => f n V hn rfl kn h1 h2))⟩⟩
  intro m hm km q
  have mn : m ≠ n := fun w => q (by rw [w])
  have Em := E m hm km
  unfold tc_Q at Em ⊢
  rw [pk_un mn, pk_un mn]
  exact Em
theorem ty_slope {post : Int32 → SY → Prop} {kd so lf rt pa va th jo wo kn re V : Nat → Int32} {D : Nat → Nat} (R : tc_R kd so lf rt pa va th jo wo D) {n : Nat} {p : Int32} (hn : n < 31) (k1 : kd n = 1)
    (S : tc_S kd so lf rt pa va V D n 0 p)
    (F : ∀ wo' kn re, (∀ m, wo' m = wo m) → post p (th, jo, wo', so, lf, rt, kn, re)) : wpY_slope post (th, jo, wo, so, lf, rt, kn, re) (nI n) := by
  have C := tc_RC R
  obtain ⟨T, E, hs, c0, c1, c2⟩ := R
  have k0 : kd 0 ≠ 0 := T.2.1
  have hin : vp_in (nI n) 31 := tc_in hn
  unfold wpY_slope
  dsimp only
  refine ty_isLeaf C (fun _ => br_f tc_n10 ?_) (fun w => absurd ⟨n, hn, rfl, k1⟩ w)
  refine ty_value (n := 0) T C hs E (fun m hm km => (c1 m hm km).2.2) (by omega) k0 (fun kn re => ⟨hin, hin, ?_⟩)
  dsimp only
  rw [tc_cl hn]
  refine nm_e (ty_value (n := 0) (V := V) T C hs (fun m hm km => tc_Se T S m hm km) ?_ (by omega) k0 (fun kn re => ⟨hin, hin, ?_⟩))
  · intro m hm km
    rw [S.2.2.2 m hm km]
    by_cases e : m = n
    · rw [e, pk_us, pk_us, (c1 n hn k1).2.2]
    · rw [pk_un e, pk_un e]; exact (c1 m hm km).2.2
  · dsimp only
    have e : V 0 - va 0 = p := by rw [S.1]; grind
    rw [e]
    refine nm_e (F _ kn re ?_)
    intro m
    by_cases w : m = n
    · rw [w, pk_us, pk_us]; grind
    · rw [pk_un w, pk_un w]
end
section
/-- the two sides hold the same sorts and children; the component's kinds say what is there and what is a joint; the leaves' values agree; the component's values solve the joints' equations in a tree -/
def i_Rel (_ : Nat) (u : SX) (v : SY) : Prop := ∃ kd so lf rt pa va th jo wo kn re : Nat → Int32, ∃ D : Nat → Nat, u = (kd, so, lf, rt, pa, va) ∧ v = (th, jo, wo, so, lf, rt, kn, re) ∧ tc_R kd so lf rt pa va th jo wo D
theorem i_up {k : Nat} {u : SX} {v : SY} (h : i_Rel k u v) : i_Rel (k + 5) u v := h
theorem tc_mkR {k : Nat} {kd so lf rt pa va th jo wo kn re : Nat → Int32} {D : Nat → Nat} (R : tc_R kd so lf rt pa va th jo wo D) : i_Rel k (kd, so, lf, rt, pa, va) (th, jo, wo, so, lf, rt, kn, re) :=
  ⟨kd, so, lf, rt, pa, va, th, jo, wo, kn, re, D, rfl, rfl, R⟩
theorem tc_R0 : tc_R (upd (fun _ => 0) 0 1) (fun _ => 0) (fun _ => 0) (fun _ => 0) (upd (fun _ => 0) 0 (-1)) (upd (fun _ => 0) 0 0) (upd (fun _ => 0) 0 1) (fun _ => 0) (fun _ => 0) (fun _ => 0) := by
  have k0 : ∀ m, m ≠ 0 → upd (fun _ => 0) 0 1 m = 0 := fun m h => pk_un h
  have k2 : ∀ m, upd (fun _ => 0) 0 1 m ≠ 2 := by
    intro m h
    by_cases e : m = 0
    · rw [e, pk_us] at h; exact tc_n12 h
    · rw [k0 m e] at h; exact tc_n02 h
  refine ⟨⟨?_, ?_, pk_us, rfl, fun m _ h => absurd h (k2 m), fun c _ h z => absurd (k0 c z) h⟩, fun m _ h => absurd h (k2 m), fun _ => Or.inl rfl, ?_, ?_, fun m _ h => absurd h (k2 m)⟩
  · intro m _
    by_cases e : m = 0
    · rw [e]; exact Or.inr (Or.inl pk_us)
    · exact Or.inl (k0 m e)
  · rw [pk_us]; exact tc_n10
  · intro m _ h; exact h
  · intro m _ h
    have e : m = 0 := by
      by_cases e : m = 0
      · exact e
      · rw [k0 m e] at h; exact absurd h tc_n01
    rw [e]
    exact ⟨pk_us, rfl, pk_us.symm⟩
theorem i_vc0 : wpX_init (fun u => wpY_init (fun v => i_Rel 0 u v)) := by
  unfold wpX_init
  refine tx_mk (n := 0) (by omega) ?_
  dsimp only
  unfold wpY_init
  exact nm_e (tc_mkR tc_R0)
theorem i_vc_grow {k : Nat} {u : SX} {v : SY} (I : i_Rel k u v) (hk : k + 5 ≤ 2560) (v1 : Int32) (v2 : Int32) (v3 : Int32) (v4 : Int32) : wpX_grow (fun r u' => wpY_grow (fun r' v' => r' = r ∧ i_Rel (k + 5) u' v') v v1 v2 v3 v4) u v1 v2 v3 v4 := by
  obtain ⟨kd, so, lf, rt, pa, va, th, jo, wo, kn, re, D, rfl, rfl, R⟩ := I
  have C := tc_RC R
  refine tx_grow R.1 R.2.2.1 R.2.1 (fun h => ty_grow0 C h ⟨rfl, tc_mkR R⟩) ?_
  intro n l r V e hn lr hr kn1 kl kr ml mr E hV
  subst e
  exact ty_grow C hn lr hr kn1 kl kr ml mr ⟨rfl, tc_mkR (tc_Rgrow R hn (by omega) hr (by omega) kn1 kl kr E hV)⟩
theorem i_vc_shrink {k : Nat} {u : SX} {v : SY} (I : i_Rel k u v) (hk : k + 5 ≤ 2560) (v1 : Int32) : wpX_shrink (fun r u' => wpY_shrink (fun r' v' => r' = r ∧ i_Rel (k + 5) u' v') v v1) u v1 := by
  obtain ⟨kd, so, lf, rt, pa, va, th, jo, wo, kn, re, D, rfl, rfl, R⟩ := I
  have C := tc_RC R
  refine tx_shrink R.1 (fun h => ty_shrink0 C h ⟨rfl, tc_mkR R⟩) ?_ ?_
  · intro n a b hn e k2 J h
    subst e
    exact ty_shrink1 C hn k2 J h ⟨rfl, tc_mkR R⟩
  · intro n a b hn e k2 J ka kb
    subst e
    exact ty_shrink C R.2.2.1 R.2.1 (fun m hm km => (R.2.2.2.2.1 m hm km).2.2) hn k2 J ka kb ⟨rfl, tc_mkR (tc_Rshrink R hn k2 J ka kb)⟩
theorem i_vc_set {k : Nat} {u : SX} {v : SY} (I : i_Rel k u v) (hk : k + 5 ≤ 2560) (v1 : Int32) (v2 : Int32) : wpX_set (fun r u' => wpY_set (fun r' v' => r' = r ∧ i_Rel (k + 5) u' v') v v1 v2) u v1 v2 := by
  obtain ⟨kd, so, lf, rt, pa, va, th, jo, wo, kn, re, D, rfl, rfl, R⟩ := I
  have C := tc_RC R
  refine tx_set R.1 R.2.2.1 R.2.1 (fun h => ?_) ?_
  · unfold wpY_set
    dsimp only
    exact ty_isLeaf C (fun w => absurd w h) (fun _ => br_t rfl ⟨rfl, tc_mkR R⟩)
  · intro n V hn e k1 E hV
    subst e
    unfold wpY_set
    dsimp only
    refine ty_isLeaf C (fun _ => br_f tc_n10 ⟨tc_in hn, ?_⟩) (fun w => absurd ⟨n, hn, rfl, k1⟩ w)
    rw [tc_cl hn]
    exact nm_e ⟨rfl, tc_mkR (tc_Rset R hn k1 E hV)⟩
theorem i_vc_setSort {k : Nat} {u : SX} {v : SY} (I : i_Rel k u v) (hk : k + 5 ≤ 2560) (v1 : Int32) (v2 : Int32) : wpX_setSort (fun r u' => wpY_setSort (fun r' v' => r' = r ∧ i_Rel (k + 5) u' v') v v1 v2) u v1 v2 := by
  obtain ⟨kd, so, lf, rt, pa, va, th, jo, wo, kn, re, D, rfl, rfl, R⟩ := I
  have C := tc_RC R
  refine tx_setSort R.1 R.2.2.1 R.2.1 (fun h => ?_) ?_
  · unfold wpY_setSort
    dsimp only
    exact ty_isJoint C (fun w => absurd w h) (fun _ => br_t rfl ⟨rfl, tc_mkR R⟩)
  · intro n V hn e k2 E hV
    subst e
    unfold wpY_setSort
    dsimp only
    refine ty_isJoint C (fun _ => br_f tc_n10 ⟨tc_in hn, ?_⟩) (fun w => absurd ⟨n, hn, rfl, k2⟩ w)
    rw [tc_cl hn]
    exact nm_e ⟨rfl, tc_mkR (tc_Rsort R E hV)⟩
theorem i_vc_turn {k : Nat} {u : SX} {v : SY} (I : i_Rel k u v) (hk : k + 5 ≤ 2560) (v1 : Int32) : wpX_turn (fun r u' => wpY_turn (fun r' v' => r' = r ∧ i_Rel (k + 5) u' v') v v1) u v1 := by
  obtain ⟨kd, so, lf, rt, pa, va, th, jo, wo, kn, re, D, rfl, rfl, R⟩ := I
  have C := tc_RC R
  refine tx_turn R.1 R.2.2.1 R.2.1 (fun h => ?_) ?_
  · unfold wpY_turn
    dsimp only
    exact ty_isJoint C (fun w => absurd w h) (fun _ => br_t rfl ⟨rfl, tc_mkR R⟩)
  · intro n V hn e k2 E hV
    subst e
    unfold wpY_turn
    dsimp only
    refine ty_isJoint C (fun _ => br_f tc_n10 ⟨tc_in hn, ?_⟩) (fun w => absurd ⟨n, hn, rfl, k2⟩ w)
    rw [tc_cl hn]
    exact nm_e ⟨tc_in hn, tc_in hn, nm_e ⟨tc_in hn, nm_e ⟨rfl, tc_mkR (tc_Rturn R hn k2 E hV)⟩⟩⟩
theorem i_vc_value {k : Nat} {u : SX} {v : SY} (I : i_Rel k u v) (hk : k + 5 ≤ 2560) (v1 : Int32) : wpX_value (fun r => wpY_value (fun r' v' => r' = r ∧ i_Rel (k + 5) u v') v v1) u v1 := by
  obtain ⟨kd, so, lf, rt, pa, va, th, jo, wo, kn, re, D, rfl, rfl, R⟩ := I
  have C := tc_RC R
  unfold wpX_value
  dsimp only
  refine tx_isThere (fun j hj e kj => br_f tc_n10 ?_) (fun h => br_t rfl (ty_value0 C h ⟨rfl, tc_mkR R⟩))
  subst e
  refine ⟨tc_in hj, ?_⟩
  rw [tc_cl hj]
  exact ty_value R.1 C R.2.2.1 R.2.1 (fun m hm km => (R.2.2.2.2.1 m hm km).2.2) hj kj (fun kn re => ⟨rfl, tc_mkR R⟩)
theorem i_vc_slope {k : Nat} {u : SX} {v : SY} (I : i_Rel k u v) (hk : k + 5 ≤ 2560) (v1 : Int32) : wpX_slope (fun r => wpY_slope (fun r' v' => r' = r ∧ i_Rel (k + 5) u v') v v1) u v1 := by
  obtain ⟨kd, so, lf, rt, pa, va, th, jo, wo, kn, re, D, rfl, rfl, R⟩ := I
  have C := tc_RC R
  refine tx_slope R.1 R.2.2.1 R.2.1 (fun h => ?_) ?_
  · unfold wpY_slope
    dsimp only
    exact ty_isLeaf C (fun w => absurd w h) (fun _ => br_t rfl ⟨rfl, tc_mkR R⟩)
  · intro n p V hn e k1 S
    subst e
    refine ty_slope R hn k1 S (fun wo' kn re h => ⟨rfl, tc_mkR (D := D) ?_⟩)
    have e : wo' = wo := funext h
    rw [e]
    exact R
theorem i_vc_left {k : Nat} {u : SX} {v : SY} (I : i_Rel k u v) (hk : k + 5 ≤ 2560) (v1 : Int32) : wpX_left (fun r => wpY_left (fun r' => r' = r ∧ i_Rel (k + 5) u v) v v1) u v1 := by
  obtain ⟨kd, so, lf, rt, pa, va, th, jo, wo, kn, re, D, rfl, rfl, R⟩ := I
  have C := tc_RC R
  unfold wpX_left
  dsimp only
  refine tx_isJoint (fun w => br_f tc_n10 ?_) (fun w => br_t rfl ?_)
  · obtain ⟨n, hn, e, k2⟩ := w
    subst e
    refine ⟨tc_in hn, ?_⟩
    unfold wpY_left
    dsimp only
    exact ty_isJoint C (fun _ => br_f tc_n10 ⟨tc_in hn, rfl, tc_mkR R⟩) (fun w => absurd ⟨n, hn, rfl, k2⟩ w)
  · unfold wpY_left
    dsimp only
    exact ty_isJoint C (fun z => absurd z w) (fun _ => br_t rfl ⟨rfl, tc_mkR R⟩)
theorem i_vc_right {k : Nat} {u : SX} {v : SY} (I : i_Rel k u v) (hk : k + 5 ≤ 2560) (v1 : Int32) : wpX_right (fun r => wpY_right (fun r' => r' = r ∧ i_Rel (k + 5) u v) v v1) u v1 := by
  obtain ⟨kd, so, lf, rt, pa, va, th, jo, wo, kn, re, D, rfl, rfl, R⟩ := I
  have C := tc_RC R
  unfold wpX_right
  dsimp only
  refine tx_isJoint (fun w => br_f tc_n10 ?_) (fun w => br_t rfl ?_)
  · obtain ⟨n, hn, e, k2⟩ := w
    subst e
    refine ⟨tc_in hn, ?_⟩
    unfold wpY_right
    dsimp only
    exact ty_isJoint C (fun _ => br_f tc_n10 ⟨tc_in hn, rfl, tc_mkR R⟩) (fun w => absurd ⟨n, hn, rfl, k2⟩ w)
  · unfold wpY_right
    dsimp only
    exact ty_isJoint C (fun z => absurd z w) (fun _ => br_t rfl ⟨rfl, tc_mkR R⟩)
theorem i_vc_joints {k : Nat} {u : SX} {v : SY} (I : i_Rel k u v) (hk : k + 5 ≤ 2560) : wpX_joints (fun r => wpY_joints (fun r' => r' = r ∧ i_Rel (k + 5) u v) v) u := by
  obtain ⟨kd, so, lf, rt, pa, va, th, jo, wo, kn, re, D, rfl, rfl, R⟩ := I
  have C := tc_RC R
  unfold wpX_joints
  dsimp only
  refine ⟨31 + 1, tx_jgo ?_ 31 0 rfl⟩
  unfold wpY_joints
  dsimp only
  exact ⟨31 + 1, ty_jgo C ⟨rfl, tc_mkR R⟩ 31 0 rfl⟩
end
