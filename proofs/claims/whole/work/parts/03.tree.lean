theorem tc_n10 : ¬ (1 : Int32) = 0 := by decide
theorem tc_n20 : ¬ (2 : Int32) = 0 := by decide
theorem tc_n12 : ¬ (1 : Int32) = 2 := by decide
theorem tc_n21 : ¬ (2 : Int32) = 1 := by decide
theorem tc_n01 : ¬ (0 : Int32) = 1 := by decide
theorem tc_n02 : ¬ (0 : Int32) = 2 := by decide
/-- grow keeps the tree -/
theorem tc_Tgrow {kd lf rt pa : Nat → Int32} {D : Nat → Nat} (T : tc_T kd lf rt pa D) {n l r : Nat} (hn : n < 31) (hl : l < 31) (hr : r < 31) (ne : l ≠ r) (kn : kd n = 1) (kl : kd l = 0) (kr : kd r = 0) :
    tc_T (upd (upd (upd kd l 1) r 1) n 2) (upd lf n (nI l)) (upd rt n (nI r)) (upd (upd pa l (nI n)) r (nI n)) (fun m => if m = l ∨ m = r then D n + 1 else D m) := by
  obtain ⟨h3, k0, p0, d0, hJ, hP⟩ := T
  have nl : n ≠ l := by intro e; rw [e, kl] at kn; exact tc_n01 kn
  have nr : n ≠ r := by intro e; rw [e, kr] at kn; exact tc_n01 kn
  have l0 : 0 ≠ l := by intro e; rw [← e] at kl; exact k0 kl
  have r0 : 0 ≠ r := by intro e; rw [← e] at kr; exact k0 kr
  obtain ⟨K, hK⟩ : ∃ K, K = upd (upd (upd kd l 1) r 1) n 2 := ⟨_, rfl⟩
  obtain ⟨D', hD⟩ : ∃ D' : Nat → Nat, D' = fun m => if m = l ∨ m = r then D n + 1 else D m := ⟨_, rfl⟩
  have kN : K n = 2 := by rw [hK]; exact pk_us
  have kR : K r = 1 := by rw [hK]; exact (pk_un nr.symm).trans pk_us
  have kL : K l = 1 := by rw [hK]; exact (pk_un nl.symm).trans ((pk_un ne).trans pk_us)
  have kO : ∀ m, m ≠ n → m ≠ l → m ≠ r → K m = kd m := by intro m a b c; rw [hK]; exact (pk_un a).trans ((pk_un c).trans (pk_un b))
  have dL : D' l = D n + 1 := by rw [hD]; exact if_pos (Or.inl rfl)
  have dR : D' r = D n + 1 := by rw [hD]; exact if_pos (Or.inr rfl)
  have dO : ∀ m, m ≠ l → m ≠ r → D' m = D m := by intro m a b; rw [hD]; exact if_neg (fun z => z.elim a b)
  have kZ : ∀ m, kd m ≠ 0 → K m ≠ 0 := by
    intro m km
    by_cases e : m = n
    · rw [e, kN]; exact tc_n20
    · rw [kO m e (fun z => km (z ▸ kl)) (fun z => km (z ▸ kr))]; exact km
  rw [← hK, ← hD]
  refine ⟨?_, kZ 0 k0, ?_, ?_, ?_, ?_⟩
  · intro m hm
    by_cases e1 : m = n
    · exact Or.inr (Or.inr (e1 ▸ kN))
    · by_cases e2 : m = l
      · exact Or.inr (Or.inl (e2 ▸ kL))
      · by_cases e3 : m = r
        · exact Or.inr (Or.inl (e3 ▸ kR))
        · rw [kO m e1 e2 e3]; exact h3 m hm
  · exact (pk_un r0).trans ((pk_un l0).trans p0)
  · rw [dO 0 l0 r0]; exact d0
  · intro m hm km
    by_cases e : m = n
    · subst e
      refine ⟨l, r, hl, hr, ne, pk_us, pk_us, ?_, ?_, ?_, pk_us, ?_, ?_⟩
      · rw [kL]; exact tc_n10
      · rw [kR]; exact tc_n10
      · exact (pk_un ne).trans pk_us
      · rw [dL, dO m nl nr]
      · rw [dR, dO m nl nr]
    · have ml : m ≠ l := by intro z; rw [z, kL] at km; exact tc_n12 km
      have mr : m ≠ r := by intro z; rw [z, kR] at km; exact tc_n12 km
      rw [kO m e ml mr] at km
      obtain ⟨a, b, ha, hb, ab, el, er, ka, kb, qa, qb, da, db⟩ := hJ m hm km
      have al : a ≠ l := fun z => ka (z ▸ kl)
      have ar : a ≠ r := fun z => ka (z ▸ kr)
      have bl : b ≠ l := fun z => kb (z ▸ kl)
      have br : b ≠ r := fun z => kb (z ▸ kr)
      refine ⟨a, b, ha, hb, ab, (pk_un e).trans el, (pk_un e).trans er, kZ a ka, kZ b kb, ?_, ?_, ?_, ?_⟩
      · exact (pk_un ar).trans ((pk_un al).trans qa)
      · exact (pk_un br).trans ((pk_un bl).trans qb)
      · rw [dO a al ar, dO m ml mr]; exact da
      · rw [dO b bl br, dO m ml mr]; exact db
  · intro c hc kc c0
    by_cases e2 : c = l
    · exact ⟨n, hn, kN, Or.inl (by rw [e2]; exact pk_us)⟩
    · by_cases e3 : c = r
      · exact ⟨n, hn, kN, Or.inr (by rw [e3]; exact pk_us)⟩
      · have kc' : kd c ≠ 0 := by
          by_cases e1 : c = n
          · rw [e1, kn]; exact tc_n10
          · rw [kO c e1 e2 e3] at kc; exact kc
        obtain ⟨p, hp, kp, h⟩ := hP c hc kc' c0
        have pn : p ≠ n := by intro z; rw [z, kn] at kp; exact tc_n12 kp
        have pl : p ≠ l := by intro z; rw [z, kl] at kp; exact tc_n02 kp
        have pr : p ≠ r := by intro z; rw [z, kr] at kp; exact tc_n02 kp
        refine ⟨p, hp, (kO p pn pl pr).trans kp, ?_⟩
        rcases h with h | h
        · exact Or.inl ((pk_un pn).trans h)
        · exact Or.inr ((pk_un pn).trans h)
/-- and the equations of the other joints -/
theorem tc_Egrow {kd so lf rt pa va : Nat → Int32} {D : Nat → Nat} (T : tc_T kd lf rt pa D) {n l r : Nat} {s x y : Int32} (ne : l ≠ r) (kn : kd n = 1) (kl : kd l = 0) (kr : kd r = 0)
    (E : ∀ m, m < 31 → kd m = 2 → tc_Q so lf rt va m) (m : Nat) (hm : m < 31) (km : upd (upd (upd kd l 1) r 1) n 2 m = 2) (e : m ≠ n) :
    tc_Q (upd so n s) (upd lf n (nI l)) (upd rt n (nI r)) (upd (upd va l x) r y) m := by
  obtain ⟨h3, k0, p0, d0, hJ, hP⟩ := T
  rw [pk_un e] at km
  have mr : m ≠ r := by intro z; rw [z, pk_us] at km; exact tc_n12 km
  rw [pk_un mr] at km
  have ml : m ≠ l := by intro z; rw [z, pk_us] at km; exact tc_n12 km
  rw [pk_un ml] at km
  have Em := E m hm km
  obtain ⟨a, b, ha, hb, ab, el, er, ka, kb, _⟩ := hJ m hm km
  have al : a ≠ l := fun z => ka (z ▸ kl)
  have ar : a ≠ r := fun z => ka (z ▸ kr)
  have bl : b ≠ l := fun z => kb (z ▸ kl)
  have br : b ≠ r := fun z => kb (z ▸ kr)
  unfold tc_Q at Em ⊢
  rw [el, er, tc_cl ha, tc_cl hb] at Em
  rw [pk_un e, pk_un e, pk_un e, el, er, tc_cl ha, tc_cl hb, pk_un mr, pk_un ml, pk_un ar, pk_un al, pk_un br, pk_un bl]
  exact Em
/-- shrink keeps the tree -/
theorem tc_Tshrink {kd lf rt pa : Nat → Int32} {D : Nat → Nat} (T : tc_T kd lf rt pa D) {n a b : Nat} (hn : n < 31) (kn : kd n = 2) (J : tc_J kd lf rt pa D n a b) (ka1 : kd a = 1) (kb1 : kd b = 1) :
    tc_T (upd (upd (upd kd a 0) b 0) n 1) lf rt pa D := by
  obtain ⟨h3, k0, p0, d0, hJ, hP⟩ := T
  have J0 := J
  obtain ⟨ha, hb, ab, el, er, ka, kb, qa, qb, da, db⟩ := J
  have na : n ≠ a := by intro e; rw [e] at da; omega
  have nb : n ≠ b := by intro e; rw [e] at db; omega
  have a0 : 0 ≠ a := by intro e; rw [← e] at da; omega
  have b0 : 0 ≠ b := by intro e; rw [← e] at db; omega
  obtain ⟨K, hK⟩ : ∃ K, K = upd (upd (upd kd a 0) b 0) n 1 := ⟨_, rfl⟩
  have kN : K n = 1 := by rw [hK]; exact pk_us
  have kB : K b = 0 := by rw [hK]; exact (pk_un nb.symm).trans pk_us
  have kA : K a = 0 := by rw [hK]; exact (pk_un na.symm).trans ((pk_un ab).trans pk_us)
  have kO : ∀ m, m ≠ n → m ≠ a → m ≠ b → K m = kd m := by intro m x y z; rw [hK]; exact (pk_un x).trans ((pk_un z).trans (pk_un y))
  have kZ : ∀ m, kd m ≠ 0 → m ≠ a → m ≠ b → K m ≠ 0 := by
    intro m km ma mb
    by_cases e : m = n
    · rw [e, kN]; exact tc_n10
    · rw [kO m e ma mb]; exact km
  rw [← hK]
  refine ⟨?_, kZ 0 k0 a0 b0, p0, d0, ?_, ?_⟩
  · intro m hm
    by_cases e1 : m = n
    · exact Or.inr (Or.inl (e1 ▸ kN))
    · by_cases e2 : m = a
      · exact Or.inl (e2 ▸ kA)
      · by_cases e3 : m = b
        · exact Or.inl (e3 ▸ kB)
        · rw [kO m e1 e2 e3]; exact h3 m hm
  · intro m hm km
    have mn : m ≠ n := by intro z; rw [z, kN] at km; exact tc_n12 km
    have ma : m ≠ a := by intro z; rw [z, kA] at km; exact tc_n02 km
    have mb : m ≠ b := by intro z; rw [z, kB] at km; exact tc_n02 km
    rw [kO m mn ma mb] at km
    obtain ⟨c, d, M⟩ := hJ m hm km
    obtain ⟨z1, z2, z3, z4⟩ := tc_one hm hn M J0 mn
    obtain ⟨hc, hd, cd, el', er', kc, kd', r⟩ := M
    exact ⟨c, d, hc, hd, cd, el', er', kZ c kc z1 z2, kZ d kd' z3 z4, r⟩
  · intro c hc kc c0
    have ca : c ≠ a := fun z => kc (z ▸ kA)
    have cb : c ≠ b := fun z => kc (z ▸ kB)
    have kc' : kd c ≠ 0 := by
      by_cases e1 : c = n
      · rw [e1, kn]; exact tc_n20
      · rw [kO c e1 ca cb] at kc; exact kc
    obtain ⟨p, hp, kp, h⟩ := hP c hc kc' c0
    have pn : p ≠ n := by
      intro z
      rw [z, el, er] at h
      rcases h with h | h
      · exact ca (tc_inj hc ha h.symm)
      · exact cb (tc_inj hc hb h.symm)
    have pa' : p ≠ a := by intro z; rw [z, ka1] at kp; exact tc_n12 kp
    have pb' : p ≠ b := by intro z; rw [z, kb1] at kp; exact tc_n12 kp
    exact ⟨p, hp, (kO p pn pa' pb').trans kp, h⟩
/-- turn keeps the tree -/
theorem tc_Tturn {kd lf rt pa : Nat → Int32} {D : Nat → Nat} (T : tc_T kd lf rt pa D) {n : Nat} (hn : n < 31) (kn : kd n = 2) :
    tc_T kd (upd lf n (rt n)) (upd rt n (lf n)) pa D := by
  obtain ⟨h3, k0, p0, d0, hJ, hP⟩ := T
  refine ⟨h3, k0, p0, d0, ?_, ?_⟩
  · intro m hm km
    obtain ⟨a, b, ha, hb, ab, el, er, ka, kb, qa, qb, da, db⟩ := hJ m hm km
    by_cases e : m = n
    · subst e
      exact ⟨b, a, hb, ha, ab.symm, pk_us.trans er, pk_us.trans el, kb, ka, qb, qa, db, da⟩
    · exact ⟨a, b, ha, hb, ab, (pk_un e).trans el, (pk_un e).trans er, ka, kb, qa, qb, da, db⟩
  · intro c hc kc c0
    obtain ⟨p, hp, kp, h⟩ := hP c hc kc c0
    refine ⟨p, hp, kp, ?_⟩
    by_cases e : p = n
    · subst e
      rcases h with h | h
      · exact Or.inr (pk_us.trans h)
      · exact Or.inl (pk_us.trans h)
    · rcases h with h | h
      · exact Or.inl ((pk_un e).trans h)
      · exact Or.inr ((pk_un e).trans h)
/-- the relation, without what the reference works out anew each time -/
def tc_R (kd so lf rt pa va th jo wo : Nat → Int32) (D : Nat → Nat) : Prop :=
  tc_T kd lf rt pa D ∧ (∀ m, m < 31 → kd m = 2 → tc_Q so lf rt va m) ∧ (∀ m, so m = 0 ∨ so m = 1 ∨ so m = 2 ∨ so m = 3) ∧
  (∀ m, m < 31 → kd m = 0 → th m = 0) ∧ (∀ m, m < 31 → kd m = 1 → th m = 1 ∧ jo m = 0 ∧ wo m = va m) ∧ (∀ m, m < 31 → kd m = 2 → th m = 1 ∧ jo m = 1)
theorem tc_so {so : Nat → Int32} (h : ∀ m, so m = 0 ∨ so m = 1 ∨ so m = 2 ∨ so m = 3) (n : Nat) (x : Int32) (m : Nat) : upd so n (x &&& 3) m = 0 ∨ upd so n (x &&& 3) m = 1 ∨ upd so n (x &&& 3) m = 2 ∨ upd so n (x &&& 3) m = 3 := by
  by_cases e : m = n
  · subst e
    rw [pk_us]
    obtain ⟨j, hj, e⟩ := pk_andE x (m := 3) 2 (by decide)
    rw [e]
    have hj' : j < 4 := hj
    have : j = 0 ∨ j = 1 ∨ j = 2 ∨ j = 3 := by omega
    rcases this with h | h | h | h <;> subst h
    · exact Or.inl rfl
    · exact Or.inr (Or.inl rfl)
    · exact Or.inr (Or.inr (Or.inl rfl))
    · exact Or.inr (Or.inr (Or.inr rfl))
  · rw [pk_un e]; exact h m
theorem tc_Rgrow {kd so lf rt pa va th jo wo : Nat → Int32} {D : Nat → Nat} (R : tc_R kd so lf rt pa va th jo wo D) {n l r : Nat} {s x y : Int32} (hn : n < 31) (hl : l < 31) (hr : r < 31) (ne : l ≠ r) (kn : kd n = 1) (kl : kd l = 0) (kr : kd r = 0)
    {V : Nat → Int32} (E : ∀ m, m < 31 → upd (upd (upd kd l 1) r 1) n 2 m = 2 → tc_Q (upd so n (s &&& 3)) (upd lf n (nI l)) (upd rt n (nI r)) V m)
    (hV : ∀ m, m < 31 → upd (upd (upd kd l 1) r 1) n 2 m ≠ 2 → V m = upd (upd va l x) r y m) :
    tc_R (upd (upd (upd kd l 1) r 1) n 2) (upd so n (s &&& 3)) (upd lf n (nI l)) (upd rt n (nI r)) (upd (upd pa l (nI n)) r (nI n)) V
      (upd (upd th l 1) r 1) (upd (upd (upd jo l 0) r 0) n 1) (upd (upd wo l x) r y) (fun m => if m = l ∨ m = r then D n + 1 else D m) := by
  obtain ⟨T, _, hs, c0, c1, c2⟩ := R
  have nl : n ≠ l := by intro e; rw [e, kl] at kn; exact tc_n01 kn
  have nr : n ≠ r := by intro e; rw [e, kr] at kn; exact tc_n01 kn
  refine ⟨tc_Tgrow T hn hl hr ne kn kl kr, E, tc_so hs n s, ?_, ?_, ?_⟩
  · intro m hm km
    have mn : m ≠ n := by intro z; rw [z, pk_us] at km; exact tc_n20 km
    rw [pk_un mn] at km
    have mr : m ≠ r := by intro z; rw [z, pk_us] at km; exact tc_n10 km
    rw [pk_un mr] at km
    have ml : m ≠ l := by intro z; rw [z, pk_us] at km; exact tc_n10 km
    rw [pk_un ml] at km
    rw [pk_un mr, pk_un ml]
    exact c0 m hm km
  · intro m hm km
    have hVm := hV m hm (by rw [km]; exact tc_n12)
    rw [hVm]
    have mn : m ≠ n := by intro z; rw [z, pk_us] at km; exact tc_n21 km
    rw [pk_un mn] at km
    rw [pk_un (f := upd (upd jo l 0) r 0) mn]
    by_cases mr : m = r
    · subst mr; exact ⟨pk_us, pk_us, pk_us.trans pk_us.symm⟩
    · rw [pk_un mr] at km
      rw [pk_un mr, pk_un mr, pk_un mr, pk_un mr]
      by_cases ml : m = l
      · subst ml; exact ⟨pk_us, pk_us, pk_us.trans pk_us.symm⟩
      · rw [pk_un ml] at km
        rw [pk_un ml, pk_un ml, pk_un ml, pk_un ml]
        exact c1 m hm km
  · intro m hm km
    by_cases mn : m = n
    · subst mn
      exact ⟨by rw [pk_un nr, pk_un nl]; exact (c1 m hm kn).1, pk_us⟩
    · rw [pk_un mn] at km
      have mr : m ≠ r := by intro z; rw [z, pk_us] at km; exact tc_n12 km
      rw [pk_un mr] at km
      have ml : m ≠ l := by intro z; rw [z, pk_us] at km; exact tc_n12 km
      rw [pk_un ml] at km
      rw [pk_un mr, pk_un ml, pk_un mn, pk_un mr, pk_un ml]
      exact c2 m hm km
theorem tc_Rshrink {kd so lf rt pa va th jo wo : Nat → Int32} {D : Nat → Nat} (R : tc_R kd so lf rt pa va th jo wo D) {n a b : Nat} (hn : n < 31) (kn : kd n = 2) (J : tc_J kd lf rt pa D n a b) (ka1 : kd a = 1) (kb1 : kd b = 1) :
    tc_R (upd (upd (upd kd a 0) b 0) n 1) so lf rt pa va (upd (upd th a 0) b 0) (upd jo n 0) (upd wo n (va n)) D := by
  obtain ⟨T, E, hs, c0, c1, c2⟩ := R
  have J0 := J
  obtain ⟨ha, hb, ab, el, er, ka, kb, qa, qb, da, db⟩ := J
  have na : n ≠ a := by intro e; rw [e] at da; omega
  have nb : n ≠ b := by intro e; rw [e] at db; omega
  refine ⟨tc_Tshrink T hn kn J0 ka1 kb1, ?_, hs, ?_, ?_, ?_⟩
  · intro m hm km
    have mn : m ≠ n := by intro z; rw [z, pk_us] at km; exact tc_n12 km
    rw [pk_un mn] at km
    have mb : m ≠ b := by intro z; rw [z, pk_us] at km; exact tc_n02 km
    rw [pk_un mb] at km
    have ma : m ≠ a := by intro z; rw [z, pk_us] at km; exact tc_n02 km
    rw [pk_un ma] at km
    exact E m hm km
  · intro m hm km
    have mn : m ≠ n := by intro z; rw [z, pk_us] at km; exact tc_n10 km
    rw [pk_un mn] at km
    by_cases mb : m = b
    · rw [mb]; exact pk_us
    · rw [pk_un mb] at km
      rw [pk_un mb]
      by_cases ma : m = a
      · rw [ma]; exact pk_us
      · rw [pk_un ma] at km
        rw [pk_un ma]
        exact c0 m hm km
  · intro m hm km
    by_cases mn : m = n
    · subst mn
      exact ⟨by rw [pk_un nb, pk_un na]; exact (c2 m hm kn).1, pk_us, pk_us⟩
    · rw [pk_un mn] at km
      have mb : m ≠ b := by intro z; rw [z, pk_us] at km; exact tc_n01 km
      rw [pk_un mb] at km
      have ma : m ≠ a := by intro z; rw [z, pk_us] at km; exact tc_n01 km
      rw [pk_un ma] at km
      rw [pk_un mb, pk_un ma, pk_un mn, pk_un mn]
      exact c1 m hm km
  · intro m hm km
    have mn : m ≠ n := by intro z; rw [z, pk_us] at km; exact tc_n12 km
    rw [pk_un mn] at km
    have mb : m ≠ b := by intro z; rw [z, pk_us] at km; exact tc_n02 km
    rw [pk_un mb] at km
    have ma : m ≠ a := by intro z; rw [z, pk_us] at km; exact tc_n02 km
    rw [pk_un ma] at km
    rw [pk_un mb, pk_un ma, pk_un mn]
    exact c2 m hm km
/-- set, setSort, turn: the kinds stay -/
theorem tc_Rset {kd so lf rt pa va th jo wo : Nat → Int32} {D : Nat → Nat} (R : tc_R kd so lf rt pa va th jo wo D) {n : Nat} {x : Int32} (hn : n < 31) (kn : kd n = 1)
    {V : Nat → Int32} (E : ∀ m, m < 31 → kd m = 2 → tc_Q so lf rt V m) (hV : ∀ m, m < 31 → kd m ≠ 2 → V m = upd va n x m) :
    tc_R kd so lf rt pa V th jo (upd wo n x) D := by
  obtain ⟨T, _, hs, c0, c1, c2⟩ := R
  refine ⟨T, E, hs, c0, ?_, c2⟩
  intro m hm km
  obtain ⟨h1, h2, h3⟩ := c1 m hm km
  refine ⟨h1, h2, ?_⟩
  rw [hV m hm (by rw [km]; exact tc_n12)]
  by_cases mn : m = n
  · rw [mn, pk_us, pk_us]
  · rw [pk_un mn, pk_un mn]; exact h3
theorem tc_Rsort {kd so lf rt pa va th jo wo : Nat → Int32} {D : Nat → Nat} (R : tc_R kd so lf rt pa va th jo wo D) {n : Nat} {x : Int32}
    {V : Nat → Int32} (E : ∀ m, m < 31 → kd m = 2 → tc_Q (upd so n (x &&& 3)) lf rt V m) (hV : ∀ m, m < 31 → kd m ≠ 2 → V m = va m) :
    tc_R kd (upd so n (x &&& 3)) lf rt pa V th jo wo D := by
  obtain ⟨T, _, hs, c0, c1, c2⟩ := R
  refine ⟨T, E, tc_so hs n x, c0, ?_, c2⟩
  intro m hm km
  obtain ⟨h1, h2, h3⟩ := c1 m hm km
  exact ⟨h1, h2, h3.trans (hV m hm (by rw [km]; exact tc_n12)).symm⟩
theorem tc_Rturn {kd so lf rt pa va th jo wo : Nat → Int32} {D : Nat → Nat} (R : tc_R kd so lf rt pa va th jo wo D) {n : Nat} (hn : n < 31) (kn : kd n = 2)
    {V : Nat → Int32} (E : ∀ m, m < 31 → kd m = 2 → tc_Q so (upd lf n (rt n)) (upd rt n (lf n)) V m) (hV : ∀ m, m < 31 → kd m ≠ 2 → V m = va m) :
    tc_R kd so (upd lf n (rt n)) (upd rt n (lf n)) pa V th jo wo D := by
  obtain ⟨T, _, hs, c0, c1, c2⟩ := R
  refine ⟨tc_Tturn T hn kn, E, hs, c0, ?_, c2⟩
  intro m hm km
  obtain ⟨h1, h2, h3⟩ := c1 m hm km
  exact ⟨h1, h2, h3.trans (hV m hm (by rw [km]; exact tc_n12)).symm⟩
