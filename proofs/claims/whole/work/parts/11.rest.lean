theorem tx_set {post : Int32 → SX → Prop} {kd so lf rt pa va : Nat → Int32} {D : Nat → Nat} (T : tc_T kd lf rt pa D) (hs : ∀ m, so m = 0 ∨ so m = 1 ∨ so m = 2 ∨ so m = 3)
    (E : ∀ m, m < 31 → kd m = 2 → tc_Q so lf rt va m) {z x : Int32} (g : ¬ tc_N kd z 1 → post (-1) (kd, so, lf, rt, pa, va))
    (f : ∀ n V, n < 31 → z = nI n → kd n = 1 → (∀ m, m < 31 → kd m = 2 → tc_Q so lf rt V m) → (∀ m, m < 31 → kd m ≠ 2 → V m = upd va n x m) → post 0 (kd, so, lf, rt, pa, V)) :
    wpX_set post (kd, so, lf, rt, pa, va) z x := by
  unfold wpX_set
  dsimp only
  refine tx_isLeaf (fun w => br_f tc_n10 ?_) (fun w => br_t rfl (g w))
  obtain ⟨n, hn, e, kn⟩ := w
  subst e
  refine ⟨tc_in hn, ?_⟩
  rw [tc_cl hn]
  refine nm_e ⟨tc_in hn, tx_refresh T hs ?_ ?_ (fun V h1 h2 => f n V hn rfl kn h1 h2)⟩
  · rcases tc_pa T hn (by rw [kn]; exact tc_n10) with ⟨_, h⟩ | ⟨_, p, hp, kp, ep, _⟩
    · exact Or.inl h
    · exact Or.inr ⟨p, hp, ep, kp⟩
  · intro m hm km q
    obtain ⟨c, d, M⟩ := T.2.2.2.2.1 m hm km
    exact tc_keep M (by intro w; rw [w, kn] at km; exact tc_n12 km) q (E m hm km)
theorem tx_setSort {post : Int32 → SX → Prop} {kd so lf rt pa va : Nat → Int32} {D : Nat → Nat} (T : tc_T kd lf rt pa D) (hs : ∀ m, so m = 0 ∨ so m = 1 ∨ so m = 2 ∨ so m = 3)
    (E : ∀ m, m < 31 → kd m = 2 → tc_Q so lf rt va m) {z x : Int32} (g : ¬ tc_N kd z 2 → post (-1) (kd, so, lf, rt, pa, va))
    (f : ∀ n V, n < 31 → z = nI n → kd n = 2 → (∀ m, m < 31 → kd m = 2 → tc_Q (upd so n (x &&& 3)) lf rt V m) → (∀ m, m < 31 → kd m ≠ 2 → V m = va m) → post 0 (kd, upd so n (x &&& 3), lf, rt, pa, V)) :
    wpX_setSort post (kd, so, lf, rt, pa, va) z x := by
  unfold wpX_setSort
  dsimp only
  refine tx_isJoint (fun w => br_f tc_n10 ?_) (fun w => br_t rfl (g w))
  obtain ⟨n, hn, e, kn⟩ := w
  subst e
  refine ⟨tc_in hn, ?_⟩
  rw [tc_cl hn]
  refine nm_e (tx_refresh T (tc_so hs n x) (Or.inr ⟨n, hn, rfl, kn⟩) ?_ (fun V h1 h2 => f n V hn rfl kn h1 h2))
  intro m hm km q
  have mn : m ≠ n := fun w => q (by rw [w])
  have Em := E m hm km
  unfold tc_Q at Em ⊢
  rw [pk_un mn]
  exact Em
theorem tx_turn {post : Int32 → SX → Prop} {kd so lf rt pa va : Nat → Int32} {D : Nat → Nat} (T : tc_T kd lf rt pa D) (hs : ∀ m, so m = 0 ∨ so m = 1 ∨ so m = 2 ∨ so m = 3)
    (E : ∀ m, m < 31 → kd m = 2 → tc_Q so lf rt va m) {z : Int32} (g : ¬ tc_N kd z 2 → post (-1) (kd, so, lf, rt, pa, va))
    (f : ∀ n V, n < 31 → z = nI n → kd n = 2 → (∀ m, m < 31 → kd m = 2 → tc_Q so (upd lf n (rt n)) (upd rt n (lf n)) V m) → (∀ m, m < 31 → kd m ≠ 2 → V m = va m) → post 0 (kd, so, upd lf n (rt n), upd rt n (lf n), pa, V)) :
    wpX_turn post (kd, so, lf, rt, pa, va) z := by
  unfold wpX_turn
  dsimp only
  refine tx_isJoint (fun w => br_f tc_n10 ?_) (fun w => br_t rfl (g w))
  obtain ⟨n, hn, e, kn⟩ := w
  subst e
  refine ⟨tc_in hn, ?_⟩
  rw [tc_cl hn]
  refine nm_e ⟨tc_in hn, tc_in hn, nm_e ⟨tc_in hn, nm_e (tx_refresh (tc_Tturn T hn kn) hs (Or.inr ⟨n, hn, rfl, kn⟩) ?_ (fun V h1 h2 => f n V hn rfl kn h1 h2))⟩⟩
  intro m hm km q
  have mn : m ≠ n := fun w => q (by rw [w])
  have Em := E m hm km
  unfold tc_Q at Em ⊢
  rw [pk_un mn, pk_un mn]
  exact Em
theorem ty_slope {post : Int32 → SY → Prop} {kd so lf rt pa va th jo wo kn re V : Nat → Int32} {D : Nat → Nat} (R : tc_R kd so lf rt pa va th jo wo D) {n : Nat} {p : Int32} (hn : n < 31) (k1 : kd n = 1)
    (S : tc_S kd so lf rt pa va V D n 0 p)
    (F : ∀ wo' kn re, (∀ m, wo' m = wo m) → post p (th, jo, wo', so, lf, rt, kn, re)) : wpY_slope post (th, jo, wo, so, lf, rt, kn, re) (nI n) := by
  have C := tc_RC R
  obtain ⟨T, E, hs, c0, c1, c2⟩ := R
  have k0 : kd 0 ≠ 0 := T.2.1
  have hin : vp_in (nI n) 31 := tc_in hn
  unfold wpY_slope
  dsimp only
  refine ty_isLeaf C (fun _ => br_f tc_n10 ?_) (fun w => absurd ⟨n, hn, rfl, k1⟩ w)
  refine ty_value (n := 0) T C hs E (fun m hm km => (c1 m hm km).2.2) (by omega) k0 (fun kn re => ⟨hin, hin, ?_⟩)
  dsimp only
  rw [tc_cl hn]
  refine nm_e (ty_value (n := 0) (V := V) T C hs (fun m hm km => tc_Se T S m hm km) ?_ (by omega) k0 (fun kn re => ⟨hin, hin, ?_⟩))
  · intro m hm km
    rw [S.2.2.2 m hm km]
    by_cases e : m = n
    · rw [e, pk_us, pk_us, (c1 n hn k1).2.2]
    · rw [pk_un e, pk_un e]; exact (c1 m hm km).2.2
  · dsimp only
    have e : V 0 - va 0 = p := by rw [S.1]; grind
    rw [e]
    refine nm_e (F _ kn re ?_)
    intro m
    by_cases w : m = n
    · rw [w, pk_us, pk_us]; grind
    · rw [pk_un w, pk_un w]
