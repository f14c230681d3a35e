theorem tx_shrink {post : Int32 → SX → Prop} {kd so lf rt pa va : Nat → Int32} {D : Nat → Nat} (T : tc_T kd lf rt pa D) {z : Int32}
    (g0 : ¬ tc_N kd z 2 → post (-1) (kd, so, lf, rt, pa, va))
    (g1 : ∀ n a b, n < 31 → z = nI n → kd n = 2 → tc_J kd lf rt pa D n a b → (¬ kd a = 1 ∨ ¬ kd b = 1) → post (-1) (kd, so, lf, rt, pa, va))
    (f : ∀ n a b, n < 31 → z = nI n → kd n = 2 → tc_J kd lf rt pa D n a b → kd a = 1 → kd b = 1 → post 0 (upd (upd (upd kd a 0) b 0) n 1, so, lf, rt, pa, va)) :
    wpX_shrink post (kd, so, lf, rt, pa, va) z := by
  unfold wpX_shrink
  dsimp only
  refine tx_isJoint (fun w => br_f tc_n10 ?_) (fun w => br_t rfl (g0 w))
  obtain ⟨n, hn, e, kn⟩ := w
  subst e
  obtain ⟨a, b, J⟩ := T.2.2.2.2.1 n hn kn
  have ha := J.1
  have hb := J.2.1
  refine ⟨tc_in hn, ?_⟩
  rw [tc_cl hn, J.2.2.2.1, J.2.2.2.2.1]
  refine nm_e ⟨tc_in hn, nm_e (tx_isLeaf (fun wa => br_f tc_n10 (tx_isLeaf (fun wb => br_f tc_n10 ⟨tc_in ha, ?_⟩) (fun wb => br_t rfl ?_))) (fun wa => br_t rfl ?_))⟩
  · obtain ⟨a', ha', ea, ka⟩ := wa
    obtain ⟨b', hb', eb, kb⟩ := wb
    rw [← tc_inj ha ha' ea] at ka
    rw [← tc_inj hb hb' eb] at kb
    rw [tc_cl ha, tc_cl hb]
    exact nm_e ⟨tc_in hb, nm_e ⟨tc_in hn, nm_e (f n a b hn rfl kn J ka kb)⟩⟩
  · exact g1 n a b hn rfl kn J (Or.inr (fun k => wb ⟨b, hb, rfl, k⟩))
  · exact g1 n a b hn rfl kn J (Or.inl (fun k => wa ⟨a, ha, rfl, k⟩))
theorem ty_shrink0 {post : Int32 → SY → Prop} {kd th jo wo so lf rt kn re : Nat → Int32} (C : tc_C kd th jo) {z : Int32} (h : ¬ tc_N kd z 2) (f : post (-1) (th, jo, wo, so, lf, rt, kn, re)) : wpY_shrink post (th, jo, wo, so, lf, rt, kn, re) z := by
  unfold wpY_shrink
  dsimp only
  exact ty_isJoint C (fun w => absurd w h) (fun _ => br_t rfl f)
theorem ty_shrink1 {post : Int32 → SY → Prop} {kd pa th jo wo so lf rt kn re : Nat → Int32} {D : Nat → Nat} (C : tc_C kd th jo) {n a b : Nat} (hn : n < 31) (k2 : kd n = 2) (J : tc_J kd lf rt pa D n a b) (h : ¬ kd a = 1 ∨ ¬ kd b = 1)
    (f : post (-1) (th, jo, wo, so, lf, rt, kn, re)) : wpY_shrink post (th, jo, wo, so, lf, rt, kn, re) (nI n) := by
  have ha := J.1
  have hb := J.2.1
  unfold wpY_shrink
  dsimp only
  refine ty_isJoint C (fun w => br_f tc_n10 ⟨tc_in hn, ?_⟩) (fun w => br_t rfl f)
  rw [tc_cl hn, J.2.2.2.1, J.2.2.2.2.1]
  refine ty_isLeaf C (fun wa => br_f tc_n10 ⟨tc_in hn, ?_⟩) (fun _ => br_t rfl f)
  refine ty_isLeaf C (fun wb => ?_) (fun _ => br_t rfl f)
  exfalso
  rcases h with h | h
  · exact tc_Nj ha h wa
  · exact tc_Nj hb h wb
theorem ty_shrink {post : Int32 → SY → Prop} {kd pa va th jo wo so lf rt kn re : Nat → Int32} {D : Nat → Nat} (C : tc_C kd th jo) (hs : ∀ m, so m = 0 ∨ so m = 1 ∨ so m = 2 ∨ so m = 3)
    (E : ∀ m, m < 31 → kd m = 2 → tc_Q so lf rt va m) (hw : ∀ m, m < 31 → kd m = 1 → wo m = va m) {n a b : Nat} (hn : n < 31) (k2 : kd n = 2) (J : tc_J kd lf rt pa D n a b) (ka : kd a = 1) (kb : kd b = 1)
    (f : post 0 (upd (upd th a 0) b 0, upd jo n 0, upd wo n (va n), so, lf, rt, kn, re)) : wpY_shrink post (th, jo, wo, so, lf, rt, kn, re) (nI n) := by
  have ha := J.1
  have hb := J.2.1
  have En := (tc_Qe J).mp (E n hn k2)
  have i1 : vp_in (nI n) 31 := tc_in hn
  have i2 : vp_in (nI a) 31 := tc_in ha
  have i3 : vp_in (nI b) 31 := tc_in hb
  unfold wpY_shrink
  dsimp only
  refine ty_isJoint C (fun w => br_f tc_n10 ⟨i1, ?_⟩) (fun w => absurd ⟨n, hn, rfl, k2⟩ w)
  rw [tc_cl hn, J.2.2.2.1, J.2.2.2.2.1, tc_cl ha, tc_cl hb]
  refine ty_isLeaf C (fun wa => br_f tc_n10 ⟨i1, ?_⟩) (fun w => absurd ⟨a, ha, rfl, ka⟩ w)
  refine ty_isLeaf C (fun wb => br_f tc_n10 ⟨i1, i1, i2, i1, i3, ty_worked (hs n) ⟨i1, ?_⟩⟩) (fun w => absurd ⟨b, hb, rfl, kb⟩ w)
  rw [hw a ha ka, hw b hb kb, ← En]
  exact nm_e ⟨i1, nm_e ⟨i1, i2, nm_e ⟨i1, i3, nm_e f⟩⟩⟩
