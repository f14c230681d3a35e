theorem tx_mk {post : SX → Prop} {kd so lf rt pa va : Nat → Int32} {n : Nat} {p v : Int32} (hn : n < 31) (f : post (upd kd n 1, so, lf, rt, upd pa n p, upd va n v)) : wpX_makeLeaf post (kd, so, lf, rt, pa, va) (nI n) p v := by
  unfold wpX_makeLeaf
  dsimp only
  rw [tc_cl hn]
  exact ⟨tc_in hn, nm_e ⟨tc_in hn, nm_e ⟨tc_in hn, nm_e f⟩⟩⟩
theorem tx_grow {post : Int32 → SX → Prop} {kd so lf rt pa va : Nat → Int32} {D : Nat → Nat} (T : tc_T kd lf rt pa D) (hs : ∀ m, so m = 0 ∨ so m = 1 ∨ so m = 2 ∨ so m = 3)
    (E : ∀ m, m < 31 → kd m = 2 → tc_Q so lf rt va m) {z s x y : Int32}
    (g : (¬ tc_N kd z 1 ∨ ∃ a, ∀ m, m < 31 → m ≠ a → kd m ≠ 0) → post (-1) (kd, so, lf, rt, pa, va))
    (f : ∀ n l r V, z = nI n → n < 31 → l < r → r < 31 → kd n = 1 → kd l = 0 → kd r = 0 → (∀ m, m < l → kd m ≠ 0) → (∀ m, l < m → m < r → kd m ≠ 0) →
      (∀ m, m < 31 → upd (upd (upd kd l 1) r 1) n 2 m = 2 → tc_Q (upd so n (s &&& 3)) (upd lf n (nI l)) (upd rt n (nI r)) V m) →
      (∀ m, m < 31 → upd (upd (upd kd l 1) r 1) n 2 m ≠ 2 → V m = upd (upd va l x) r y m) →
      post (nI l) (upd (upd (upd kd l 1) r 1) n 2, upd so n (s &&& 3), upd lf n (nI l), upd rt n (nI r), upd (upd pa l (nI n)) r (nI n), V)) :
    wpX_grow post (kd, so, lf, rt, pa, va) z s x y := by
  unfold wpX_grow
  dsimp only
  refine tx_isLeaf (fun w => br_f tc_n10 ?_) (fun w => br_t rfl (g (Or.inl w)))
  obtain ⟨n, hn, e, kn⟩ := w
  subst e
  refine tx_least 0 (by omega) (fun l _ hl kl ml => ?_) (fun h => ?_)
  · rw [nI_1 l]
    refine tx_least (l + 1) (by omega) (fun r lr hr kr mr => ?_) (fun h => ?_)
    · have nl : l ≠ r := by omega
      refine br_t (nI_lt (b := 31) hr (by decide)) (tx_mk hl (tx_mk hr ⟨tc_in hn, ?_⟩))
      rw [tc_cl hn]
      refine nm_e ⟨tc_in hn, nm_e ⟨tc_in hn, nm_e ⟨tc_in hn, nm_e ?_⟩⟩⟩
      refine tx_refresh (tc_Tgrow T hn hl hr nl kn kl kr) (tc_so hs n s) (Or.inr ⟨n, hn, rfl, pk_us⟩) ?_ ?_
      · intro m hm km ne
        exact tc_Egrow T nl kn kl kr E m hm km (fun w => ne (by rw [w]))
      · intro V h1 h2
        exact f n l r V rfl hn (by omega) hr kn kl kr (fun m hm => ml m (Nat.zero_le m) hm) (fun m hm => mr m hm) h1 h2
    · refine br_f (by decide) (g (Or.inr ⟨l, fun m hm ne => ?_⟩))
      by_cases w : m < l
      · exact ml m (Nat.zero_le m) w
      · exact h m (by omega) hm
  · refine tx_least 32 (by omega) (fun r lr hr => absurd lr (by omega)) (fun _ => ?_)
    exact br_f (by decide) (g (Or.inr ⟨0, fun m hm _ => h m (Nat.zero_le m) hm⟩))
theorem ty_grow0 {post : Int32 → SY → Prop} {kd th jo wo so lf rt kn re : Nat → Int32} (C : tc_C kd th jo) {z s x y : Int32}
    (h : ¬ tc_N kd z 1 ∨ ∃ a, ∀ m, m < 31 → m ≠ a → kd m ≠ 0) (f : post (-1) (th, jo, wo, so, lf, rt, kn, re)) : wpY_grow post (th, jo, wo, so, lf, rt, kn, re) z s x y := by
  unfold wpY_grow
  dsimp only
  refine ty_isLeaf C (fun w => br_f tc_n10 (ty_nodes (br_f ?_ f))) (fun w => br_t rfl f)
  rcases h with h | ⟨a, h⟩
  · exact absurd w h
  · have h1 := (tc_cnt3 th a 31 (fun m hm ne => tc_Cth C hm (h m hm ne))).1
    have h2 := tc_cnt0 th 31
    exact nI_ge (a := 29) (by omega) (by omega)
theorem ty_grow {post : Int32 → SY → Prop} {kd th jo wo so lf rt kn re : Nat → Int32} (C : tc_C kd th jo) {s x y : Int32} {n l r : Nat}
    (hn : n < 31) (lr : l < r) (hr : r < 31) (kn1 : kd n = 1) (kl : kd l = 0) (kr : kd r = 0) (ml : ∀ m, m < l → kd m ≠ 0) (mr : ∀ m, l < m → m < r → kd m ≠ 0)
    (f : post (nI l) (upd (upd th l 1) r 1, upd (upd (upd jo l 0) r 0) n 1, upd (upd wo l x) r y, upd so n (s &&& 3), upd lf n (nI l), upd rt n (nI r), kn, re)) :
    wpY_grow post (th, jo, wo, so, lf, rt, kn, re) (nI n) s x y := by
  have hl : l < 31 := by omega
  have tl : th l = 0 := C.2.1 l hl kl
  have tr : th r = 0 := C.2.1 r hr kr
  unfold wpY_grow
  dsimp only
  refine ty_isLeaf C (fun w => br_f tc_n10 (ty_nodes (br_t ?_ ?_))) (fun w => absurd ⟨n, hn, rfl, kn1⟩ w)
  · have := tc_cnt2 th tl tr lr 31 hr
    exact nI_le (b := 29) (by omega) (by decide)
  · refine ty_leaf hl tl (fun m hm => tc_Cth C (by omega) (ml m hm)) ⟨tc_in hn, ?_⟩
    rw [tc_cl hn]
    refine nm_e (ty_leaf hr ?_ ?_ ⟨tc_in hn, nm_e ⟨tc_in hn, nm_e ⟨tc_in hn, nm_e ⟨tc_in hn, ?_⟩⟩⟩⟩)
    · exact (pk_un (show r ≠ l by omega)).trans tr
    · intro m hm
      dsimp only
      by_cases e : m = l
      · rw [e, pk_us]; exact tc_n10
      · rw [pk_un e]
        by_cases w : m < l
        · exact tc_Cth C (by omega) (ml m w)
        · exact tc_Cth C (by omega) (mr m (by omega) hm)
    · dsimp only
      rw [pk_us]
      exact f
