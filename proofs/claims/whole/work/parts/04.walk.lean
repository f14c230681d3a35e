/-- the parent of a node that is there -/
theorem tc_pa {kd lf rt pa : Nat → Int32} {D : Nat → Nat} (T : tc_T kd lf rt pa D) {c : Nat} (hc : c < 31) (k : kd c ≠ 0) :
    (c = 0 ∧ pa c = -1) ∨ (c ≠ 0 ∧ ∃ p, p < 31 ∧ kd p = 2 ∧ pa c = nI p ∧ D c = D p + 1) := by
  by_cases c0 : c = 0
  · exact Or.inl ⟨c0, by rw [c0]; exact T.2.2.1⟩
  · obtain ⟨p, a, b, hp, kp, J, h⟩ := tc_up T hc k c0
    obtain ⟨_, _, _, _, _, _, _, qa, qb, da, db⟩ := J
    refine Or.inr ⟨c0, p, hp, kp, ?_⟩
    rcases h with h | h
    · rw [h]; exact ⟨qa, da⟩
    · rw [h]; exact ⟨qb, db⟩
/-- a value changed at j leaves the equations of the joints that are neither j nor its parent -/
theorem tc_keep {kd so lf rt pa : Nat → Int32} {D : Nat → Nat} {V : Nat → Int32} {j m c d : Nat} {x : Int32} (J : tc_J kd lf rt pa D m c d) (mj : m ≠ j) (q : nI m ≠ pa j) (E : tc_Q so lf rt V m) : tc_Q so lf rt (upd V j x) m := by
  obtain ⟨hc, hd, cd, el, er, kc, kd', qc, qd, dc, dd⟩ := J
  have cj : c ≠ j := by intro z; rw [z] at qc; exact q qc.symm
  have dj : d ≠ j := by intro z; rw [z] at qd; exact q qd.symm
  unfold tc_Q at E ⊢
  rw [el, er, tc_cl hc, tc_cl hd] at E ⊢
  rw [pk_un mj, pk_un cj, pk_un dj]
  exact E
/-- a step of the refreshing -/
theorem tc_step {kd so lf rt pa : Nat → Int32} {D : Nat → Nat} (T : tc_T kd lf rt pa D) {V : Nat → Int32} {j a b : Nat} (hj : j < 31)
    (J : tc_J kd lf rt pa D j a b) (E : ∀ m, m < 31 → kd m = 2 → nI m ≠ nI j → tc_Q so lf rt V m) (m : Nat) (hm : m < 31) (km : kd m = 2) (q : nI m ≠ pa j) :
    tc_Q so lf rt (upd V j (tc_f (so j) (V a) (V b))) m := by
  by_cases e : m = j
  · subst e
    rw [tc_Qe J]
    obtain ⟨ha, hb, ab, el, er, ka, kb, qa, qb, da, db⟩ := J
    have aj : a ≠ m := by intro z; rw [z] at da; omega
    have bj : b ≠ m := by intro z; rw [z] at db; omega
    rw [pk_us, pk_un aj, pk_un bj]
  · obtain ⟨c, d, M⟩ := T.2.2.2.2.1 m hm km
    exact tc_keep M e q (E m hm km (fun z => e (tc_inj hm hj z)))

/-- the slope's walk: V' are the values with the leaf n greater by one, as far up as c, whose value grows by p -/
def tc_S (kd so lf rt pa V V' : Nat → Int32) (D : Nat → Nat) (n c : Nat) (p : Int32) : Prop :=
  V' c = V c + p ∧ (∀ m, m < 31 → kd m ≠ 0 → m ≠ c → D m ≤ D c → V' m = V m) ∧ (∀ m, m < 31 → kd m = 2 → nI m ≠ pa c → tc_Q so lf rt V' m) ∧
  (∀ m, m < 31 → kd m = 1 → V' m = upd V n (V n + 1) m)
theorem tc_S0 {kd so lf rt pa V : Nat → Int32} {D : Nat → Nat} (T : tc_T kd lf rt pa D) (E : ∀ m, m < 31 → kd m = 2 → tc_Q so lf rt V m) {n : Nat} (kn : kd n = 1) :
    tc_S kd so lf rt pa V (upd V n (V n + 1)) D n n 1 := by
  refine ⟨pk_us, fun m _ _ mn _ => pk_un mn, ?_, fun m _ _ => rfl⟩
  intro m hm km q
  obtain ⟨c, d, M⟩ := T.2.2.2.2.1 m hm km
  exact tc_keep M (by intro z; rw [z, kn] at km; exact tc_n12 km) q (E m hm km)
theorem tc_Ss {kd so lf rt pa V V' : Nat → Int32} {D : Nat → Nat} (T : tc_T kd lf rt pa D) (E : ∀ m, m < 31 → kd m = 2 → tc_Q so lf rt V m) {n c j a b : Nat} {p s : Int32} (hj : j < 31) (kj : kd j = 2)
    (J : tc_J kd lf rt pa D j a b) (h : (c = a ∧ s = tc_sl (so j) (V b)) ∨ (c = b ∧ s = tc_sr (so j) (V a))) (S : tc_S kd so lf rt pa V V' D n c p) :
    tc_S kd so lf rt pa V (upd V' j (V j + p * s)) D n j (p * s) := by
  obtain ⟨s1, s2, s3, s4⟩ := S
  have Ej := (tc_Qe J).mp (E j hj kj)
  have J0 := J
  obtain ⟨ha, hb, ab, el, er, ka, kb, qa, qb, da, db⟩ := J
  have aj : a ≠ j := by intro z; rw [z] at da; omega
  have bj : b ≠ j := by intro z; rw [z] at db; omega
  have dc : D c = D j + 1 := by rcases h with h | h <;> rw [h.1] <;> assumption
  have qc : pa c = nI j := by rcases h with h | h <;> rw [h.1] <;> assumption
  refine ⟨pk_us, ?_, ?_, ?_⟩
  · intro m hm km mj dm
    rw [pk_un mj]
    exact s2 m hm km (by intro z; rw [z] at dm; omega) (by omega)
  · intro m hm km q
    by_cases e : m = j
    · subst e
      rw [tc_Qe J0, pk_us, pk_un aj, pk_un bj, Ej]
      rcases h with ⟨h1, h2⟩ | ⟨h1, h2⟩
      · subst h1
        rw [s1, s2 b hb kb ab.symm (by omega), h2]
        exact (tc_fl _ _ _ _).symm
      · subst h1
        rw [s1, s2 a ha ka ab (by omega), h2]
        exact (tc_fr _ _ _ _).symm
    · obtain ⟨x, y, M⟩ := T.2.2.2.2.1 m hm km
      exact tc_keep M e q (s3 m hm km (by rw [qc]; exact fun z => e (tc_inj hm hj z)))
  · intro m hm km
    rw [pk_un (by intro z; rw [z, kj] at km; exact tc_n21 km)]
    exact s4 m hm km
theorem tc_Se {kd so lf rt pa V V' : Nat → Int32} {D : Nat → Nat} (T : tc_T kd lf rt pa D) {n : Nat} {p : Int32} (S : tc_S kd so lf rt pa V V' D n 0 p) (m : Nat) (hm : m < 31) (km : kd m = 2) : tc_Q so lf rt V' m :=
  S.2.2.1 m hm km (by rw [T.2.2.1]; exact tc_m1 hm)

/-- the reference's evaluation, in round t, at node n -/
def tc_I (kd V kn re : Nat → Int32) (D : Nat → Nat) (t n : Nat) : Prop :=
  (∀ m, m < 31 → kn m ≠ 0 → re m = V m) ∧ (∀ m, m < 31 → kd m = 1 → kn m ≠ 0) ∧ (∀ m, m < 31 → kd m ≠ 0 → 31 ≤ D m + t → kn m ≠ 0) ∧
  (∀ m, m < n → m < 31 → kd m ≠ 0 → 31 ≤ D m + (t + 1) → kn m ≠ 0)
theorem tc_Inx {kd V kn re : Nat → Int32} {D : Nat → Nat} {t : Nat} (h : tc_I kd V kn re D t 31) : tc_I kd V kn re D (t + 1) 0 :=
  ⟨h.1, h.2.1, fun m hm => h.2.2.2 m hm hm, fun m z => absurd z (Nat.not_lt_zero m)⟩
theorem tc_Iyes {kd so lf rt pa V kn re : Nat → Int32} {D : Nat → Nat} {t n a b : Nat} (E : tc_Q so lf rt V n) (J : tc_J kd lf rt pa D n a b) (ha : kn a ≠ 0) (hb : kn b ≠ 0) (h : tc_I kd V kn re D t n) :
    tc_I kd V (upd kn n 1) (upd re n (tc_f (so n) (re a) (re b))) D t (n + 1) := by
  obtain ⟨h1, h2, h3, h4⟩ := h
  have mono : ∀ m, kn m ≠ 0 → upd kn n 1 m ≠ 0 := by
    intro m hm
    by_cases e : m = n
    · rw [e, pk_us]; exact tc_n10
    · rw [pk_un e]; exact hm
  refine ⟨?_, fun m hm km => mono m (h2 m hm km), fun m hm km hd => mono m (h3 m hm km hd), ?_⟩
  · intro m hm km
    by_cases e : m = n
    · subst e
      rw [pk_us, h1 a J.1 ha, h1 b J.2.1 hb]
      exact ((tc_Qe J).mp E).symm
    · rw [pk_un e] at km
      rw [pk_un e]; exact h1 m hm km
  · intro m hmn hm km hd
    by_cases e : m = n
    · rw [e, pk_us]; exact tc_n10
    · exact mono m (h4 m (by omega) hm km hd)
theorem tc_Ino {kd V kn re : Nat → Int32} {D : Nat → Nat} {t n : Nat} (h : tc_I kd V kn re D t n) (hn : n < 31 → kd n ≠ 0 → 31 ≤ D n + (t + 1) → kn n ≠ 0) : tc_I kd V kn re D t (n + 1) := by
  obtain ⟨h1, h2, h3, h4⟩ := h
  refine ⟨h1, h2, h3, ?_⟩
  intro m hmn hm km hd
  by_cases e : m = n
  · subst e; exact hn hm km hd
  · exact h4 m (by omega) hm km hd
/-- a joint one of whose children is not known is not due -/
theorem tc_Ich {kd lf rt pa V kn re : Nat → Int32} {D : Nat → Nat} {t n a b : Nat} (J : tc_J kd lf rt pa D n a b) (h : tc_I kd V kn re D t n) (z : kn a = 0 ∨ kn b = 0) : ¬ 31 ≤ D n + (t + 1) := by
  obtain ⟨h1, h2, h3, h4⟩ := h
  obtain ⟨ha, hb, ab, el, er, ka, kb, qa, qb, da, db⟩ := J
  intro w
  rcases z with z | z
  · exact h3 a ha ka (by omega) z
  · exact h3 b hb kb (by omega) z

/-- how many below n are not 0 -/
def tc_cnt (g : Nat → Int32) : Nat → Nat
  | 0 => 0
  | n + 1 => tc_cnt g n + (if g n = 0 then 0 else 1)
theorem tc_cntS (g : Nat → Int32) (n : Nat) : tc_cnt g (n + 1) = tc_cnt g n + (if g n = 0 then 0 else 1) := rfl
theorem tc_cnt0 (g : Nat → Int32) : ∀ n, tc_cnt g n ≤ n := by
  intro n
  induction n with
  | zero => exact Nat.le_refl 0
  | succ n ih => rw [tc_cntS]; split <;> omega
theorem tc_cnt1 (g : Nat → Int32) {a : Nat} (ha : g a = 0) : ∀ n, a < n → tc_cnt g n + 1 ≤ n := by
  intro n
  induction n with
  | zero => intro h; omega
  | succ n ih =>
    intro h
    rw [tc_cntS]
    by_cases e : a = n
    · rw [← e, if_pos ha]
      have := tc_cnt0 g a
      omega
    · have := ih (by omega)
      split <;> omega
theorem tc_cnt2 (g : Nat → Int32) {a b : Nat} (ha : g a = 0) (hb : g b = 0) (ab : a < b) : ∀ n, b < n → tc_cnt g n + 2 ≤ n := by
  intro n
  induction n with
  | zero => intro h; omega
  | succ n ih =>
    intro h
    rw [tc_cntS]
    by_cases e : b = n
    · rw [← e, if_pos hb]
      have := tc_cnt1 g ha b ab
      omega
    · have := ih (by omega)
      split <;> omega
theorem tc_cnt3 (g : Nat → Int32) (a : Nat) : ∀ n, (∀ m, m < n → m ≠ a → g m ≠ 0) → n ≤ tc_cnt g n + 1 ∧ (n ≤ a → n ≤ tc_cnt g n) := by
  intro n
  induction n with
  | zero => intro _; exact ⟨by omega, fun _ => Nat.zero_le _⟩
  | succ n ih =>
    intro h
    obtain ⟨h1, h2⟩ := ih (fun m hm => h m (by omega))
    rw [tc_cntS]
    by_cases e : n = a
    · have := h2 (by omega)
      refine ⟨?_, fun z => by omega⟩
      split <;> omega
    · rw [if_neg (h n (by omega) e)]
      exact ⟨by omega, fun z => by have := h2 (by omega); omega⟩
