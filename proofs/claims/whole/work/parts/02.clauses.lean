section HC
variable {g a : Nat → Int32} {n : Nat}
/-! C: which TRY a clause belongs to -/
/-- token x is a CATCH, FINALLY or END of the TRY t -/
def ow_O (g : Nat → Int32) (t x : Nat) : Prop := (g x = 2 ∨ g x = 4 ∨ g x = 5) ∧ 0 < hp_oc g x ∧ hp_ot g x (hp_oc g x - 1) = t
/-- TRY t is unclosed at q -/
def ow_P (g : Nat → Int32) (t q : Nat) : Prop := hp_oc g t < hp_oc g q ∧ hp_ot g q (hp_oc g t) = t
/-- tokens below i are accepted -/
def ow_K (g a : Nat → Int32) (i : Nat) : Prop := ∀ j, j < i → hp_tk g a j
theorem ow_Kl {i j : Nat} (h : ow_K g a j) (hi : i ≤ j) : ow_K g a i := fun k hk => h k (by omega)
/-- an owner: a TRY before, one level up, and unclosed here -/
theorem ow_1 {t x : Nat} (K : ow_K g a x) (h : ow_O g t x) : t < x ∧ g t = 3 ∧ hp_oc g t = hp_oc g x - 1 ∧ hp_fn g t = hp_fn g x ∧ hp_in g t = 1 ∧ ow_P g t x := by
  obtain ⟨h1, h2, h3⟩ := h
  obtain ⟨c1, c2, c3, c4, c5, c6, c7, c8⟩ := (hp_H x K).2.2.2.2 (hp_oc g x - 1) (by omega)
  rw [h3] at c1 c2 c3 c4 c5
  refine ⟨c1, c2, c3, c5, c4, ?_, ?_⟩
  · omega
  · rw [c3]; exact h3
/-- an unclosed TRY: what it is -/
theorem ow_2 {t q : Nat} (K : ow_K g a q) (h : ow_P g t q) : t < q ∧ g t = 3 ∧ hp_fn g t = hp_fn g q ∧ hp_in g t = 1 ∧ 1 ≤ hp_pt g q (hp_oc g t) ∧ hp_pt g q (hp_oc g t) ≤ 3 ∧ ∀ m, m < hp_oc g t → hp_ot g t m = hp_ot g q m ∧ hp_pt g t m = hp_pt g q m := by
  obtain ⟨h1, h2⟩ := h
  obtain ⟨c1, c2, c3, c4, c5, c6, c7, c8⟩ := (hp_H q K).2.2.2.2 (hp_oc g t) h1
  rw [h2] at c1 c2 c4 c5 c8
  exact ⟨c1, c2, c5, c4, c6, c7, c8⟩
/-- the parent of a place inside a TRY -/
theorem ow_3 {q : Nat} (K : ow_K g a q) (h : 0 < hp_oc g q) : ow_P g (hp_ot g q (hp_oc g q - 1)) q ∧ hp_oc g (hp_ot g q (hp_oc g q - 1)) = hp_oc g q - 1 := by
  obtain ⟨c1, c2, c3, c4, c5, c6, c7, c8⟩ := (hp_H q K).2.2.2.2 (hp_oc g q - 1) (by omega)
  refine ⟨⟨?_, ?_⟩, c3⟩
  · rw [c3]; omega
  · rw [c3]
theorem ow_in {q : Nat} (K : ow_K g a q) (h : 0 < hp_oc g q) : hp_in g q = 1 := by
  rcases hp_in01 (g := g) q with z | z
  · have := (hp_H q K).1 z; omega
  · exact z
/-- an unclosed TRY stays unclosed but for its own END -/
theorem ow_4 {t q : Nat} (K : ow_K g a (q + 1)) (h : ow_P g t q) (hn : ¬ (g q = 2 ∧ hp_oc g q = hp_oc g t + 1)) : ow_P g t (q + 1) := by
  obtain ⟨h1, h2⟩ := h
  rcases hp_tc (K q (by omega)) with ⟨i1, i2, i3⟩ | ⟨i0, i1, i2⟩ | ⟨i0, i1, i2, i3⟩ | ⟨i0, i1⟩ | ⟨i0, i1, i2, i3⟩ | ⟨i0, i1, i2, i3⟩ | ⟨i0, i1⟩
  · have := (hp_H q (ow_Kl K (by omega))).1 i1; omega
  · omega
  · obtain ⟨e1, e2, e3, e4, e5⟩ := hp_s2b i1 i2
    have : ¬ hp_oc g q = hp_oc g t + 1 := fun e => hn ⟨i1, e⟩
    unfold ow_P; rw [e1, e2]; exact ⟨by omega, h2⟩
  · obtain ⟨e1, e2, e3, e4, e5⟩ := hp_s3 i1
    unfold ow_P; rw [e1, e2, hp_uN (by omega)]; exact ⟨by omega, h2⟩
  · obtain ⟨e1, e2, e3, e4, e5⟩ := hp_s4 i1
    unfold ow_P; rw [e1, e2]; exact ⟨h1, h2⟩
  · obtain ⟨e1, e2, e3, e4, e5⟩ := hp_s5 i1
    unfold ow_P; rw [e1, e2]; exact ⟨h1, h2⟩
  · obtain ⟨e1, e2, e3, e4, e5⟩ := hp_s6 i1
    unfold ow_P; rw [e1, e2]; exact ⟨h1, h2⟩
/-- and backwards: what is unclosed at q + 1 and older than q was unclosed at q, with its part kept but for a clause of its own at q -/
theorem ow_5 {t q : Nat} (K : ow_K g a (q + 1)) (h : ow_P g t (q + 1)) (htq : t ≠ q) : ow_P g t q ∧ (hp_pt g (q + 1) (hp_oc g t) = hp_pt g q (hp_oc g t) ∨ (g q = 4 ∧ ow_O g t q ∧ hp_pt g q (hp_oc g t) ≠ 3 ∧ hp_pt g (q + 1) (hp_oc g t) = 2) ∨ (g q = 5 ∧ ow_O g t q ∧ hp_pt g q (hp_oc g t) ≠ 3 ∧ hp_pt g (q + 1) (hp_oc g t) = 3)) := by
  obtain ⟨h1, h2⟩ := h
  rcases hp_tc (K q (by omega)) with ⟨i1, i2, i3⟩ | ⟨i0, i1, i2⟩ | ⟨i0, i1, i2, i3⟩ | ⟨i0, i1⟩ | ⟨i0, i1, i2, i3⟩ | ⟨i0, i1, i2, i3⟩ | ⟨i0, i1⟩
  · have z := (hp_H q (ow_Kl K (by omega))).1 i1
    rw [(hp_s1 i2).1] at h1; omega
  · rw [(hp_s2a i1 i2).1] at h1; omega
  · obtain ⟨e1, e2, e3, e4, e5⟩ := hp_s2b i1 i2
    rw [e1] at h1; rw [e2] at h2; rw [e3]
    exact ⟨⟨by omega, h2⟩, Or.inl rfl⟩
  · obtain ⟨e1, e2, e3, e4, e5⟩ := hp_s3 i1
    rw [e1] at h1; rw [e2] at h2; rw [e3]
    by_cases e : hp_oc g t = hp_oc g q
    · rw [e, hp_uS] at h2; exact absurd h2.symm htq
    · rw [hp_uN e] at h2; rw [hp_uN e]
      exact ⟨⟨by omega, h2⟩, Or.inl rfl⟩
  · obtain ⟨e1, e2, e3, e4, e5⟩ := hp_s4 i1
    rw [e1] at h1; rw [e2] at h2; rw [e3]
    refine ⟨⟨h1, h2⟩, ?_⟩
    by_cases e : hp_oc g t = hp_oc g q - 1
    · right; left
      rw [e, hp_uS]
      exact ⟨i1, ⟨Or.inr (Or.inl i1), i2, by rw [← e]; exact h2⟩, i3, rfl⟩
    · left; rw [hp_uN e]
  · obtain ⟨e1, e2, e3, e4, e5⟩ := hp_s5 i1
    rw [e1] at h1; rw [e2] at h2; rw [e3]
    refine ⟨⟨h1, h2⟩, ?_⟩
    by_cases e : hp_oc g t = hp_oc g q - 1
    · right; right
      rw [e, hp_uS]
      exact ⟨i1, ⟨Or.inr (Or.inr i1), i2, by rw [← e]; exact h2⟩, i3, rfl⟩
    · left; rw [hp_uN e]
  · obtain ⟨e1, e2, e3, e4, e5⟩ := hp_s6 i1
    rw [e1] at h1; rw [e2] at h2; rw [e3]
    exact ⟨⟨h1, h2⟩, Or.inl rfl⟩
/-- the place behind a clause lies in it -/
theorem ow_6 {t x : Nat} (K : ow_K g a (x + 1)) (h : ow_O g t x) : (g x = 2 → hp_oc g (x + 1) = hp_oc g t ∧ hp_in g (x + 1) = 1 ∧ hp_fn g (x + 1) = hp_fn g t ∧ (∀ m, m < hp_oc g t → hp_ot g (x + 1) m = hp_ot g t m ∧ hp_pt g (x + 1) m = hp_pt g t m)) ∧
    (g x = 4 ∨ g x = 5 → hp_oc g (x + 1) = hp_oc g t + 1 ∧ hp_ot g (x + 1) (hp_oc g t) = t ∧ hp_in g (x + 1) = 1 ∧ hp_fn g (x + 1) = hp_fn g t) ∧ (g x = 4 → hp_pt g (x + 1) (hp_oc g t) = 2) ∧ (g x = 5 → hp_pt g (x + 1) (hp_oc g t) = 3) := by
  have Kx := ow_Kl K (show x ≤ x + 1 by omega)
  obtain ⟨c1, c2, c3, c4, c5, c6⟩ := ow_1 Kx h
  obtain ⟨h1, h2, h3⟩ := h
  have hin := ow_in Kx h2
  obtain ⟨d1, d2, d3, d4, d5, d6, d7⟩ := ow_2 Kx c6
  refine ⟨fun e => ?_, fun e => ?_, fun e => ?_, fun e => ?_⟩
  · obtain ⟨e1, e2, e3, e4, e5⟩ := hp_s2b e h2
    rw [e1, e2, e3, e4, e5]
    exact ⟨c3.symm, hin, c4.symm, fun m hm => ⟨(d7 m hm).1.symm, (d7 m hm).2.symm⟩⟩
  · rcases e with e | e
    · obtain ⟨e1, e2, e3, e4, e5⟩ := hp_s4 e
      rw [e1, e2, e4, e5]
      exact ⟨by omega, c6.2, hin, c4.symm⟩
    · obtain ⟨e1, e2, e3, e4, e5⟩ := hp_s5 e
      rw [e1, e2, e4, e5]
      exact ⟨by omega, c6.2, hin, c4.symm⟩
  · rw [(hp_s4 e).2.2.1, c3, hp_uS]
  · rw [(hp_s5 e).2.2.1, c3, hp_uS]
/-- behind a clause: an END closes for ever, a FINALLY is the last part -/
theorem ow_7 {t x : Nat} (hx : ow_O g t x) : ∀ q, ow_K g a q → x < q → (g x = 2 → ¬ ow_P g t q) ∧ (ow_P g t q → 2 ≤ hp_pt g q (hp_oc g t)) ∧ (g x = 5 → ow_P g t q → hp_pt g q (hp_oc g t) = 3) := by
  intro q
  induction q with
  | zero => intro _ h; omega
  | succ q ih =>
  intro K hq
  by_cases e : x = q
  · subst e
    obtain ⟨c1, c2, c3, c4⟩ := ow_6 K hx
    refine ⟨fun e h => ?_, fun h => ?_, fun e _ => c4 e⟩
    · have := h.1; rw [(c1 e).1] at this; omega
    · rcases hx.1 with e | e | e
      · have := h.1; rw [(c1 e).1] at this; omega
      · rw [c3 e]; omega
      · rw [c4 e]; omega
  · obtain ⟨i1, i2, i3⟩ := ih (ow_Kl K (by omega)) (by omega)
    have htx := (ow_1 (ow_Kl K (by omega)) hx).1
    refine ⟨fun e h => i1 e (ow_5 K h (by omega)).1, fun h => ?_, fun e h => ?_⟩
    · obtain ⟨o, s | ⟨-, -, -, s⟩ | ⟨-, -, -, s⟩⟩ := ow_5 K h (by omega)
      · rw [s]; exact i2 o
      · rw [s]; omega
      · rw [s]; omega
    · obtain ⟨o, s | ⟨-, -, s, -⟩ | ⟨-, -, s, -⟩⟩ := ow_5 K h (by omega)
      · rw [s]; exact i3 e o
      · exact absurd (i3 e o) s
      · exact absurd (i3 e o) s
/-- nothing of t behind its END; no CATCH and no FINALLY behind its FINALLY -/
theorem ow_8 {t x y : Nat} (K : ow_K g a (y + 1)) (hx : ow_O g t x) (hy : ow_O g t y) (h : x < y) : g x ≠ 2 ∧ (g x = 5 → g y = 2) := by
  have Ky := ow_Kl K (show y ≤ y + 1 by omega)
  obtain ⟨c1, c2, c3⟩ := ow_7 hx y Ky h
  obtain ⟨d1, d2, d3, d4, d5, d6⟩ := ow_1 Ky hy
  refine ⟨fun e => c1 e d6, fun e => ?_⟩
  have p3 := c3 e d6
  rcases hp_tc (K y (by omega)) with ⟨i1, i2, i3⟩ | ⟨i0, i1, i2⟩ | ⟨i0, i1, i2, i3⟩ | ⟨i0, i1⟩ | ⟨i0, i1, i2, i3⟩ | ⟨i0, i1, i2, i3⟩ | ⟨i0, i1⟩
  · rcases hy.1 with z | z | z <;> rw [i2] at z <;> exact absurd z (by decide)
  · exact i1
  · exact i1
  · rcases hy.1 with z | z | z <;> rw [i1] at z <;> exact absurd z (by decide)
  · rw [← d3] at i3; exact absurd p3 i3
  · rw [← d3] at i3; exact absurd p3 i3
  · rcases hy.1 with z | z | z <;> rw [z] at i1 <;> exact absurd i1 (by unfold hp_pl; decide)
/-- in its try body no clause has come yet; before its FINALLY none -/
theorem ow_9 {t x q : Nat} (K : ow_K g a q) (hq : ow_P g t q) (hx : ow_O g t x) (h : hp_pt g q (hp_oc g t) = 1 ∨ (hp_pt g q (hp_oc g t) ≠ 3 ∧ g x = 5)) : q ≤ x := by
  rcases Nat.lt_or_ge x q with z | z
  · obtain ⟨c1, c2, c3⟩ := ow_7 hx q K z
    rcases h with h | ⟨h, e⟩
    · have := c2 hq; omega
    · exact absurd (c3 e hq) h
  · exact z

/-! D: a search for a clause -/
/-- the compiled program -/
def ow_G (g a : Nat → Int32) (n : Nat) : Prop := n ≤ 32 ∧ ow_K g a n ∧ hp_in g n = 0 ∧ 0 < n ∧ ∀ i, i < n → g i = 11 → ∃ f : Nat, hp_fn g i ≤ f ∧ f < hp_fn g n ∧ a i = nI f
/-- r is the least token below n with P, or -1 -/
def ow_L (n : Nat) (P : Nat → Prop) (r : Int32) : Prop := (∃ x, x < n ∧ r = nI x ∧ P x ∧ ∀ y, y < x → ¬ P y) ∨ (r = -1 ∧ ∀ y, y < n → ¬ P y)
theorem ow_Le (n : Nat) (P : Nat → Prop) : ∃ r, ow_L n P r := by
  induction n with
  | zero => exact ⟨-1, Or.inr ⟨rfl, fun y h => absurd h (Nat.not_lt_zero _)⟩⟩
  | succ n ih =>
  obtain ⟨r, ⟨x, h1, h2⟩ | ⟨h1, h2⟩⟩ := ih
  · exact ⟨r, Or.inl ⟨x, by omega, h2⟩⟩
  · rcases Classical.em (P n) with z | z
    · exact ⟨nI n, Or.inl ⟨n, by omega, rfl, z, h2⟩⟩
    · refine ⟨-1, Or.inr ⟨rfl, fun y hy => ?_⟩⟩
      by_cases e : y = n
      · rw [e]; exact z
      · exact h2 y (by omega)
/-- at a first P the answer is known -/
theorem ow_Lh {P : Nat → Prop} {r : Int32} {x : Nat} (h : ow_L n P r) (hx : x < n) (hP : P x) (hl : ∀ y, y < x → ¬ P y) : r = nI x := by
  rcases h with ⟨x', h1, h2, h3, h4⟩ | ⟨h1, h2⟩
  · rcases Nat.lt_trichotomy x x' with z | z | z
    · exact absurd hP (h4 x z)
    · rw [h2, z]
    · exact absurd h3 (hl x' z)
  · exact absurd hP (h2 x hx)
theorem ow_Ln {P : Nat → Prop} {r : Int32} (h : ow_L n P r) (hl : ∀ y, y < n → ¬ P y) : r = -1 := by
  rcases h with ⟨x', h1, h2, h3, h4⟩ | ⟨h1, h2⟩
  · exact absurd h3 (hl x' h1)
  · exact h1
/-- c is the next clause of t behind q -/
def ow_N (g : Nat → Int32) (n t q c : Nat) : Prop := q < c ∧ c < n ∧ ow_O g t c ∧ ∀ y, q < y → y < c → ¬ ow_O g t y
/-- a place of t from which a next clause is looked for -/
def ow_S (g : Nat → Int32) (t q : Nat) : Prop := (q = t ∧ g t = 3) ∨ (ow_O g t q ∧ g q ≠ 2)
theorem ow_Sp {t q : Nat} (K : ow_K g a (q + 1)) (h : ow_S g t q) : ow_P g t (q + 1) ∧ hp_oc g (q + 1) = hp_oc g t + 1 := by
  rcases h with ⟨rfl, h⟩ | ⟨h, e⟩
  · obtain ⟨e1, e2, e3, e4, e5⟩ := hp_s3 h
    unfold ow_P
    rw [e1, e2, hp_uS]
    exact ⟨⟨by omega, rfl⟩, rfl⟩
  · have := (ow_6 K h).2.1 (by rcases h.1 with z | z | z; exact absurd z e; exact Or.inl z; exact Or.inr z)
    unfold ow_P
    rw [this.1, this.2.1]
    exact ⟨⟨by omega, rfl⟩, rfl⟩
/-- a program's end has nothing unclosed -/
theorem ow_Ge (G : ow_G g a n) : hp_oc g n = 0 := (hp_H n G.2.1).1 G.2.2.1
theorem ow_Gn (G : ow_G g a n) {t q : Nat} (h : ow_P g t q) (hq : q ≤ n) : q < n := by
  rcases Nat.lt_or_ge q n with z | z
  · exact z
  · have : q = n := by omega
    subst this
    have := h.1; rw [ow_Ge G] at this; omega
/-- an own clause of the top TRY -/
theorem ow_Ot {t q : Nat} (hq : ow_P g t q) (hc : hp_oc g q = hp_oc g t + 1) (hg : g q = 2 ∨ g q = 4 ∨ g q = 5) : ow_O g t q :=
  ⟨hg, by omega, by rw [hc]; exact hq.2⟩
theorem ow_On {t q : Nat} (K : ow_K g a q) (hc : hp_oc g q ≠ hp_oc g t + 1) : ¬ ow_O g t q := fun h => by
  have := (ow_1 K h).2.2.1
  have := h.2.1
  omega
end HC
