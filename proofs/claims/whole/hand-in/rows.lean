section
section HP
/-! A: numbers, stores -/
theorem hp_us {f : Nat → Int32} {k : Nat} {x : Int32} : upd f k x k = x := if_pos rfl
theorem hp_un {f : Nat → Int32} {k j : Nat} {x : Int32} (h : j ≠ k) : upd f k x j = f j := if_neg h
theorem hp_m1 (n : Nat) : nI (n + 1) + (-1) = nI n := by
  rw [← nI_1, Int32.add_assoc, show (1 : Int32) + (-1) = 0 from rfl, Int32.add_zero]
theorem hp_ne1 {a : Nat} (h : a < 2 ^ 31) : ¬ nI a = -1 := by
  intro e
  have := nI_pos (n := a) h
  rw [e] at this
  exact this (by decide)
theorem hp_eq {a b : Nat} (h : nI a = nI b) (ha : a < 2 ^ 31) (hb : b < 2 ^ 31) : a = b := (nI_eq ha hb).mp h
theorem hp_le {a b : Nat} {A B : Prop} (ha : a < 2 ^ 31) (hb : b < 2 ^ 31) (f : a ≤ b → A) (g : b < a → B) : (nI a ≤ nI b → A) ∧ (¬ nI a ≤ nI b → B) :=
  ⟨fun h => f ((nI_leI ha hb).mp h), fun h => g (Nat.lt_of_not_le fun q => h ((nI_leI ha hb).mpr q))⟩
theorem hp_c0 : (0 : Int32).toNatClampNeg = 0 := by decide
theorem hp_nb0 : narrow .boolean (.int 0) = .int 0 := by rfl
theorem hp_nb1 : narrow .boolean (.int 1) = .int 1 := by rfl
/-- a small number of Int32 is a natural one -/
theorem hp_rng {x : Int32} {lo hi : Nat} {L M : Int32} (hL : L.toInt = lo) (hM : M.toInt = hi) (h1 : ¬ x < L) (h2 : x ≤ M) : ∃ k : Nat, lo ≤ k ∧ k ≤ hi ∧ x = nI k := by
  have h0 : ¬ x < 0 := by
    intro h
    rw [Int32.lt_iff_toInt_lt] at h h1
    rw [hL] at h1
    rw [Int32.toInt_zero] at h
    omega
  obtain ⟨k, hk, rfl⟩ := nI_of2 hM h0 h2
  refine ⟨k, ?_, hk, rfl⟩
  rw [Int32.lt_iff_toInt_lt, hL] at h1
  have hb := M.toInt_lt
  rw [nI_toInt (by omega)] at h1
  omega

/-! B: the history of a parse, of the kinds alone -/
def hp_u (f : Nat → Nat) (k v : Nat) : Nat → Nat := fun j => if j = k then v else f j
theorem hp_uS {f : Nat → Nat} {k v : Nat} : hp_u f k v k = v := if_pos rfl
theorem hp_uN {f : Nat → Nat} {k v j : Nat} (h : j ≠ k) : hp_u f k v j = f j := if_neg h
/-- unclosed TRYs before token i -/
def hp_oc (g : Nat → Int32) : Nat → Nat
  | 0 => 0
  | i + 1 => if g i = 3 then hp_oc g i + 1 else if g i = 2 then hp_oc g i - 1 else hp_oc g i
/-- their tokens, by level -/
def hp_ot (g : Nat → Int32) : Nat → Nat → Nat
  | 0 => fun _ => 0
  | i + 1 => if g i = 3 then hp_u (hp_ot g i) (hp_oc g i) i else hp_ot g i
/-- the part (1 try, 2 catch, 3 finally) in which token i lies, by level -/
def hp_pt (g : Nat → Int32) : Nat → Nat → Nat
  | 0 => fun _ => 0
  | i + 1 => if g i = 3 then hp_u (hp_pt g i) (hp_oc g i) 1 else if g i = 4 then hp_u (hp_pt g i) (hp_oc g i - 1) 2 else if g i = 5 then hp_u (hp_pt g i) (hp_oc g i - 1) 3 else hp_pt g i
/-- functions begun before token i -/
def hp_fn (g : Nat → Int32) : Nat → Nat
  | 0 => 0
  | i + 1 => if g i = 1 then hp_fn g i + 1 else hp_fn g i
/-- 1: token i lies in a function -/
def hp_in (g : Nat → Int32) : Nat → Nat
  | 0 => 0
  | i + 1 => if g i = 1 then 1 else if g i = 2 then (if hp_oc g i = 0 then 0 else hp_in g i) else hp_in g i

variable {g a : Nat → Int32} {i : Nat}
theorem hp_s1 (h : g i = 1) : hp_oc g (i + 1) = hp_oc g i ∧ hp_ot g (i + 1) = hp_ot g i ∧ hp_pt g (i + 1) = hp_pt g i ∧ hp_fn g (i + 1) = hp_fn g i + 1 ∧ hp_in g (i + 1) = 1 := by
  simp [hp_oc, hp_ot, hp_pt, hp_fn, hp_in, h]
theorem hp_s2a (h : g i = 2) (z : hp_oc g i = 0) : hp_oc g (i + 1) = 0 ∧ hp_ot g (i + 1) = hp_ot g i ∧ hp_pt g (i + 1) = hp_pt g i ∧ hp_fn g (i + 1) = hp_fn g i ∧ hp_in g (i + 1) = 0 := by
  simp [hp_oc, hp_ot, hp_pt, hp_fn, hp_in, h, z]
theorem hp_s2b (h : g i = 2) (z : 0 < hp_oc g i) : hp_oc g (i + 1) = hp_oc g i - 1 ∧ hp_ot g (i + 1) = hp_ot g i ∧ hp_pt g (i + 1) = hp_pt g i ∧ hp_fn g (i + 1) = hp_fn g i ∧ hp_in g (i + 1) = hp_in g i := by
  have z' : ¬ hp_oc g i = 0 := by omega
  simp [hp_oc, hp_ot, hp_pt, hp_fn, hp_in, h, z']
theorem hp_s3 (h : g i = 3) : hp_oc g (i + 1) = hp_oc g i + 1 ∧ hp_ot g (i + 1) = hp_u (hp_ot g i) (hp_oc g i) i ∧ hp_pt g (i + 1) = hp_u (hp_pt g i) (hp_oc g i) 1 ∧ hp_fn g (i + 1) = hp_fn g i ∧ hp_in g (i + 1) = hp_in g i := by
  simp [hp_oc, hp_ot, hp_pt, hp_fn, hp_in, h]
theorem hp_s4 (h : g i = 4) : hp_oc g (i + 1) = hp_oc g i ∧ hp_ot g (i + 1) = hp_ot g i ∧ hp_pt g (i + 1) = hp_u (hp_pt g i) (hp_oc g i - 1) 2 ∧ hp_fn g (i + 1) = hp_fn g i ∧ hp_in g (i + 1) = hp_in g i := by
  simp [hp_oc, hp_ot, hp_pt, hp_fn, hp_in, h]
theorem hp_s5 (h : g i = 5) : hp_oc g (i + 1) = hp_oc g i ∧ hp_ot g (i + 1) = hp_ot g i ∧ hp_pt g (i + 1) = hp_u (hp_pt g i) (hp_oc g i - 1) 3 ∧ hp_fn g (i + 1) = hp_fn g i ∧ hp_in g (i + 1) = hp_in g i := by
  simp [hp_oc, hp_ot, hp_pt, hp_fn, hp_in, h]
/-- a token that opens and closes nothing -/
def hp_pl (x : Int32) : Prop := x = 6 ∨ x = 7 ∨ x = 8 ∨ x = 9 ∨ x = 10 ∨ x = 11
theorem hp_s6 (h : hp_pl (g i)) : hp_oc g (i + 1) = hp_oc g i ∧ hp_ot g (i + 1) = hp_ot g i ∧ hp_pt g (i + 1) = hp_pt g i ∧ hp_fn g (i + 1) = hp_fn g i ∧ hp_in g (i + 1) = hp_in g i := by
  rcases h with h | h | h | h | h | h <;> simp [hp_oc, hp_ot, hp_pt, hp_fn, hp_in, h]

/-- token i is one with which a valid program can go on -/
def hp_tk (g a : Nat → Int32) (i : Nat) : Prop :=
  (hp_in g i = 0 ∧ g i = 1 ∧ hp_fn g i < 4) ∨
  (hp_in g i = 1 ∧
    ((g i = 2 ∧ hp_oc g i = 0) ∨
     (g i = 2 ∧ 0 < hp_oc g i ∧ hp_pt g i (hp_oc g i - 1) ≠ 1) ∨
     g i = 3 ∨
     (g i = 4 ∧ 0 < hp_oc g i ∧ hp_pt g i (hp_oc g i - 1) ≠ 3 ∧ ∃ t : Nat, t ≤ 15 ∧ a i = nI t) ∨
     (g i = 5 ∧ 0 < hp_oc g i ∧ hp_pt g i (hp_oc g i - 1) ≠ 3) ∨
     g i = 6 ∨ g i = 7 ∨
     ((g i = 8 ∨ g i = 9) ∧ ∃ t : Nat, 1 ≤ t ∧ t ≤ 15 ∧ a i = nI t) ∨
     (g i = 10 ∧ ∃ l, l < hp_oc g i ∧ hp_pt g i l = 2) ∨
     (g i = 11 ∧ ∃ f : Nat, hp_fn g i ≤ f ∧ f ≤ 3 ∧ a i = nI f)))
/-- the same, as cases of what happens -/
theorem hp_tc (h : hp_tk g a i) :
    (hp_in g i = 0 ∧ g i = 1 ∧ hp_fn g i < 4) ∨ (hp_in g i = 1 ∧ g i = 2 ∧ hp_oc g i = 0) ∨ (hp_in g i = 1 ∧ g i = 2 ∧ 0 < hp_oc g i ∧ hp_pt g i (hp_oc g i - 1) ≠ 1) ∨ (hp_in g i = 1 ∧ g i = 3) ∨ (hp_in g i = 1 ∧ g i = 4 ∧ 0 < hp_oc g i ∧ hp_pt g i (hp_oc g i - 1) ≠ 3) ∨ (hp_in g i = 1 ∧ g i = 5 ∧ 0 < hp_oc g i ∧ hp_pt g i (hp_oc g i - 1) ≠ 3) ∨ (hp_in g i = 1 ∧ hp_pl (g i)) := by
  unfold hp_pl
  rcases h with ⟨h1, h2, h3⟩ | ⟨h0, ⟨h1, h2⟩ | ⟨h1, h2, h3⟩ | h1 | ⟨h1, h2, h3, -⟩ | ⟨h1, h2, h3⟩ | h1 | h1 | ⟨h1 | h1, -⟩ | ⟨h1, -⟩ | ⟨h1, -⟩⟩
  · exact Or.inl ⟨h1, h2, h3⟩
  · exact Or.inr (Or.inl ⟨h0, h1, h2⟩)
  · exact Or.inr (Or.inr (Or.inl ⟨h0, h1, h2, h3⟩))
  · exact Or.inr (Or.inr (Or.inr (Or.inl ⟨h0, h1⟩)))
  · exact Or.inr (Or.inr (Or.inr (Or.inr (Or.inl ⟨h0, h1, h2, h3⟩))))
  · exact Or.inr (Or.inr (Or.inr (Or.inr (Or.inr (Or.inl ⟨h0, h1, h2, h3⟩)))))
  all_goals exact Or.inr (Or.inr (Or.inr (Or.inr (Or.inr (Or.inr ⟨h0, by simp [h1]⟩)))))

theorem hp_in01 : ∀ i, hp_in g i = 0 ∨ hp_in g i = 1
  | 0 => Or.inl rfl
  | i + 1 => by
    have := hp_in01 i
    simp only [hp_in]
    split
    · exact Or.inr rfl
    · split
      · split
        · exact Or.inl rfl
        · exact this
      · exact this
theorem hp_ocle : ∀ i, hp_oc g i ≤ i
  | 0 => Nat.le_refl _
  | i + 1 => by
    have := hp_ocle i
    simp only [hp_oc]
    split
    · omega
    · split <;> omega
theorem hp_fnS (i : Nat) : hp_fn g i ≤ hp_fn g (i + 1) := by
  simp only [hp_fn]; split <;> omega
theorem hp_fnM {i : Nat} : ∀ j, i ≤ j → hp_fn g i ≤ hp_fn g j
  | 0, h => by have : i = 0 := by omega
               rw [this]; exact Nat.le_refl _
  | j + 1, h => by
    by_cases e : i = j + 1
    · rw [e]; exact Nat.le_refl _
    · exact Nat.le_trans (hp_fnM j (by omega)) (hp_fnS j)
theorem hp_fnL {i j : Nat} (h : hp_fn g i < hp_fn g j) : i < j := by
  rcases Nat.lt_or_ge i j with z | z
  · exact z
  · have := hp_fnM (g := g) i z
    omega
/-- a FUNC token is known by its number -/
theorem hp_fnU {i j : Nat} (hi : g i = 1) (hj : g j = 1) (h : hp_fn g i = hp_fn g j) : i = j := by
  have a1 := (hp_s1 hi).2.2.2.1
  have a2 := (hp_s1 hj).2.2.2.1
  rcases Nat.lt_trichotomy i j with z | z | z
  · have := hp_fnM (g := g) j (show i + 1 ≤ j from z); omega
  · exact z
  · have := hp_fnM (g := g) i (show j + 1 ≤ i from z); omega
theorem hp_fnE {f : Nat} : ∀ n, f < hp_fn g n → ∃ p, p < n ∧ g p = 1 ∧ hp_fn g p = f
  | 0, h => absurd h (Nat.not_lt_zero _)
  | n + 1, h => by
    by_cases e : f < hp_fn g n
    · obtain ⟨p, h1, h2⟩ := hp_fnE n e
      exact ⟨p, by omega, h2⟩
    · simp only [hp_fn] at h
      split at h
      · exact ⟨n, by omega, by assumption, by omega⟩
      · exact absurd h e
/-- what an accepted beginning holds: counts, and every unclosed TRY by level -/
theorem hp_H : ∀ i, (∀ j, j < i → hp_tk g a j) → (hp_in g i = 0 → hp_oc g i = 0) ∧ hp_fn g i ≤ 4 ∧ 2 * hp_fn g i ≤ i + hp_in g i ∧ (0 < i → 0 < hp_fn g i) ∧
    ∀ l, l < hp_oc g i → hp_ot g i l < i ∧ g (hp_ot g i l) = 3 ∧ hp_oc g (hp_ot g i l) = l ∧ hp_in g (hp_ot g i l) = 1 ∧ hp_fn g (hp_ot g i l) = hp_fn g i ∧ 1 ≤ hp_pt g i l ∧ hp_pt g i l ≤ 3 ∧ ∀ m, m < l → hp_ot g (hp_ot g i l) m = hp_ot g i m ∧ hp_pt g (hp_ot g i l) m = hp_pt g i m := by
  intro i
  induction i with
  | zero => intro _; exact ⟨fun _ => rfl, Nat.zero_le _, Nat.zero_le _, fun h => h, fun l h => absurd h (Nat.not_lt_zero _)⟩
  | succ i ih =>
  intro K
  obtain ⟨b1, b2, b3, b4, b5⟩ := ih fun j hj => K j (by omega)
  rcases hp_tc (K i (by omega)) with ⟨h1, h2, h3⟩ | ⟨h0, h1, h2⟩ | ⟨h0, h1, h2, h3⟩ | ⟨h0, h1⟩ | ⟨h0, h1, h2, h3⟩ | ⟨h0, h1, h2, h3⟩ | ⟨h0, h1⟩
  · obtain ⟨e1, e2, e3, e4, e5⟩ := hp_s1 h2
    have z := b1 h1
    rw [e1, e2, e3, e4, e5]
    exact ⟨fun h => absurd h (by decide), by omega, by omega, fun _ => by omega, fun l hl => by omega⟩
  · obtain ⟨e1, e2, e3, e4, e5⟩ := hp_s2a h1 h2
    rw [e1, e2, e3, e4, e5]
    refine ⟨fun _ => rfl, b2, by omega, fun _ => ?_, fun l hl => absurd hl (Nat.not_lt_zero _)⟩
    rcases Nat.eq_zero_or_pos i with z | z
    · subst z; simp [hp_in] at h0
    · exact b4 z
  all_goals
    have ip : 0 < i := by
      rcases Nat.eq_zero_or_pos i with z | z
      · subst z; simp [hp_in] at h0
      · exact z
  · obtain ⟨e1, e2, e3, e4, e5⟩ := hp_s2b h1 h2
    rw [e1, e2, e3, e4, e5]
    refine ⟨fun h => by omega, b2, by omega, fun _ => b4 ip, fun l hl => ?_⟩
    obtain ⟨c1, c2⟩ := b5 l (by omega)
    exact ⟨by omega, c2⟩
  · obtain ⟨e1, e2, e3, e4, e5⟩ := hp_s3 h1
    rw [e1, e2, e3, e4, e5]
    refine ⟨fun h => by omega, b2, by omega, fun _ => b4 ip, fun l hl => ?_⟩
    by_cases e : l = hp_oc g i
    · subst e
      rw [hp_uS, hp_uS]
      refine ⟨by omega, h1, rfl, h0, rfl, by omega, by omega, fun m hm => ?_⟩
      rw [hp_uN (by omega), hp_uN (by omega)]
      exact ⟨rfl, rfl⟩
    · rw [hp_uN e, hp_uN e]
      obtain ⟨c1, c2, c3, c4, c5, c6, c7, c8⟩ := b5 l (by omega)
      refine ⟨by omega, c2, c3, c4, c5, c6, c7, fun m hm => ?_⟩
      rw [hp_uN (by omega), hp_uN (by omega)]
      exact c8 m hm
  · obtain ⟨e1, e2, e3, e4, e5⟩ := hp_s4 h1
    rw [e1, e2, e3, e4, e5]
    refine ⟨fun h => by omega, b2, by omega, fun _ => b4 ip, fun l hl => ?_⟩
    obtain ⟨c1, c2, c3, c4, c5, c6, c7, c8⟩ := b5 l hl
    refine ⟨by omega, c2, c3, c4, c5, ?_, ?_, fun m hm => ?_⟩
    · by_cases e : l = hp_oc g i - 1
      · rw [e, hp_uS]; omega
      · rw [hp_uN e]; exact c6
    · by_cases e : l = hp_oc g i - 1
      · rw [e, hp_uS]; omega
      · rw [hp_uN e]; exact c7
    · rw [hp_uN (by omega)]
      exact c8 m hm
  · obtain ⟨e1, e2, e3, e4, e5⟩ := hp_s5 h1
    rw [e1, e2, e3, e4, e5]
    refine ⟨fun h => by omega, b2, by omega, fun _ => b4 ip, fun l hl => ?_⟩
    obtain ⟨c1, c2, c3, c4, c5, c6, c7, c8⟩ := b5 l hl
    refine ⟨by omega, c2, c3, c4, c5, ?_, ?_, fun m hm => ?_⟩
    · by_cases e : l = hp_oc g i - 1
      · rw [e, hp_uS]; omega
      · rw [hp_uN e]; exact c6
    · by_cases e : l = hp_oc g i - 1
      · rw [e, hp_uS]; omega
      · rw [hp_uN e]; exact c7
    · rw [hp_uN (by omega)]
      exact c8 m hm
  · obtain ⟨e1, e2, e3, e4, e5⟩ := hp_s6 h1
    rw [e1, e2, e3, e4, e5]
    refine ⟨fun h => by omega, b2, by omega, fun _ => b4 ip, fun l hl => ?_⟩
    obtain ⟨c1, c2⟩ := b5 l hl
    exact ⟨by omega, c2⟩
end HP
end
section
section HC
variable {g a : Nat → Int32} {n : Nat}
/-! C: which TRY a clause belongs to -/
/-- token x is a CATCH, FINALLY or END of the TRY t -/
def ow_O (g : Nat → Int32) (t x : Nat) : Prop := (g x = 2 ∨ g x = 4 ∨ g x = 5) ∧ 0 < hp_oc g x ∧ hp_ot g x (hp_oc g x - 1) = t
/-- TRY t is unclosed at q -/
def ow_P (g : Nat → Int32) (t q : Nat) : Prop := hp_oc g t < hp_oc g q ∧ hp_ot g q (hp_oc g t) = t
/-- tokens below i are accepted -/
def ow_K (g a : Nat → Int32) (i : Nat) : Prop := ∀ j, j < i → hp_tk g a j
theorem ow_Kl {i j : Nat} (h : ow_K g a j) (hi : i ≤ j) : ow_K g a i := fun k hk => h k (by omega)
/-- an owner: a TRY before, one level up, and unclosed here -/
theorem ow_1 {t x : Nat} (K : ow_K g a x) (h : ow_O g t x) : t < x ∧ g t = 3 ∧ hp_oc g t = hp_oc g x - 1 ∧ hp_fn g t = hp_fn g x ∧ hp_in g t = 1 ∧ ow_P g t x := by
  obtain ⟨h1, h2, h3⟩ := h
  obtain ⟨c1, c2, c3, c4, c5, c6, c7, c8⟩ := (hp_H x K).2.2.2.2 (hp_oc g x - 1) (by omega)
  rw [h3] at c1 c2 c3 c4 c5
  refine ⟨c1, c2, c3, c5, c4, ?_, ?_⟩
  · omega
  · rw [c3]; exact h3
/-- an unclosed TRY: what it is -/
theorem ow_2 {t q : Nat} (K : ow_K g a q) (h : ow_P g t q) : t < q ∧ g t = 3 ∧ hp_fn g t = hp_fn g q ∧ hp_in g t = 1 ∧ 1 ≤ hp_pt g q (hp_oc g t) ∧ hp_pt g q (hp_oc g t) ≤ 3 ∧ ∀ m, m < hp_oc g t → hp_ot g t m = hp_ot g q m ∧ hp_pt g t m = hp_pt g q m := by
  obtain ⟨h1, h2⟩ := h
  obtain ⟨c1, c2, c3, c4, c5, c6, c7, c8⟩ := (hp_H q K).2.2.2.2 (hp_oc g t) h1
  rw [h2] at c1 c2 c4 c5 c8
  exact ⟨c1, c2, c5, c4, c6, c7, c8⟩
/-- the parent of a place inside a TRY -/
theorem ow_3 {q : Nat} (K : ow_K g a q) (h : 0 < hp_oc g q) : ow_P g (hp_ot g q (hp_oc g q - 1)) q ∧ hp_oc g (hp_ot g q (hp_oc g q - 1)) = hp_oc g q - 1 := by
  obtain ⟨c1, c2, c3, c4, c5, c6, c7, c8⟩ := (hp_H q K).2.2.2.2 (hp_oc g q - 1) (by omega)
  refine ⟨⟨?_, ?_⟩, c3⟩
  · rw [c3]; omega
  · rw [c3]
theorem ow_in {q : Nat} (K : ow_K g a q) (h : 0 < hp_oc g q) : hp_in g q = 1 := by
  rcases hp_in01 (g := g) q with z | z
  · have := (hp_H q K).1 z; omega
  · exact z
/-- an unclosed TRY stays unclosed but for its own END -/
theorem ow_4 {t q : Nat} (K : ow_K g a (q + 1)) (h : ow_P g t q) (hn : ¬ (g q = 2 ∧ hp_oc g q = hp_oc g t + 1)) : ow_P g t (q + 1) := by
  obtain ⟨h1, h2⟩ := h
  rcases hp_tc (K q (by omega)) with ⟨i1, i2, i3⟩ | ⟨i0, i1, i2⟩ | ⟨i0, i1, i2, i3⟩ | ⟨i0, i1⟩ | ⟨i0, i1, i2, i3⟩ | ⟨i0, i1, i2, i3⟩ | ⟨i0, i1⟩
  · have := (hp_H q (ow_Kl K (by omega))).1 i1; omega
  · omega
  · obtain ⟨e1, e2, e3, e4, e5⟩ := hp_s2b i1 i2
    have : ¬ hp_oc g q = hp_oc g t + 1 := fun e => hn ⟨i1, e⟩
    unfold ow_P; rw [e1, e2]; exact ⟨by omega, h2⟩
  · obtain ⟨e1, e2, e3, e4, e5⟩ := hp_s3 i1
    unfold ow_P; rw [e1, e2, hp_uN (by omega)]; exact ⟨by omega, h2⟩
  · obtain ⟨e1, e2, e3, e4, e5⟩ := hp_s4 i1
    unfold ow_P; rw [e1, e2]; exact ⟨h1, h2⟩
  · obtain ⟨e1, e2, e3, e4, e5⟩ := hp_s5 i1
    unfold ow_P; rw [e1, e2]; exact ⟨h1, h2⟩
  · obtain ⟨e1, e2, e3, e4, e5⟩ := hp_s6 i1
    unfold ow_P; rw [e1, e2]; exact ⟨h1, h2⟩
/-- and backwards: what is unclosed at q + 1 and older than q was unclosed at q, with its part kept but for a clause of its own at q -/
theorem ow_5 {t q : Nat} (K : ow_K g a (q + 1)) (h : ow_P g t (q + 1)) (htq : t ≠ q) : ow_P g t q ∧ (hp_pt g (q + 1) (hp_oc g t) = hp_pt g q (hp_oc g t) ∨ (g q = 4 ∧ ow_O g t q ∧ hp_pt g q (hp_oc g t) ≠ 3 ∧ hp_pt g (q + 1) (hp_oc g t) = 2) ∨ (g q = 5 ∧ ow_O g t q ∧ hp_pt g q (hp_oc g t) ≠ 3 ∧ hp_pt g (q + 1) (hp_oc g t) = 3)) := by
  obtain ⟨h1, h2⟩ := h
  rcases hp_tc (K q (by omega)) with ⟨i1, i2, i3⟩ | ⟨i0, i1, i2⟩ | ⟨i0, i1, i2, i3⟩ | ⟨i0, i1⟩ | ⟨i0, i1, i2, i3⟩ | ⟨i0, i1, i2, i3⟩ | ⟨i0, i1⟩
  · have z := (hp_H q (ow_Kl K (by omega))).1 i1
    rw [(hp_s1 i2).1] at h1; omega
  · rw [(hp_s2a i1 i2).1] at h1; omega
  · obtain ⟨e1, e2, e3, e4, e5⟩ := hp_s2b i1 i2
    rw [e1] at h1; rw [e2] at h2; rw [e3]
    exact ⟨⟨by omega, h2⟩, Or.inl rfl⟩
  · obtain ⟨e1, e2, e3, e4, e5⟩ := hp_s3 i1
    rw [e1] at h1; rw [e2] at h2; rw [e3]
    by_cases e : hp_oc g t = hp_oc g q
    · rw [e, hp_uS] at h2; exact absurd h2.symm htq
    · rw [hp_uN e] at h2; rw [hp_uN e]
      exact ⟨⟨by omega, h2⟩, Or.inl rfl⟩
  · obtain ⟨e1, e2, e3, e4, e5⟩ := hp_s4 i1
    rw [e1] at h1; rw [e2] at h2; rw [e3]
    refine ⟨⟨h1, h2⟩, ?_⟩
    by_cases e : hp_oc g t = hp_oc g q - 1
    · right; left
      rw [e, hp_uS]
      exact ⟨i1, ⟨Or.inr (Or.inl i1), i2, by rw [← e]; exact h2⟩, i3, rfl⟩
    · left; rw [hp_uN e]
  · obtain ⟨e1, e2, e3, e4, e5⟩ := hp_s5 i1
    rw [e1] at h1; rw [e2] at h2; rw [e3]
    refine ⟨⟨h1, h2⟩, ?_⟩
    by_cases e : hp_oc g t = hp_oc g q - 1
    · right; right
      rw [e, hp_uS]
      exact ⟨i1, ⟨Or.inr (Or.inr i1), i2, by rw [← e]; exact h2⟩, i3, rfl⟩
    · left; rw [hp_uN e]
  · obtain ⟨e1, e2, e3, e4, e5⟩ := hp_s6 i1
    rw [e1] at h1; rw [e2] at h2; rw [e3]
    exact ⟨⟨h1, h2⟩, Or.inl rfl⟩
/-- the place behind a clause lies in it -/
theorem ow_6 {t x : Nat} (K : ow_K g a (x + 1)) (h : ow_O g t x) : (g x = 2 → hp_oc g (x + 1) = hp_oc g t ∧ hp_in g (x + 1) = 1 ∧ hp_fn g (x + 1) = hp_fn g t ∧ (∀ m, m < hp_oc g t → hp_ot g (x + 1) m = hp_ot g t m ∧ hp_pt g (x + 1) m = hp_pt g t m)) ∧
    (g x = 4 ∨ g x = 5 → hp_oc g (x + 1) = hp_oc g t + 1 ∧ hp_ot g (x + 1) (hp_oc g t) = t ∧ hp_in g (x + 1) = 1 ∧ hp_fn g (x + 1) = hp_fn g t) ∧ (g x = 4 → hp_pt g (x + 1) (hp_oc g t) = 2) ∧ (g x = 5 → hp_pt g (x + 1) (hp_oc g t) = 3) := by
  have Kx := ow_Kl K (show x ≤ x + 1 by omega)
  obtain ⟨c1, c2, c3, c4, c5, c6⟩ := ow_1 Kx h
  obtain ⟨h1, h2, h3⟩ := h
  have hin := ow_in Kx h2
  obtain ⟨d1, d2, d3, d4, d5, d6, d7⟩ := ow_2 Kx c6
  refine ⟨fun e => ?_, fun e => ?_, fun e => ?_, fun e => ?_⟩
  · obtain ⟨e1, e2, e3, e4, e5⟩ := hp_s2b e h2
    rw [e1, e2, e3, e4, e5]
    exact ⟨c3.symm, hin, c4.symm, fun m hm => ⟨(d7 m hm).1.symm, (d7 m hm).2.symm⟩⟩
  · rcases e with e | e
    · obtain ⟨e1, e2, e3, e4, e5⟩ := hp_s4 e
      rw [e1, e2, e4, e5]
      exact ⟨by omega, c6.2, hin, c4.symm⟩
    · obtain ⟨e1, e2, e3, e4, e5⟩ := hp_s5 e
      rw [e1, e2, e4, e5]
      exact ⟨by omega, c6.2, hin, c4.symm⟩
  · rw [(hp_s4 e).2.2.1, c3, hp_uS]
  · rw [(hp_s5 e).2.2.1, c3, hp_uS]
/-- behind a clause: an END closes for ever, a FINALLY is the last part -/
theorem ow_7 {t x : Nat} (hx : ow_O g t x) : ∀ q, ow_K g a q → x < q → (g x = 2 → ¬ ow_P g t q) ∧ (ow_P g t q → 2 ≤ hp_pt g q (hp_oc g t)) ∧ (g x = 5 → ow_P g t q → hp_pt g q (hp_oc g t) = 3) := by
  intro q
  induction q with
  | zero => intro _ h; omega
  | succ q ih =>
  intro K hq
  by_cases e : x = q
  · subst e
    obtain ⟨c1, c2, c3, c4⟩ := ow_6 K hx
    refine ⟨fun e h => ?_, fun h => ?_, fun e _ => c4 e⟩
    · have := h.1; rw [(c1 e).1] at this; omega
    · rcases hx.1 with e | e | e
      · have := h.1; rw [(c1 e).1] at this; omega
      · rw [c3 e]; omega
      · rw [c4 e]; omega
  · obtain ⟨i1, i2, i3⟩ := ih (ow_Kl K (by omega)) (by omega)
    have htx := (ow_1 (ow_Kl K (by omega)) hx).1
    refine ⟨fun e h => i1 e (ow_5 K h (by omega)).1, fun h => ?_, fun e h => ?_⟩
    · obtain ⟨o, s | ⟨-, -, -, s⟩ | ⟨-, -, -, s⟩⟩ := ow_5 K h (by omega)
      · rw [s]; exact i2 o
      · rw [s]; omega
      · rw [s]; omega
    · obtain ⟨o, s | ⟨-, -, s, -⟩ | ⟨-, -, s, -⟩⟩ := ow_5 K h (by omega)
      · rw [s]; exact i3 e o
      · exact absurd (i3 e o) s
      · exact absurd (i3 e o) s
/-- nothing of t behind its END; no CATCH and no FINALLY behind its FINALLY -/
theorem ow_8 {t x y : Nat} (K : ow_K g a (y + 1)) (hx : ow_O g t x) (hy : ow_O g t y) (h : x < y) : g x ≠ 2 ∧ (g x = 5 → g y = 2) := by
  have Ky := ow_Kl K (show y ≤ y + 1 by omega)
  obtain ⟨c1, c2, c3⟩ := ow_7 hx y Ky h
  obtain ⟨d1, d2, d3, d4, d5, d6⟩ := ow_1 Ky hy
  refine ⟨fun e => c1 e d6, fun e => ?_⟩
  have p3 := c3 e d6
  rcases hp_tc (K y (by omega)) with ⟨i1, i2, i3⟩ | ⟨i0, i1, i2⟩ | ⟨i0, i1, i2, i3⟩ | ⟨i0, i1⟩ | ⟨i0, i1, i2, i3⟩ | ⟨i0, i1, i2, i3⟩ | ⟨i0, i1⟩
  · rcases hy.1 with z | z | z <;> rw [i2] at z <;> exact absurd z (by decide)
  · exact i1
  · exact i1
  · rcases hy.1 with z | z | z <;> rw [i1] at z <;> exact absurd z (by decide)
  · rw [← d3] at i3; exact absurd p3 i3
  · rw [← d3] at i3; exact absurd p3 i3
  · rcases hy.1 with z | z | z <;> rw [z] at i1 <;> exact absurd i1 (by unfold hp_pl; decide)
/-- in its try body no clause has come yet; before its FINALLY none -/
theorem ow_9 {t x q : Nat} (K : ow_K g a q) (hq : ow_P g t q) (hx : ow_O g t x) (h : hp_pt g q (hp_oc g t) = 1 ∨ (hp_pt g q (hp_oc g t) ≠ 3 ∧ g x = 5)) : q ≤ x := by
  rcases Nat.lt_or_ge x q with z | z
  · obtain ⟨c1, c2, c3⟩ := ow_7 hx q K z
    rcases h with h | ⟨h, e⟩
    · have := c2 hq; omega
    · exact absurd (c3 e hq) h
  · exact z

/-! D: a search for a clause -/
/-- the compiled program -/
def ow_G (g a : Nat → Int32) (n : Nat) : Prop := n ≤ 32 ∧ ow_K g a n ∧ hp_in g n = 0 ∧ 0 < n ∧ ∀ i, i < n → g i = 11 → ∃ f : Nat, hp_fn g i ≤ f ∧ f < hp_fn g n ∧ a i = nI f
/-- r is the least token below n with P, or -1 -/
def ow_L (n : Nat) (P : Nat → Prop) (r : Int32) : Prop := (∃ x, x < n ∧ r = nI x ∧ P x ∧ ∀ y, y < x → ¬ P y) ∨ (r = -1 ∧ ∀ y, y < n → ¬ P y)
theorem ow_Le (n : Nat) (P : Nat → Prop) : ∃ r, ow_L n P r := by
  induction n with
  | zero => exact ⟨-1, Or.inr ⟨rfl, fun y h => absurd h (Nat.not_lt_zero _)⟩⟩
  | succ n ih =>
  obtain ⟨r, ⟨x, h1, h2⟩ | ⟨h1, h2⟩⟩ := ih
  · exact ⟨r, Or.inl ⟨x, by omega, h2⟩⟩
  · rcases Classical.em (P n) with z | z
    · exact ⟨nI n, Or.inl ⟨n, by omega, rfl, z, h2⟩⟩
    · refine ⟨-1, Or.inr ⟨rfl, fun y hy => ?_⟩⟩
      by_cases e : y = n
      · rw [e]; exact z
      · exact h2 y (by omega)
/-- at a first P the answer is known -/
theorem ow_Lh {P : Nat → Prop} {r : Int32} {x : Nat} (h : ow_L n P r) (hx : x < n) (hP : P x) (hl : ∀ y, y < x → ¬ P y) : r = nI x := by
  rcases h with ⟨x', h1, h2, h3, h4⟩ | ⟨h1, h2⟩
  · rcases Nat.lt_trichotomy x x' with z | z | z
    · exact absurd hP (h4 x z)
    · rw [h2, z]
    · exact absurd h3 (hl x' z)
  · exact absurd hP (h2 x hx)
theorem ow_Ln {P : Nat → Prop} {r : Int32} (h : ow_L n P r) (hl : ∀ y, y < n → ¬ P y) : r = -1 := by
  rcases h with ⟨x', h1, h2, h3, h4⟩ | ⟨h1, h2⟩
  · exact absurd h3 (hl x' h1)
  · exact h1
/-- c is the next clause of t behind q -/
def ow_N (g : Nat → Int32) (n t q c : Nat) : Prop := q < c ∧ c < n ∧ ow_O g t c ∧ ∀ y, q < y → y < c → ¬ ow_O g t y
/-- a place of t from which a next clause is looked for -/
def ow_S (g : Nat → Int32) (t q : Nat) : Prop := (q = t ∧ g t = 3) ∨ (ow_O g t q ∧ g q ≠ 2)
theorem ow_Sp {t q : Nat} (K : ow_K g a (q + 1)) (h : ow_S g t q) : ow_P g t (q + 1) ∧ hp_oc g (q + 1) = hp_oc g t + 1 := by
  rcases h with ⟨rfl, h⟩ | ⟨h, e⟩
  · obtain ⟨e1, e2, e3, e4, e5⟩ := hp_s3 h
    unfold ow_P
    rw [e1, e2, hp_uS]
    exact ⟨⟨by omega, rfl⟩, rfl⟩
  · have := (ow_6 K h).2.1 (by rcases h.1 with z | z | z; exact absurd z e; exact Or.inl z; exact Or.inr z)
    unfold ow_P
    rw [this.1, this.2.1]
    exact ⟨⟨by omega, rfl⟩, rfl⟩
/-- a program's end has nothing unclosed -/
theorem ow_Ge (G : ow_G g a n) : hp_oc g n = 0 := (hp_H n G.2.1).1 G.2.2.1
theorem ow_Gn (G : ow_G g a n) {t q : Nat} (h : ow_P g t q) (hq : q ≤ n) : q < n := by
  rcases Nat.lt_or_ge q n with z | z
  · exact z
  · have : q = n := by omega
    subst this
    have := h.1; rw [ow_Ge G] at this; omega
/-- an own clause of the top TRY -/
theorem ow_Ot {t q : Nat} (hq : ow_P g t q) (hc : hp_oc g q = hp_oc g t + 1) (hg : g q = 2 ∨ g q = 4 ∨ g q = 5) : ow_O g t q :=
  ⟨hg, by omega, by rw [hc]; exact hq.2⟩
theorem ow_On {t q : Nat} (K : ow_K g a q) (hc : hp_oc g q ≠ hp_oc g t + 1) : ¬ ow_O g t q := fun h => by
  have := (ow_1 K h).2.2.1
  have := h.2.1
  omega
end HC
end
section
section HS
variable {g a fs tf xot xop ft fp fy tr yp sk so sh sy : Nat → Int32} {n : Nat} {cm ct cp cf xo xi xs xh dd pp ac tl st rs ut cr fr yr : Int32}
/-! E: the reference's searches -/
theorem hp_z0 {m : Nat} (h : m = 0) : nI m = 0 := by rw [h]; exact nI_0
theorem yn_6 (G : ow_G g a n) {t q : Nat} : ∀ f j, j ≤ n → n - j < f → q < j → ow_P g t j → (∀ y, q < y → y < j → ¬ ow_O g t y) → ∃ c, ow_N g n t q c ∧ ∀ post : Int32 → Prop, post (nI c) → wY_nextClause_6 post cm ct (nI n) cp cf st rs ut tl cr fr dd pp ac yr g a tr yp sk so sh sy f (nI (hp_oc g j - hp_oc g t - 1)) (nI j) := by
  have hn := G.1
  intro f
  induction f with
  | zero => intro j _ h; omega
  | succ f ih =>
  intro j hj hf hqj hP hl
  have z := ow_Gn G hP hj
  have K1 := ow_Kl G.2.1 (show j + 1 ≤ n by omega)
  have K0 := ow_Kl G.2.1 (show j ≤ n by omega)
  have hoc := hP.1
  have hol := hp_ocle (g := g) j
  have b1 : ¬ nI n ≤ nI j := nI_ge z (by omega)
  have b2 : vp_in (nI j) 32 := vp_in_nI (by omega) (by omega)
  have b3 : (nI j).toNatClampNeg = j := nI_clamp (by omega)
  have found : (g j = 2 ∨ g j = 4 ∨ g j = 5) → hp_oc g j = hp_oc g t + 1 → ow_N g n t q j := fun h e => ⟨hqj, z, ow_Ot hP e h, hl⟩
  -- what goes on: j is no clause of t
  have go : ∀ m, hp_oc g (j + 1) - hp_oc g t - 1 = m → ¬ ow_O g t j → ow_P g t (j + 1) → ∃ c, ow_N g n t q c ∧ ∀ post : Int32 → Prop, post (nI c) → wY_nextClause_6 post cm ct (nI n) cp cf st rs ut tl cr fr dd pp ac yr g a tr yp sk so sh sy f (nI m) (nI (j + 1)) := fun m hm hno hP1 => by
    subst hm
    refine ih (j + 1) (by omega) (by omega) (by omega) hP1 (fun y h1 h2 => ?_)
    by_cases e : y = j
    · rw [e]; exact hno
    · exact hl y h1 (by omega)
  by_cases k3 : g j = 3
  · obtain ⟨c, hc, hw⟩ := go (hp_oc g j - hp_oc g t - 1 + 1) (by rw [(hp_s3 k3).1]; omega) (fun h => by rcases h.1 with e | e | e <;> rw [k3] at e <;> exact absurd e (by decide)) (ow_4 K1 hP (fun h => by rw [k3] at h; exact absurd h.1 (by decide)))
    exact ⟨c, hc, fun post hp => br_f b1 ⟨b2, nm_r (congrArg g b3) (br_t k3 (nm_r (nI_1 _) (nm_r (nI_1 j) (hw post hp))))⟩⟩
  by_cases k2 : g j = 2
  · by_cases e : hp_oc g j = hp_oc g t + 1
    · exact ⟨j, found (Or.inl k2) e, fun post hp => br_f b1 ⟨b2, nm_r (congrArg g b3) (br_f k3 (br_t k2 (br_t (hp_z0 (by omega)) hp)))⟩⟩
    · obtain ⟨m, hm⟩ : ∃ m, hp_oc g j - hp_oc g t - 1 = m + 1 := ⟨hp_oc g j - hp_oc g t - 2, by omega⟩
      obtain ⟨c, hc, hw⟩ := go m (by rw [(hp_s2b k2 (by omega)).1]; omega) (ow_On K0 e) (ow_4 K1 hP (fun h => e h.2))
      rw [hm]
      exact ⟨c, hc, fun post hp => br_f b1 ⟨b2, nm_r (congrArg g b3) (br_f k3 (br_t k2 (br_f (nI_ne0 (by omega) (by omega)) (nm_r (hp_m1 m) (nm_r (nI_1 j) (hw post hp))))))⟩⟩
  have n64 : (g j = 4 ∨ g j = 5) → ∃ c, ow_N g n t q c ∧ ∀ post : Int32 → Prop, post (nI c) → wY_nextClause_64 post (wY_nextClause_6 post cm ct (nI n) cp cf st rs ut tl cr fr dd pp ac yr g a tr yp sk so sh sy f) (nI (hp_oc g j - hp_oc g t - 1)) (nI j) cm ct (nI n) cp cf st rs ut tl cr fr dd pp ac yr g a tr yp sk so sh sy := fun k => by
    have eoc : hp_oc g (j + 1) = hp_oc g j := by rcases k with k | k; exact (hp_s4 k).1; exact (hp_s5 k).1
    by_cases e : hp_oc g j = hp_oc g t + 1
    · exact ⟨j, found (Or.inr k) e, fun post hp => br_t (hp_z0 (by omega)) hp⟩
    · obtain ⟨c, hc, hw⟩ := go (hp_oc g j - hp_oc g t - 1) (by rw [eoc]) (ow_On K0 e) (ow_4 K1 hP (fun h => e h.2))
      exact ⟨c, hc, fun post hp => br_f (nI_ne0 (by omega) (by omega)) (nm_r (nI_1 j) (hw post hp))⟩
  by_cases k4 : g j = 4
  · obtain ⟨c, hc, hw⟩ := n64 (Or.inl k4)
    exact ⟨c, hc, fun post hp => br_f b1 ⟨b2, nm_r (congrArg g b3) (br_f k3 (br_f k2 (br_t k4 (hw post hp))))⟩⟩
  by_cases k5 : g j = 5
  · obtain ⟨c, hc, hw⟩ := n64 (Or.inr k5)
    exact ⟨c, hc, fun post hp => br_f b1 ⟨b2, nm_r (congrArg g b3) (br_f k3 (br_f k2 (br_f k4 (br_t k5 (hw post hp)))))⟩⟩
  have hno : ¬ ow_O g t j := fun h => by rcases h.1 with e | e | e; exact k2 e; exact k4 e; exact k5 e
  have eoc : hp_oc g (j + 1) = hp_oc g j := by simp [hp_oc, k3, k2]
  obtain ⟨c, hc, hw⟩ := go (hp_oc g j - hp_oc g t - 1) (by rw [eoc]) hno (ow_4 K1 hP (fun h => k2 h.1))
  exact ⟨c, hc, fun post hp => br_f b1 ⟨b2, nm_r (congrArg g b3) (br_f k3 (br_f k2 (br_f k4 (br_f k5 (nm_r (nI_1 j) (hw post hp))))))⟩⟩
theorem yn_w (G : ow_G g a n) {t q : Nat} (hS : ow_S g t q) (hq : q < n) : ∃ c, ow_N g n t q c ∧ ∀ post : Int32 → Prop, post (nI c) → wpY_nextClause post (cm, ct, nI n, cp, cf, st, rs, ut, tl, cr, fr, dd, pp, ac, yr, g, a, tr, yp, sk, so, sh, sy) (nI q) := by
  obtain ⟨h1, h2⟩ := ow_Sp (ow_Kl G.2.1 (show q + 1 ≤ n by omega)) hS
  obtain ⟨c, hc, hw⟩ := yn_6 (cm := cm) (ct := ct) (cp := cp) (cf := cf) (st := st) (rs := rs) (ut := ut) (tl := tl) (cr := cr) (fr := fr) (dd := dd) (pp := pp) (ac := ac) (yr := yr) (tr := tr) (yp := yp) (sk := sk) (so := so) (sh := sh) (sy := sy) G (t := t) (q := q) (n + 1) (q + 1) (by omega) (by omega) (by omega) h1 (fun y _ _ => by omega)
  refine ⟨c, hc, fun post hp => ?_⟩
  have := hw post hp
  rw [show hp_oc g (q + 1) - hp_oc g t - 1 = 0 by omega] at this
  exact nm_r (nI_1 q) ⟨_, this⟩
theorem yc_9 (G : ow_G g a n) {t : Nat} {w r : Int32} (hr : ow_L n (fun x => ow_O g t x ∧ g x = w) r) (post : Int32 → Prop) (hp : post r) : ∀ f c m, n - c < f → c < n → ow_O g t c → m ≤ c → (∀ y, y < c → ¬ (ow_O g t y ∧ g y = w)) → wY_clauseOf_9 post w cm ct (nI n) cp cf st rs ut tl cr fr dd pp ac yr g a tr yp sk so sh sy f (nI c) (nI m) := by
  have hn := G.1
  intro f
  induction f with
  | zero => intro c m h; omega
  | succ f ih =>
  intro c m hf hc hO hm hl
  have b1 : ¬ nI n ≤ nI m := nI_ge (by omega) (by omega)
  have b2 : vp_in (nI c) 32 := vp_in_nI (by omega) (by omega)
  have b3 : (nI c).toNatClampNeg = c := nI_clamp (by omega)
  have b4 : ¬ nI c < 0 := nI_pos (by omega)
  by_cases k : g c = w
  · rw [ow_Lh hr hc ⟨hO, k⟩ hl] at hp
    exact br_f b1 (br_f b4 ⟨b2, br_t (by rw [b3]; exact k) hp⟩)
  have k' : ¬ g (nI c).toNatClampNeg = w := by rw [b3]; exact k
  by_cases k2 : g c = 2
  · rw [ow_Ln hr (fun y hy ho => by
      rcases Nat.lt_trichotomy y c with z | z | z
      · exact hl y z ho
      · rw [z] at ho; exact k ho.2
      · exact (ow_8 (ow_Kl G.2.1 (show y + 1 ≤ n by omega)) hO ho.1 z).1 k2)] at hp
    exact br_f b1 (br_f b4 ⟨b2, br_f k' ⟨b2, br_t (by rw [b3]; exact k2) hp⟩⟩)
  · obtain ⟨c', hc', hw⟩ := yn_w (cm := cm) (ct := ct) (cp := cp) (cf := cf) (st := st) (rs := rs) (ut := ut) (tl := tl) (cr := cr) (fr := fr) (dd := dd) (pp := pp) (ac := ac) (yr := yr) (tr := tr) (yp := yp) (sk := sk) (so := so) (sh := sh) (sy := sy) G (t := t) (q := c) (Or.inr ⟨hO, k2⟩) hc
    obtain ⟨d1, d2, d3, d4⟩ := hc'
    refine br_f b1 (br_f b4 ⟨b2, br_f k' ⟨b2, br_f (by rw [b3]; exact k2) (hw _ (nm_r (nI_1 m) (ih c' (m + 1) (by omega) d2 d3 (by omega) (fun y hy ho => ?_))))⟩⟩)
    rcases Nat.lt_trichotomy y c with z | z | z
    · exact hl y z ho
    · rw [z] at ho; exact k ho.2
    · exact d4 y z hy ho.1
theorem yc_w (G : ow_G g a n) {t : Nat} {w r : Int32} (ht : g t = 3) (htn : t < n) (hr : ow_L n (fun x => ow_O g t x ∧ g x = w) r) (post : Int32 → Prop) (hp : post r) : wpY_clauseOf post (cm, ct, nI n, cp, cf, st, rs, ut, tl, cr, fr, dd, pp, ac, yr, g, a, tr, yp, sk, so, sh, sy) (nI t) w := by
  obtain ⟨c, ⟨d1, d2, d3, d4⟩, hw⟩ := yn_w (cm := cm) (ct := ct) (cp := cp) (cf := cf) (st := st) (rs := rs) (ut := ut) (tl := tl) (cr := cr) (fr := fr) (dd := dd) (pp := pp) (ac := ac) (yr := yr) (tr := tr) (yp := yp) (sk := sk) (so := so) (sh := sh) (sy := sy) G (t := t) (q := t) (Or.inl ⟨rfl, ht⟩) htn
  unfold wpY_clauseOf
  dsimp only
  refine hw _ ⟨n + 1, ?_⟩
  have := yc_9 (cm := cm) (ct := ct) (cp := cp) (cf := cf) (st := st) (rs := rs) (ut := ut) (tl := tl) (cr := cr) (fr := fr) (dd := dd) (pp := pp) (ac := ac) (yr := yr) (tr := tr) (yp := yp) (sk := sk) (so := so) (sh := sh) (sy := sy) G hr post hp (n + 1) c 0 (by omega) d2 d3 (by omega) (fun y hy ho => ?_)
  · exact this
  · have h1 := (ow_1 (ow_Kl G.2.1 (show y ≤ n by omega)) ho.1).1
    exact d4 y h1 hy ho.1
theorem yf_4 (hn : n ≤ 32) {f p : Nat} (hp : p < n) (hg : g p = 1) (hf : hp_fn g p = f) (post : Int32 → Prop) (hpo : post (nI (p + 1))) : ∀ k j, j ≤ p → n - j < k → wY_funcStart_4 post (nI f) cm ct (nI n) cp cf st rs ut tl cr fr dd pp ac yr g a tr yp sk so sh sy k (nI (hp_fn g j)) (nI j) := by
  have fb : ∀ j, hp_fn g j ≤ j := by
    intro j
    induction j with
    | zero => exact Nat.le_refl _
    | succ j ih => simp only [hp_fn]; split <;> omega
  intro k
  induction k with
  | zero => intro j _ h; omega
  | succ k ih =>
  intro j hj hk
  have b1 : ¬ nI n ≤ nI j := nI_ge (by omega) (by omega)
  have b2 : vp_in (nI j) 32 := vp_in_nI (by omega) (by omega)
  have b3 : (nI j).toNatClampNeg = j := nI_clamp (by omega)
  have fb1 := fb j
  have fb2 := fb p
  by_cases e : j = p
  · subst e
    refine br_f b1 ⟨b2, br_t (by rw [b3]; exact hg) (br_t (by rw [hf]) ?_)⟩
    rw [nI_1]; exact hpo
  · have h1 := ih (j + 1) (by omega) (by omega)
    by_cases k1 : g j = 1
    · rw [(hp_s1 k1).2.2.2.1] at h1
      have : ¬ nI (hp_fn g j) = nI f := fun h => by
        have := hp_eq h (by omega) (by omega)
        exact e (hp_fnU k1 hg (by omega))
      exact br_f b1 ⟨b2, br_t (by rw [b3]; exact k1) (br_f this (nm_r (nI_1 _) (nm_r (nI_1 j) h1)))⟩
    · have e1 : hp_fn g (j + 1) = hp_fn g j := by simp [hp_fn, k1]
      rw [e1] at h1
      exact br_f b1 ⟨b2, br_f (by rw [b3]; exact k1) (nm_r (nI_1 j) h1)⟩
theorem yf_w (hn : n ≤ 32) {f p : Nat} (hp : p < n) (hg : g p = 1) (hf : hp_fn g p = f) (post : Int32 → Prop) (hpo : post (nI (p + 1))) : wpY_funcStart post (cm, ct, nI n, cp, cf, st, rs, ut, tl, cr, fr, dd, pp, ac, yr, g, a, tr, yp, sk, so, sh, sy) (nI f) :=
  ⟨n + 1, yf_4 hn hp hg hf post hpo (n + 1) 0 (Nat.zero_le _) (by omega)⟩

/-! F: the component's searches -/
/-- the component's table of owners -/
def ow_T (g tf : Nat → Int32) (n : Nat) : Prop := ∀ x, x < n → ∀ t, t < 32 → (tf x = nI t ↔ ow_O g t x)
theorem xf_2 (hn : n ≤ 32) (hT : ow_T g tf n) {t : Nat} (ht : t < 32) {w r : Int32} (hr : ow_L n (fun x => ow_O g t x ∧ g x = w) r) (post : Int32 → Prop) (hp : post r) : ∀ f i, i ≤ n → n - i < f → (∀ y, y < i → ¬ (ow_O g t y ∧ g y = w)) → wX_findPart_2 post (nI t) w cm ct (nI n) cp cf xo xi xs xh dd pp ac tl st rs ut cr fr g a fs tf xot xop ft fp fy tr f (nI i) := by
  intro f
  induction f with
  | zero => intro i _ h; omega
  | succ f ih =>
  intro i hi hf hl
  rcases Nat.lt_or_ge i n with z | z
  · have b1 : ¬ nI n ≤ nI i := nI_ge z (by omega)
    have b2 : vp_in (nI i) 32 := vp_in_nI (by omega) (by omega)
    have b3 : (nI i).toNatClampNeg = i := nI_clamp (by omega)
    have hT1 := hT i z t ht
    have go : ¬ (ow_O g t i ∧ g i = w) → wX_findPart_2 post (nI t) w cm ct (nI n) cp cf xo xi xs xh dd pp ac tl st rs ut cr fr g a fs tf xot xop ft fp fy tr f (nI (i + 1)) := fun h => ih (i + 1) (by omega) (by omega) (fun y hy => by
      by_cases e : y = i
      · rw [e]; exact h
      · exact hl y (by omega))
    by_cases k : g i = w
    · by_cases o : ow_O g t i
      · rw [ow_Lh hr z ⟨o, k⟩ hl] at hp
        exact br_f b1 ⟨b2, br_t (by rw [b3]; exact k) ⟨b2, br_t (by rw [b3]; exact hT1.mpr o) hp⟩⟩
      · exact br_f b1 ⟨b2, br_t (by rw [b3]; exact k) ⟨b2, br_f (by rw [b3]; exact fun h => o (hT1.mp h)) (nm_r (nI_1 i) (go fun h => o h.1))⟩⟩
    · exact br_f b1 ⟨b2, br_f (by rw [b3]; exact k) (nm_r (nI_1 i) (go fun h => k h.2))⟩
  · have : i = n := by omega
    subst this
    rw [ow_Ln hr hl] at hp
    exact br_t (nI_le (Nat.le_refl _) (by omega)) hp
theorem xf_w (hn : n ≤ 32) (hT : ow_T g tf n) {t : Nat} (ht : t < 32) {w r : Int32} (hr : ow_L n (fun x => ow_O g t x ∧ g x = w) r) (post : Int32 → Prop) (hp : post r) : wpX_findPart post (cm, ct, nI n, cp, cf, xo, xi, xs, xh, dd, pp, ac, tl, st, rs, ut, cr, fr, g, a, fs, tf, xot, xop, ft, fp, fy, tr) (nI t) w :=
  ⟨n + 1, xf_2 hn hT ht hr post hp (n + 1) 0 (Nat.zero_le _) (by omega) (fun y h => absurd h (Nat.not_lt_zero _))⟩
/-- clause x of t takes type ty -/
def ow_H (g a : Nat → Int32) (t : Nat) (ty : Int32) (x : Nat) : Prop := ow_O g t x ∧ g x = 4 ∧ (a x = 0 ∨ a x = ty)
theorem xa_14 (hn : n ≤ 32) (hT : ow_T g tf n) {t j : Nat} (ht : t < 32) (hj : j < 32) (hft : ft j = nI t) {ty r : Int32} (hr : ow_L n (ow_H g a t ty) r) (post : Int32 → Prop) (hp : post r) : ∀ f i, i ≤ n → n - i < f → (∀ y, y < i → ¬ ow_H g a t ty y) → wX_activeClause_14 post (nI j) ty cm ct (nI n) cp cf xo xi xs xh dd pp ac tl st rs ut cr fr g a fs tf xot xop ft fp fy tr f (nI i) := by
  have c2 : vp_in (nI j) 32 := vp_in_nI hj (by omega)
  have c3 : (nI j).toNatClampNeg = j := nI_clamp (by omega)
  intro f
  induction f with
  | zero => intro i _ h; omega
  | succ f ih =>
  intro i hi hf hl
  rcases Nat.lt_or_ge i n with z | z
  · have b1 : ¬ nI n ≤ nI i := nI_ge z (by omega)
    have b2 : vp_in (nI i) 32 := vp_in_nI (by omega) (by omega)
    have b3 : (nI i).toNatClampNeg = i := nI_clamp (by omega)
    have hT1 := hT i z t ht
    have n10 : ¬ (1 : Int32) = 0 := by decide
    have go : ¬ ow_H g a t ty i → wX_activeClause_14 post (nI j) ty cm ct (nI n) cp cf xo xi xs xh dd pp ac tl st rs ut cr fr g a fs tf xot xop ft fp fy tr f (nI (i + 1)) := fun h => ih (i + 1) (by omega) (by omega) (fun y hy => by
      by_cases e : y = i
      · rw [e]; exact h
      · exact hl y (by omega))
    by_cases k : g i = 4
    · by_cases o : ow_O g t i
      · have eo : tf (nI i).toNatClampNeg = ft (nI j).toNatClampNeg := by rw [b3, c3, hft]; exact hT1.mpr o
        by_cases a0 : a i = 0
        · rw [ow_Lh hr z ⟨o, k, Or.inl a0⟩ hl] at hp
          exact br_f b1 ⟨b2, br_t (by rw [b3]; exact k) ⟨b2, c2, br_t eo (br_f n10 ⟨b2, br_t (by rw [b3]; exact a0) hp⟩)⟩⟩
        · by_cases a1 : a i = ty
          · rw [ow_Lh hr z ⟨o, k, Or.inr a1⟩ hl] at hp
            exact br_f b1 ⟨b2, br_t (by rw [b3]; exact k) ⟨b2, c2, br_t eo (br_f n10 ⟨b2, br_f (by rw [b3]; exact a0) ⟨b2, br_t (by rw [b3]; exact a1) hp⟩⟩)⟩⟩
          · exact br_f b1 ⟨b2, br_t (by rw [b3]; exact k) ⟨b2, c2, br_t eo (br_f n10 ⟨b2, br_f (by rw [b3]; exact a0) ⟨b2, br_f (by rw [b3]; exact a1) (nm_r (nI_1 i) (go fun h => by rcases h.2.2 with q | q; exact a0 q; exact a1 q))⟩⟩)⟩⟩
      · have eo : ¬ tf (nI i).toNatClampNeg = ft (nI j).toNatClampNeg := by rw [b3, c3, hft]; exact fun h => o (hT1.mp h)
        exact br_f b1 ⟨b2, br_t (by rw [b3]; exact k) ⟨b2, c2, br_f eo (br_t rfl (nm_r (nI_1 i) (go fun h => o h.1)))⟩⟩
    · exact br_f b1 ⟨b2, br_f (by rw [b3]; exact k) (br_t rfl (nm_r (nI_1 i) (go fun h => k h.2.1)))⟩
  · have : i = n := by omega
    subst this
    rw [ow_Ln hr hl] at hp
    exact br_t (nI_le (Nat.le_refl _) (by omega)) hp
theorem xa_w (hn : n ≤ 32) (hT : ow_T g tf n) {t j : Nat} (ht : t < 32) (hj : j < 32) (hft : ft j = nI t) (hfp : fp j = 1) {ty r : Int32} (hr : ow_L n (ow_H g a t ty) r) (post : Int32 → Prop) (hp : post r) : wpX_activeClause post (cm, ct, nI n, cp, cf, xo, xi, xs, xh, dd, pp, ac, tl, st, rs, ut, cr, fr, g, a, fs, tf, xot, xop, ft, fp, fy, tr) (nI j) ty :=
  ⟨vp_in_nI hj (by omega), br_t (by rw [nI_clamp (show j < 2 ^ 31 by omega)]; exact hfp) ⟨n + 1, xa_14 hn hT ht hj hft hr post hp (n + 1) 0 (Nat.zero_le _) (by omega) (fun y h => absurd h (Nat.not_lt_zero _))⟩⟩
theorem xa_n {j : Nat} (hj : j < 32) (hfp : ¬ fp j = 1) {ty : Int32} (post : Int32 → Prop) (hp : post (-1)) : wpX_activeClause post (cm, ct, nI n, cp, cf, xo, xi, xs, xh, dd, pp, ac, tl, st, rs, ut, cr, fr, g, a, fs, tf, xot, xop, ft, fp, fy, tr) (nI j) ty :=
  ⟨vp_in_nI hj (by omega), br_f (by rw [nI_clamp (show j < 2 ^ 31 by omega)]; exact hfp) hp⟩
theorem xo_3 {j : Nat} (hj : j < 32) (hfp : fp j = 3) (post : Int32 → Prop) (hp : post (-1)) : wpX_owedFinally post (cm, ct, nI n, cp, cf, xo, xi, xs, xh, dd, pp, ac, tl, st, rs, ut, cr, fr, g, a, fs, tf, xot, xop, ft, fp, fy, tr) (nI j) :=
  ⟨vp_in_nI hj (by omega), br_t (by rw [nI_clamp (show j < 2 ^ 31 by omega)]; exact hfp) hp⟩
theorem xo_w (hn : n ≤ 32) (hT : ow_T g tf n) {t j : Nat} (ht : t < 32) (hj : j < 32) (hft : ft j = nI t) (hfp : ¬ fp j = 3) {r : Int32} (hr : ow_L n (fun x => ow_O g t x ∧ g x = 5) r) (post : Int32 → Prop) (hp : post r) : wpX_owedFinally post (cm, ct, nI n, cp, cf, xo, xi, xs, xh, dd, pp, ac, tl, st, rs, ut, cr, fr, g, a, fs, tf, xot, xop, ft, fp, fy, tr) (nI j) := by
  have c3 : (nI j).toNatClampNeg = j := nI_clamp (by omega)
  refine ⟨vp_in_nI hj (by omega), br_f (by rw [c3]; exact hfp) ⟨vp_in_nI hj (by omega), ?_⟩⟩
  rw [c3, hft]
  exact xf_w hn hT ht hr _ hp
end HS
end
section
section HF
variable {g a : Nat → Int32} {n : Nat} {T P : Nat → Nat} {d p : Nat}
/-! G: frames as the program's text has them -/
/-- the place that follows frame j - 1 -/
def rt_x (T : Nat → Nat) (d p j : Nat) : Nat := if j < d then T j else p
theorem rt_xl {j : Nat} (h : j < d) : rt_x T d p j = T j := if_pos h
theorem rt_xg {j : Nat} (h : d ≤ j) : rt_x T d p j = p := if_neg (by omega)
/-- a frame of token t in part pr hangs on the place q behind it -/
def rt_k (g : Nat → Int32) (t pr q : Nat) : Prop := (0 < hp_oc g q ∧ t = hp_ot g q (hp_oc g q - 1) ∧ pr = hp_pt g q (hp_oc g q - 1)) ∨ (hp_oc g q = 0 ∧ pr = 0 ∧ g t = 11 ∧ hp_fn g t < hp_fn g q)
def rt_K (g : Nat → Int32) (n : Nat) (T P : Nat → Nat) (d p : Nat) : Prop := p < n ∧ hp_in g p = 1 ∧ hp_oc g (rt_x T d p 0) = 0 ∧ ∀ j, j < d → T j < n ∧ hp_in g (T j) = 1 ∧ rt_k g (T j) (P j) (rt_x T d p (j + 1))
theorem rt_xn (R : rt_K g n T P d p) (j : Nat) : rt_x T d p j < n := by
  by_cases h : j < d
  · rw [rt_xl h]; exact (R.2.2.2 j h).1
  · rw [rt_xg (by omega)]; exact R.1
/-- a frame's token lies before the place behind it -/
theorem rt_lt (G : ow_G g a n) {t pr q : Nat} (hq : q < n) (h : rt_k g t pr q) : t < q := by
  rcases h with ⟨h1, h2, h3⟩ | ⟨h1, h2, h3, h4⟩
  · have := (ow_2 (ow_Kl G.2.1 (show q ≤ n by omega)) (ow_3 (ow_Kl G.2.1 (show q ≤ n by omega)) h1).1).1
    omega
  · exact hp_fnL h4
theorem rt_dj (G : ow_G g a n) (R : rt_K g n T P d p) : ∀ j, j ≤ d → j ≤ rt_x T d p j
  | 0, _ => Nat.zero_le _
  | j + 1, h => by
    have h1 := rt_dj G R j (by omega)
    rw [rt_xl (show j < d by omega)] at h1
    have := rt_lt G (rt_xn R (j + 1)) (R.2.2.2 j (by omega)).2.2
    omega
theorem rt_dp (G : ow_G g a n) (R : rt_K g n T P d p) : d ≤ p := by
  have := rt_dj G R d (Nat.le_refl _)
  rw [rt_xg (Nat.le_refl _)] at this
  exact this
/-- a try frame: its token and part -/
theorem rt_try (G : ow_G g a n) (R : rt_K g n T P d p) {j : Nat} (hj : j < d) (hP : P j ≠ 0) : 0 < hp_oc g (rt_x T d p (j + 1)) ∧ T j = hp_ot g (rt_x T d p (j + 1)) (hp_oc g (rt_x T d p (j + 1)) - 1) ∧ P j = hp_pt g (rt_x T d p (j + 1)) (hp_oc g (rt_x T d p (j + 1)) - 1) ∧ ow_P g (T j) (rt_x T d p (j + 1)) ∧ hp_oc g (T j) = hp_oc g (rt_x T d p (j + 1)) - 1 ∧ g (T j) = 3 := by
  have hq := rt_xn R (j + 1)
  have Kq := ow_Kl G.2.1 (show rt_x T d p (j + 1) ≤ n by omega)
  rcases (R.2.2.2 j hj).2.2 with ⟨h1, h2, h3⟩ | ⟨h1, h2, h3, h4⟩
  · obtain ⟨o1, o2⟩ := ow_3 Kq h1
    rw [← h2] at o1 o2
    exact ⟨h1, h2, h3, o1, o2, (ow_2 Kq o1).2.1⟩
  · exact absurd h2 hP
/-- a new frame at p -/
theorem rt_psh (R : rt_K g n T P d p) {p' pr : Nat} (hp : p' < n) (hi : hp_in g p' = 1) (hk : rt_k g p pr p') : rt_K g n (hp_u T d p) (hp_u P d pr) (d + 1) p' := by
  have ex : ∀ j, j ≤ d → rt_x (hp_u T d p) (d + 1) p' j = rt_x T d p j := fun j hj => by
    rw [rt_xl (by omega)]
    by_cases e : j = d
    · rw [e, hp_uS, rt_xg (Nat.le_refl _)]
    · rw [hp_uN e, rt_xl (by omega)]
  refine ⟨hp, hi, by rw [ex 0 (Nat.zero_le _)]; exact R.2.2.1, fun j hj => ?_⟩
  by_cases e : j = d
  · subst e
    rw [hp_uS, hp_uS, rt_xg (Nat.le_refl _)]
    exact ⟨R.1, R.2.1, hk⟩
  · rw [hp_uN e, hp_uN e, ex (j + 1) (by omega)]
    exact R.2.2.2 j (by omega)
/-- frames from j on left, at a place that hangs as the one there did -/
theorem rt_cut (R : rt_K g n T P d p) {j p' : Nat} (hj : j ≤ d) (hp : p' < n) (hi : hp_in g p' = 1) (h1 : hp_oc g p' = hp_oc g (rt_x T d p j)) (h2 : hp_fn g p' = hp_fn g (rt_x T d p j)) (h3 : ∀ m, m < hp_oc g (rt_x T d p j) → hp_ot g p' m = hp_ot g (rt_x T d p j) m ∧ hp_pt g p' m = hp_pt g (rt_x T d p j) m) : rt_K g n T P j p' := by
  have ex : ∀ i, i < j → rt_x T j p' i = rt_x T d p i := fun i h => by rw [rt_xl h, rt_xl (by omega)]
  refine ⟨hp, hi, ?_, fun i h => ?_⟩
  · rcases Nat.eq_zero_or_pos j with z | z
    · subst z; rw [rt_xg (Nat.le_refl _), h1]; exact R.2.2.1
    · rw [ex 0 z]; exact R.2.2.1
  · obtain ⟨c1, c2, c3⟩ := R.2.2.2 i (by omega)
    refine ⟨c1, c2, ?_⟩
    by_cases e : i + 1 < j
    · rw [ex _ e]; exact c3
    · have e' : i + 1 = j := by omega
      rw [e'] at c3 ⊢
      rw [rt_xg (Nat.le_refl _)]
      unfold rt_k
      rw [h1, h2]
      rcases c3 with ⟨k1, k2, k3⟩ | k
      · obtain ⟨m1, m2⟩ := h3 (hp_oc g (rt_x T d p j) - 1) (by omega)
        rw [m1, m2]
        exact Or.inl ⟨k1, k2, k3⟩
      · exact Or.inr k
/-- frames above j left, and j in another part -/
theorem rt_set (R : rt_K g n T P d p) {j p' pr : Nat} (hj : j < d) (hp : p' < n) (hi : hp_in g p' = 1) (hk : rt_k g (T j) pr p') : rt_K g n T (hp_u P j pr) (j + 1) p' := by
  have ex : ∀ i, i ≤ j → rt_x T (j + 1) p' i = rt_x T d p i := fun i h => by rw [rt_xl (by omega), rt_xl (by omega)]
  refine ⟨hp, hi, by rw [ex 0 (Nat.zero_le _)]; exact R.2.2.1, fun i h => ?_⟩
  obtain ⟨c1, c2, c3⟩ := R.2.2.2 i (by omega)
  refine ⟨c1, c2, ?_⟩
  by_cases e : i = j
  · subst e
    rw [hp_uS, rt_xg (Nat.le_refl _)]; exact hk
  · rw [hp_uN e, ex (i + 1) (by omega)]; exact c3
/-! H: how many steps are left -/
def rt_w (f : Nat) : Nat := if f ≤ 1 then 20388 else if f = 2 then 703 else if f = 3 then 26 else 1
def rt_R (g : Nat → Int32) (q : Nat) : Nat := (32 - q) * rt_w (hp_fn g q)
def rt_s (g : Nat → Int32) (T P : Nat → Nat) : Nat → Nat
  | 0 => 0
  | j + 1 => rt_s g T P j + if P j = 0 then rt_R g (T j + 1) else 0
theorem rt_w1 (f : Nat) : 1 ≤ rt_w f := by
  unfold rt_w
  split
  · omega
  · split
    · omega
    · split <;> omega
theorem rt_Rl {q q' : Nat} (hf : hp_fn g q' = hp_fn g q) (h : q < q') (hq : q < 32) : rt_R g q' + 1 ≤ rt_R g q := by
  unfold rt_R
  rw [hf]
  have h1 := rt_w1 (hp_fn g q)
  have h2 := Nat.mul_le_mul_right (rt_w (hp_fn g q)) (show 32 - q' + 1 ≤ 32 - q by omega)
  rw [Nat.add_mul, Nat.one_mul] at h2
  omega
theorem rt_Rc {c q : Nat} (hc : c < 32) (hg : hp_fn g (c + 1) = hp_fn g c) (h1 : 1 ≤ hp_fn g c) (hf : hp_fn g c < hp_fn g q) (h4 : hp_fn g q ≤ 4) (h2 : 2 * hp_fn g q ≤ q + 1) : rt_R g (c + 1) + rt_R g q + 1 ≤ rt_R g c := by
  have key : rt_R g q + 1 ≤ rt_w (hp_fn g c) := by
    unfold rt_R
    generalize hp_fn g c = x at *
    generalize hp_fn g q = y at *
    unfold rt_w
    have hy : y = 2 ∨ y = 3 ∨ y = 4 := by omega
    have hx : x = 1 ∨ x = 2 ∨ x = 3 := by omega
    rcases hy with rfl | rfl | rfl <;> rcases hx with rfl | rfl | rfl <;> simp <;> omega
  have e : rt_R g c = rt_R g (c + 1) + rt_w (hp_fn g c) := by
    unfold rt_R
    rw [hg, show 32 - c = (32 - (c + 1)) + 1 by omega, Nat.add_mul, Nat.one_mul]
  omega
theorem rt_sE {T' P' : Nat → Nat} : ∀ j, (∀ i, i < j → T' i = T i ∧ P' i = P i) → rt_s g T' P' j = rt_s g T P j
  | 0, _ => rfl
  | j + 1, h => by
    simp only [rt_s]
    rw [rt_sE j (fun i hi => h i (by omega)), (h j (by omega)).1, (h j (by omega)).2]
theorem rt_sM {i : Nat} : ∀ j, i ≤ j → rt_s g T P i ≤ rt_s g T P j
  | 0, h => by have : i = 0 := by omega
               rw [this]; exact Nat.le_refl _
  | j + 1, h => by
    by_cases e : i = j + 1
    · rw [e]; exact Nat.le_refl _
    · have := rt_sM (i := i) j (by omega)
      simp only [rt_s]; omega
/-- the place in the frame's own function from which control comes, and what it has left -/
theorem rt_cur (G : ow_G g a n) (R : rt_K g n T P d p) : ∀ m i, i + m = d → ∃ c M, c < n ∧ rt_s g T P i + M ≤ rt_s g T P d + rt_R g p ∧ (∀ x, c ≤ x → x < n → (g x = 4 ∨ g x = 5) → hp_fn g (x + 1) = hp_fn g c → rt_R g (x + 1) + 1 ≤ M) ∧ (rt_x T d p i = c ∨ ow_P g (rt_x T d p i) c) := by
  intro m
  have hn := G.1
  induction m with
  | zero =>
    intro i hi
    have : i = d := by omega
    subst this
    refine ⟨p, rt_R g p, R.1, Nat.le_refl _, fun x h1 h2 h3 h4 => rt_Rl h4 (by omega) (by have := R.1; omega), Or.inl (rt_xg (Nat.le_refl _))⟩
  | succ m ih =>
    intro i hi
    obtain ⟨c, M, c1, c2, c3, c4⟩ := ih (i + 1) (by omega)
    have hid : i < d := by omega
    by_cases hP : P i = 0
    · obtain ⟨t1, t2, t3⟩ := R.2.2.2 i hid
      have g11 : g (T i) = 11 := by
        rcases t3 with ⟨k1, k2, k3⟩ | ⟨k1, k2, k3, k4⟩
        · have := (ow_2 (ow_Kl G.2.1 (show rt_x T d p (i + 1) ≤ n from Nat.le_of_lt (rt_xn R (i + 1)))) (ow_3 (ow_Kl G.2.1 (show rt_x T d p (i + 1) ≤ n from Nat.le_of_lt (rt_xn R (i + 1)))) k1).1)
          have p1 := ((hp_H _ (ow_Kl G.2.1 (show rt_x T d p (i + 1) ≤ n from Nat.le_of_lt (rt_xn R (i + 1))))).2.2.2.2 (hp_oc g (rt_x T d p (i + 1)) - 1) (by omega)).2.2.2.2.2.1
          omega
        · exact k3
      have fe : hp_fn g (T i + 1) = hp_fn g (T i) := (hp_s6 (by unfold hp_pl; simp [g11])).2.2.2.1
      refine ⟨T i, rt_R g (T i + 1), t1, ?_, fun x h1 h2 h3 h4 => ?_, Or.inl (rt_xl hid)⟩
      · simp only [rt_s, if_pos hP] at c2
        omega
      · have : x ≠ T i := fun e => by rw [e, g11] at h3; rcases h3 with z | z <;> exact absurd z (by decide)
        exact rt_Rl (by rw [h4, fe]) (by omega) (by omega)
    · obtain ⟨r1, r2, r3, r4, r5, r6⟩ := rt_try G R hid hP
      refine ⟨c, M, c1, ?_, c3, Or.inr ?_⟩
      · simp only [rt_s, if_neg hP] at c2
        omega
      · rw [rt_xl hid]
        rcases c4 with e | o
        · rw [← e]; exact r4
        · have := (ow_2 (ow_Kl G.2.1 (show c ≤ n by omega)) o).2.2.2.2.2.2
          have ho := o.1
          have hm := this (hp_oc g (T i)) (by omega)
          exact ⟨by omega, by rw [← hm.1]; exact r4.2⟩
/-- a clause that the unwinding, or a body's end, goes to lies ahead -/
theorem rt_dec (G : ow_G g a n) (R : rt_K g n T P d p) {j x : Nat} (hj : j < d) (hx : x < n) (hO : ow_O g (T j) x) (h : (P j = 1 ∧ (g x = 4 ∨ g x = 5)) ∨ (P j = 2 ∧ g x = 5)) : rt_s g T P j + rt_R g (x + 1) + 1 ≤ rt_s g T P d + rt_R g p := by
  obtain ⟨c, M, c1, c2, c3, c4⟩ := rt_cur G R (d - (j + 1)) (j + 1) (by omega)
  have hP : P j ≠ 0 := by rcases h with h | h <;> omega
  have hg : g x = 4 ∨ g x = 5 := by rcases h with h | h; exact h.2; exact Or.inr h.2
  obtain ⟨r1, r2, r3, r4, r5, r6⟩ := rt_try G R hj hP
  have Kc := ow_Kl G.2.1 (show c ≤ n by omega)
  have hoc : ow_P g (T j) c ∧ hp_pt g c (hp_oc g (T j)) = P j := by
    rw [r3, ← r5]
    rcases c4 with e | o
    · rw [← e]; exact ⟨r4, rfl⟩
    · have := (ow_2 Kc o).2.2.2.2.2.2
      have ho := o.1
      have hm := this (hp_oc g (T j)) (by omega)
      exact ⟨⟨by omega, by rw [← hm.1]; exact r4.2⟩, hm.2.symm⟩
  have cx : c ≤ x := ow_9 Kc hoc.1 hO (by
    rw [hoc.2]
    rcases h with h | h
    · exact Or.inl h.1
    · exact Or.inr ⟨by omega, h.2⟩)
  have fx := ((ow_6 (ow_Kl G.2.1 (show x + 1 ≤ n by omega)) hO).2.1 hg).2.2.2
  have := c3 x cx hx hg (by rw [fx, (ow_2 Kc hoc.1).2.2.1])
  simp only [rt_s, if_neg hP] at c2
  omega
/-! I: what a throw does -/
/-- frame e has a clause for ty -/
def rt_h (g a : Nat → Int32) (n : Nat) (T P : Nat → Nat) (ty : Int32) (e : Nat) : Prop := P e = 1 ∧ ∃ x, x < n ∧ ow_H g a (T e) ty x
/-- frame i is passed by -/
def rt_p (g a : Nat → Int32) (n : Nat) (T P : Nat → Nat) (ty : Int32) (i : Nat) : Prop := (P i = 1 → ∀ y, y < n → ¬ ow_H g a (T i) ty y) ∧ (P i ≠ 3 → ∀ y, y < n → ¬ (ow_O g (T i) y ∧ g y = 5))
/-- at frame j the unwinding stops, at clause x, in part k -/
def rt_q (g a : Nat → Int32) (n : Nat) (T P : Nat → Nat) (ty : Int32) (j x k : Nat) : Prop := x < n ∧ ((k = 2 ∧ P j = 1 ∧ ow_L n (ow_H g a (T j) ty) (nI x) ∧ ow_H g a (T j) ty x) ∨ (k = 3 ∧ (P j = 1 ∨ P j = 2) ∧ (P j = 1 → ∀ y, y < n → ¬ ow_H g a (T j) ty y) ∧ ow_L n (fun x => ow_O g (T j) x ∧ g x = 5) (nI x) ∧ ow_O g (T j) x ∧ g x = 5 ∧ ∃ e, e < j ∧ rt_h g a n T P ty e))
theorem ow_Lx {Q : Nat → Prop} (h : ∃ x, x < n ∧ Q x) : ∃ x, x < n ∧ Q x ∧ ow_L n Q (nI x) := by
  obtain ⟨r, ⟨x, h1, h2, h3, h4⟩ | ⟨h1, h2⟩⟩ := ow_Le n Q
  · exact ⟨x, h1, h3, Or.inl ⟨x, h1, rfl, h3, h4⟩⟩
  · obtain ⟨x, h3, h4⟩ := h
    exact absurd h4 (h2 x h3)
theorem rt_ex (G : ow_G g a n) (R : rt_K g n T P d p) {ty : Int32} : ∀ i, i ≤ d → (∃ e, e < i ∧ rt_h g a n T P ty e) → ∃ j x k, j < i ∧ rt_q g a n T P ty j x k ∧ ∀ m, j < m → m < i → rt_p g a n T P ty m := by
  intro i
  induction i with
  | zero => intro _ h; obtain ⟨e, h, -⟩ := h; omega
  | succ i ih =>
  intro hi he
  by_cases h1 : rt_h g a n T P ty i
  · obtain ⟨p1, hx⟩ := h1
    obtain ⟨x, x1, x2, x3⟩ := ow_Lx hx
    exact ⟨i, x, 2, by omega, ⟨x1, Or.inl ⟨rfl, p1, x3, x2⟩⟩, fun m h1 h2 => by omega⟩
  · have no : P i = 1 → ∀ y, y < n → ¬ ow_H g a (T i) ty y := fun p1 y hy hh => h1 ⟨p1, y, hy, hh⟩
    have he' : ∃ e, e < i ∧ rt_h g a n T P ty e := by
      obtain ⟨e, e1, e2⟩ := he
      by_cases ee : e = i
      · rw [ee] at e2; exact absurd e2 h1
      · exact ⟨e, by omega, e2⟩
    by_cases h2 : (P i = 1 ∨ P i = 2) ∧ ∃ x, x < n ∧ (ow_O g (T i) x ∧ g x = 5)
    · obtain ⟨x, x1, x2, x3⟩ := ow_Lx h2.2
      exact ⟨i, x, 3, by omega, ⟨x1, Or.inr ⟨rfl, h2.1, no, x3, x2.1, x2.2, he'⟩⟩, fun m h1 h2 => by omega⟩
    · obtain ⟨j, x, k, j1, j2, j3⟩ := ih (by omega) he'
      refine ⟨j, x, k, by omega, j2, fun m m1 m2 => ?_⟩
      by_cases em : m = i
      · subst em
        refine ⟨no, fun p3 y hy ho => ?_⟩
        have pc : P m = 0 ∨ P m = 1 ∨ P m = 2 := by
          by_cases p0 : P m = 0
          · exact Or.inl p0
          · obtain ⟨r1, r2, r3, r4, r5, r6⟩ := rt_try G R (by omega) p0
            have := ow_2 (ow_Kl G.2.1 (Nat.le_of_lt (rt_xn R (m + 1)))) r4
            rw [r5, ← r3] at this
            omega
        rcases pc with p0 | p12
        · rcases (R.2.2.2 m (by omega)).2.2 with ⟨k1, k2, k3⟩ | ⟨k1, k2, k3, k4⟩
          · have p1 := ((hp_H _ (ow_Kl G.2.1 (show rt_x T d p (m + 1) ≤ n from Nat.le_of_lt (rt_xn R (m + 1))))).2.2.2.2 (hp_oc g (rt_x T d p (m + 1)) - 1) (by omega)).2.2.2.2.2.1
            omega
          · have := (ow_1 (ow_Kl G.2.1 (show y ≤ n by omega)) ho.1).2.1
            rw [k3] at this; exact absurd this (by decide)
        · exact h2 ⟨p12, y, hy, ho⟩
      · exact j3 m m1 (by omega)
theorem rt_gr {Q : Nat → Prop} : ∀ i, (∃ e, e < i ∧ Q e) → ∃ e, e < i ∧ Q e ∧ ∀ m, e < m → m < i → ¬ Q m
  | 0, h => by obtain ⟨e, h, -⟩ := h; omega
  | i + 1, h => by
    rcases Classical.em (Q i) with z | z
    · exact ⟨i, by omega, z, fun m h1 h2 => by omega⟩
    · obtain ⟨e, e1, e2⟩ := h
      have : e ≠ i := fun ee => z (ee ▸ e2)
      obtain ⟨e', f1, f2, f3⟩ := rt_gr (Q := Q) i ⟨e, by omega, e2⟩
      refine ⟨e', by omega, f2, fun m m1 m2 => ?_⟩
      by_cases em : m = i
      · rw [em]; exact z
      · exact f3 m m1 (by omega)
end HF
end
section
section HT
variable {g a fs tf xot xop ft fp fy tr yp sk so sh sy : Nat → Int32} {n d p : Nat} {T P : Nat → Nat} {cm ct cp cf xo xi xs xh dd pp ac tl st rs ut cr fr yr : Int32}
/-! J: throws, on both sides -/
def rt_m : Nat → Int32
  | 0 => -1
  | i + 1 => nI i
theorem rt_m1 (i : Nat) : nI i - 1 = rt_m i := by
  cases i with
  | zero => rfl
  | succ i => exact nI_pred i
theorem rt_m2 (i : Nat) : nI i + (-1) = rt_m i := by
  cases i with
  | zero => rfl
  | succ i => exact hp_m1 i
/-- the component's frames -/
def rt_X (T P : Nat → Nat) (ft fp : Nat → Int32) (d : Nat) : Prop := ∀ j, j < d → ft j = nI (T j) ∧ fp j = nI (P j) ∧ P j ≤ 3
/-- the reference's -/
def rt_Y (T P : Nat → Nat) (fy sk so sh sy : Nat → Int32) (d : Nat) : Prop := ∀ j, j < d → (P j = 0 ∧ sk j = 0 ∧ so j = nI (T j + 1)) ∨ (1 ≤ P j ∧ P j ≤ 3 ∧ sk j = 1 ∧ so j = nI (T j) ∧ sh j = nI (P j - 1) ∧ (2 ≤ P j → sy j = fy j ∧ ∃ ty : Nat, ty ≤ 15 ∧ fy j = nI ty ∧ (P j = 2 → 1 ≤ ty)))
theorem rt_fp {j k : Nat} (hX : rt_X T P ft fp d) (hj : j < d) (hk : k ≤ 3) : fp j = nI k ↔ P j = k := by
  obtain ⟨h1, h2, h3⟩ := hX j hj
  rw [h2, nI_eq (by omega) (by omega)]
theorem xh_7 (G : ow_G g a n) (hT : ow_T g tf n) (R : rt_K g n T P d p) (hd : d ≤ 32) (hX : rt_X T P ft fp d) {ty r : Int32} (hr : (r = 1 ∧ ∃ e, e < d ∧ rt_h g a n T P ty e) ∨ (r = 0 ∧ ∀ e, e < d → ¬ rt_h g a n T P ty e)) (post : Int32 → Prop) (hp : post r) : ∀ i f, i ≤ d → i < f → (∀ e, i ≤ e → e < d → ¬ rt_h g a n T P ty e) → wX_hasHandler_7 post ty cm ct (nI n) cp cf xo xi xs xh dd pp ac tl st rs ut cr fr g a fs tf xot xop ft fp fy tr f (rt_m i) := by
  have hn := G.1
  intro i
  induction i with
  | zero =>
    intro f _ hf hno
    obtain ⟨f, rfl⟩ : ∃ f', f = f' + 1 := ⟨f - 1, by omega⟩
    have : r = 0 := by
      rcases hr with ⟨h1, e, h2, h3⟩ | h
      · exact absurd h3 (hno e (by omega) h2)
      · exact h.1
    rw [this] at hp
    exact br_t (by decide) hp
  | succ i ih =>
    intro f hi hf hno
    obtain ⟨f, rfl⟩ : ∃ f', f = f' + 1 := ⟨f - 1, by omega⟩
    have hid : i < d := by omega
    have hTi := (R.2.2.2 i hid).1
    rw [show rt_m (i + 1) = nI i from rfl]
    have go : ¬ rt_h g a n T P ty i → wX_hasHandler_7 post ty cm ct (nI n) cp cf xo xi xs xh dd pp ac tl st rs ut cr fr g a fs tf xot xop ft fp fy tr f (rt_m i) := fun h => ih f (by omega) (by omega) (fun e h1 h2 => by
      by_cases ee : e = i
      · rw [ee]; exact h
      · exact hno e (by omega) h2)
    by_cases hP : P i = 1
    · obtain ⟨r', hr'⟩ := ow_Le n (ow_H g a (T i) ty)
      refine br_f (nI_pos (by omega)) (xa_w hn hT (by omega) (by omega) (hX i hid).1 ((rt_fp hX hid (k := 1) (by omega)).mpr hP) hr' _ ?_)
      rcases hr' with ⟨x, x1, x2, x3, x4⟩ | ⟨x1, x2⟩
      · have : r = 1 := by
          rcases hr with h | ⟨h1, h2⟩
          · exact h.1
          · exact absurd ⟨hP, x, x1, x3⟩ (h2 i hid)
        rw [this] at hp
        exact br_f (by rw [x2]; exact hp_ne1 (by omega)) hp
      · exact br_t x1 (nm_r (rt_m2 i) (go fun h => by obtain ⟨-, x, y1, y2⟩ := h; exact x2 x y1 y2))
    · refine br_f (nI_pos (by omega)) (xa_n (by omega) (fun h => hP ((rt_fp hX hid (k := 1) (by omega)).mp h)) _ ?_)
      exact br_t rfl (nm_r (rt_m2 i) (go fun h => hP h.1))
theorem xs_f {j x : Nat} {ty : Int32} (hj : j < 32) (post : SX → Prop) (hp : post (cm, ct, nI n, cp, cf, xo, xi, xs, xh, dd, nI (x + 1), ac, tl, st, rs, ut, cr, fr + 1, g, a, fs, tf, xot, xop, ft, upd fp j 3, upd fy j ty, tr)) : wpX_startFinally post (cm, ct, nI n, cp, cf, xo, xi, xs, xh, dd, pp, ac, tl, st, rs, ut, cr, fr, g, a, fs, tf, xot, xop, ft, fp, fy, tr) (nI j) (nI x) ty := by
  have c3 : (nI j).toNatClampNeg = j := nI_clamp (by omega)
  exact ⟨vp_in_nI hj (by omega), nm_r (by rw [c3]) ⟨vp_in_nI hj (by omega), nm_r (by rw [c3]) (nm_e (nm_r (nI_1 x) hp))⟩⟩
theorem xs_c {j x : Nat} {ty : Int32} (hj : j < 32) (post : SX → Prop) (hp : post (cm, ct, nI n, cp, cf, xo, xi, xs, xh, dd, nI (x + 1), ac, tl, st, rs, ut, cr + 1, fr, g, a, fs, tf, xot, xop, ft, upd fp j 2, upd fy j ty, tr)) : wpX_startCatch post (cm, ct, nI n, cp, cf, xo, xi, xs, xh, dd, pp, ac, tl, st, rs, ut, cr, fr, g, a, fs, tf, xot, xop, ft, fp, fy, tr) (nI j) (nI x) ty := by
  have c3 : (nI j).toNatClampNeg = j := nI_clamp (by omega)
  exact ⟨vp_in_nI hj (by omega), nm_r (by rw [c3]) ⟨vp_in_nI hj (by omega), nm_r (by rw [c3]) (nm_e (nm_r (nI_1 x) hp))⟩⟩
theorem xu_7 (G : ow_G g a n) (hT : ow_T g tf n) (R : rt_K g n T P d p) (hd : d ≤ 32) (hX : rt_X T P ft fp d) {ty : Int32} {j x k : Nat} (hq : rt_q g a n T P ty j x k) (post : SX → Prop)
    (h2 : k = 2 → post (cm, ct, nI n, cp, cf, xo, xi, xs, xh, nI (j + 1), nI (x + 1), ac, tl, st, rs, ut, cr + 1, fr, g, a, fs, tf, xot, xop, ft, upd fp j 2, upd fy j ty, tr))
    (h3 : k = 3 → post (cm, ct, nI n, cp, cf, xo, xi, xs, xh, nI (j + 1), nI (x + 1), ac, tl, st, rs, ut, cr, fr + 1, g, a, fs, tf, xot, xop, ft, upd fp j 3, upd fy j ty, tr)) :
    ∀ f i dd, j ≤ i → i < d → i < f → (∀ m, j < m → m ≤ i → rt_p g a n T P ty m) → wX_unwind_7 post ty cm ct (nI n) cp cf xo xi xs xh pp ac tl st rs ut cr fr g a fs tf xot xop ft fp fy tr f (nI i) dd := by
  have hn := G.1
  intro f
  induction f with
  | zero => intro i dd _ _ h; omega
  | succ f ih =>
  intro i dd hji hid hf hps
  have hTi := (R.2.2.2 i hid).1
  have pos : ¬ nI i < 0 := nI_pos (by omega)
  have f3 := rt_fp hX hid (k := 3) (by omega)
  have f1 := rt_fp hX hid (k := 1) (by omega)
  by_cases e : i = j
  · subst e
    obtain ⟨hx, ⟨k2, p1, l1, l2⟩ | ⟨k3, p12, no, l1, l2, l3, -⟩⟩ := hq
    · refine br_f pos (nm_r (nI_1 i) (xa_w hn hT (by omega) (by omega) (hX i hid).1 (f1.mpr p1) l1 _ (br_f (hp_ne1 (by omega)) ?_)))
      exact xs_c (by omega) _ (h2 k2)
    · have fin : (wpX_owedFinally (fun r => ((r = (-1) → (∀ x2 : Int32, x2 = nI i + (-1) → wX_unwind_7 post ty cm ct (nI n) cp cf xo xi xs xh pp ac tl st rs ut cr fr g a fs tf xot xop ft fp fy tr f x2 (nI (i + 1)))) ∧ (¬ r = (-1) → (wpX_startFinally (fun u => match u with | (z1, z2, z3, z4, z5, z6, z7, z8, z9, z10, z11, z12, z13, z14, z15, z16, z17, z18, z19, z20, z21, z22, z23, z24, z25, z26, z27, z28) => post (z1, z2, z3, z4, z5, z6, z7, z8, z9, z10, z11, z12, z13, z14, z15, z16, z17, z18, z19, z20, z21, z22, z23, z24, z25, z26, z27, z28)) (cm, ct, nI n, cp, cf, xo, xi, xs, xh, nI (i + 1), pp, ac, tl, st, rs, ut, cr, fr, g, a, fs, tf, xot, xop, ft, fp, fy, tr) (nI i) r ty)))) (cm, ct, nI n, cp, cf, xo, xi, xs, xh, nI (i + 1), pp, ac, tl, st, rs, ut, cr, fr, g, a, fs, tf, xot, xop, ft, fp, fy, tr) (nI i)) :=
        xo_w hn hT (by omega) (by omega) (hX i hid).1 (fun h => by have := f3.mp h; omega) l1 _ (br_f (hp_ne1 (by omega)) (xs_f (by omega) _ (h3 k3)))
      by_cases p1 : P i = 1
      · exact br_f pos (nm_r (nI_1 i) (xa_w hn hT (by omega) (by omega) (hX i hid).1 (f1.mpr p1) (Or.inr ⟨rfl, no p1⟩) _ (br_t rfl fin)))
      · exact br_f pos (nm_r (nI_1 i) (xa_n (by omega) (fun h => p1 (f1.mp h)) _ (br_t rfl fin)))
  · obtain ⟨i', rfl⟩ : ∃ i', i = i' + 1 := ⟨i - 1, by omega⟩
    obtain ⟨q1, q2⟩ := hps (i' + 1) (by omega) (Nat.le_refl _)
    have rc := ih i' (nI (i' + 1 + 1)) (by omega) (by omega) (by omega) (fun m m1 m2 => hps m m1 (by omega))
    have fin : (wpX_owedFinally (fun r => ((r = (-1) → (∀ x2 : Int32, x2 = nI (i' + 1) + (-1) → wX_unwind_7 post ty cm ct (nI n) cp cf xo xi xs xh pp ac tl st rs ut cr fr g a fs tf xot xop ft fp fy tr f x2 (nI (i' + 1 + 1)))) ∧ (¬ r = (-1) → (wpX_startFinally (fun u => match u with | (z1, z2, z3, z4, z5, z6, z7, z8, z9, z10, z11, z12, z13, z14, z15, z16, z17, z18, z19, z20, z21, z22, z23, z24, z25, z26, z27, z28) => post (z1, z2, z3, z4, z5, z6, z7, z8, z9, z10, z11, z12, z13, z14, z15, z16, z17, z18, z19, z20, z21, z22, z23, z24, z25, z26, z27, z28)) (cm, ct, nI n, cp, cf, xo, xi, xs, xh, nI (i' + 1 + 1), pp, ac, tl, st, rs, ut, cr, fr, g, a, fs, tf, xot, xop, ft, fp, fy, tr) (nI (i' + 1)) r ty)))) (cm, ct, nI n, cp, cf, xo, xi, xs, xh, nI (i' + 1 + 1), pp, ac, tl, st, rs, ut, cr, fr, g, a, fs, tf, xot, xop, ft, fp, fy, tr) (nI (i' + 1))) := by
      by_cases p3 : P (i' + 1) = 3
      · exact xo_3 (by omega) (f3.mpr p3) _ (br_t rfl (nm_r (hp_m1 i') rc))
      · exact xo_w hn hT (by omega) (by omega) (hX _ hid).1 (fun h => p3 (f3.mp h)) (Or.inr ⟨rfl, q2 p3⟩) _ (br_t rfl (nm_r (hp_m1 i') rc))
    by_cases p1 : P (i' + 1) = 1
    · exact br_f pos (nm_r (nI_1 _) (xa_w hn hT (by omega) (by omega) (hX _ hid).1 (f1.mpr p1) (Or.inr ⟨rfl, q1 p1⟩) _ (br_t rfl fin)))
    · exact br_f pos (nm_r (nI_1 _) (xa_n (by omega) (fun h => p1 (f1.mp h)) _ (br_t rfl fin)))
/-- the component's unwind -/
theorem xu_w (G : ow_G g a n) (hT : ow_T g tf n) (R : rt_K g n T P d p) (hd : d ≤ 32) (hX : rt_X T P ft fp d) {ty : Int32} {j x k : Nat} (hj : j < d) (hps : ∀ m, j < m → m < d → rt_p g a n T P ty m) (hq : rt_q g a n T P ty j x k) (post : SX → Prop)
    (h2 : k = 2 → post (cm, ct, nI n, cp, cf, xo, xi, xs, xh, nI (j + 1), nI (x + 1), ac, tl, st, rs, ut, cr + 1, fr, g, a, fs, tf, xot, xop, ft, upd fp j 2, upd fy j ty, tr))
    (h3 : k = 3 → post (cm, ct, nI n, cp, cf, xo, xi, xs, xh, nI (j + 1), nI (x + 1), ac, tl, st, rs, ut, cr, fr + 1, g, a, fs, tf, xot, xop, ft, upd fp j 3, upd fy j ty, tr)) : wpX_unwind post (cm, ct, nI n, cp, cf, xo, xi, xs, xh, nI d, pp, ac, tl, st, rs, ut, cr, fr, g, a, fs, tf, xot, xop, ft, fp, fy, tr) ty := by
  obtain ⟨d', rfl⟩ : ∃ d', d = d' + 1 := ⟨d - 1, by omega⟩
  exact nm_r (nI_pred d') ⟨d' + 1, xu_7 G hT R hd hX hq post h2 h3 (d' + 1) d' (nI (d' + 1)) (by omega) (by omega) (by omega) (fun m m1 m2 => hps m m1 (by omega))⟩
theorem xr_w (G : ow_G g a n) (hT : ow_T g tf n) (R : rt_K g n T P d p) (hd : d ≤ 32) (hX : rt_X T P ft fp d) {ty : Int32} {j x k : Nat} (hj : j < d) (hps : ∀ m, j < m → m < d → rt_p g a n T P ty m) (hq : rt_q g a n T P ty j x k) (hh : ∃ e, e < d ∧ rt_h g a n T P ty e) (post : SX → Prop)
    (h2 : k = 2 → post (cm, ct, nI n, cp, cf, xo, xi, xs, xh, nI (j + 1), nI (x + 1), ac, tl, st, rs, ut, cr + 1, fr, g, a, fs, tf, xot, xop, ft, upd fp j 2, upd fy j ty, tr))
    (h3 : k = 3 → post (cm, ct, nI n, cp, cf, xo, xi, xs, xh, nI (j + 1), nI (x + 1), ac, tl, st, rs, ut, cr, fr + 1, g, a, fs, tf, xot, xop, ft, upd fp j 3, upd fy j ty, tr)) : wpX_raise post (cm, ct, nI n, cp, cf, xo, xi, xs, xh, nI d, pp, ac, tl, st, rs, ut, cr, fr, g, a, fs, tf, xot, xop, ft, fp, fy, tr) ty := by
  unfold wpX_raise
  dsimp only
  refine nm_r (rt_m1 d) ⟨d + 1, xh_7 G hT R hd hX (r := 1) (Or.inl ⟨rfl, hh⟩) _ ?_ d (d + 1) (Nat.le_refl _) (by omega) (fun e h1 h2 => by omega)⟩
  exact br_f (by decide) (xu_w G hT R hd hX hj hps hq _ h2 h3)
theorem xr_n (G : ow_G g a n) (hT : ow_T g tf n) (R : rt_K g n T P d p) (hd : d ≤ 32) (hX : rt_X T P ft fp d) {ty : Int32} (hh : ∀ e, e < d → ¬ rt_h g a n T P ty e) (post : SX → Prop)
    (hp : post (cm, ct, nI n, cp, cf, xo, xi, xs, xh, nI d, pp, ac, tl, 2, ac, ty, cr, fr, g, a, fs, tf, xot, xop, ft, fp, fy, tr)) : wpX_raise post (cm, ct, nI n, cp, cf, xo, xi, xs, xh, nI d, pp, ac, tl, st, rs, ut, cr, fr, g, a, fs, tf, xot, xop, ft, fp, fy, tr) ty := by
  unfold wpX_raise
  dsimp only
  refine nm_r (rt_m1 d) ⟨d + 1, xh_7 G hT R hd hX (r := 0) (Or.inr ⟨rfl, hh⟩) _ ?_ d (d + 1) (Nat.le_refl _) (by omega) (fun e h1 h2 => by omega)⟩
  exact br_t rfl hp
end HT
end
section
section HY
variable {g a fs tf xot xop ft fp fy tr yp sk so sh sy : Nat → Int32} {n d p : Nat} {T P : Nat → Nat} {cm ct cp cf xo xi xs xh dd pp ac tl st rs ut cr fr yr : Int32}
theorem ow_Lu {Q : Nat → Prop} {r r' : Int32} (h : ow_L n Q r) (h' : ow_L n Q r') : r = r' := by
  rcases h' with ⟨x, h1, h2, h3, h4⟩ | ⟨h1, h2⟩
  · rw [h2]; exact ow_Lh h h1 h3 h4
  · rw [h1]; exact ow_Ln h h2
theorem yr_58x {J : Int32 → Int32 → Int32 → Prop} {post : SY → Prop} {ty x2 x3 x4 x5 x6 : Int32} {f : Nat} (h : 0 ≤ x2 ∨ x5 < 0) (hJ : J x2 x3 (x4 + (-1))) : wY_raise_58 post J ty x4 cm ct (nI n) cp cf st rs ut tl cr fr dd pp ac yr g a tr yp sk so sh sy (f + 1) x2 x3 x5 x6 :=
  br_c (fun _ => nm_e hJ) (fun _ => br_c (fun _ => nm_e hJ) (fun h5 => br_c (fun _ => nm_e hJ) (fun h2 => absurd (h.resolve_right h5) h2)))
theorem yr_58 (G : ow_G g a n) {t e : Nat} (he : e < 64) {ty r : Int32} (hr : ow_L n (ow_H g a t ty) r) (post : SY → Prop) (J : Int32 → Int32 → Int32 → Prop) (h1 : ∀ x, x < n → r = nI x → ow_H g a t ty x → J (nI e) (nI x) (nI e + (-1))) (h2 : r = -1 → J (-1) (-1) (nI e + (-1))) : ∀ f c m, n - c < f → c < n → ow_O g t c → m ≤ c → (∀ y, y < c → ¬ ow_H g a t ty y) → wY_raise_58 post J ty (nI e) cm ct (nI n) cp cf st rs ut tl cr fr dd pp ac yr g a tr yp sk so sh sy (f + 1) (-1) (-1) (nI c) (nI m) := by
  have hn := G.1
  intro f
  induction f with
  | zero => intro c m h; omega
  | succ f ih =>
  intro c m hf hc hO hm hl
  have b1 : ¬ nI n ≤ nI m := nI_ge (by omega) (by omega)
  have b2 : vp_in (nI c) 32 := vp_in_nI (by omega) (by omega)
  have b3 : (nI c).toNatClampNeg = c := nI_clamp (by omega)
  have b4 : ¬ nI c < 0 := nI_pos (by omega)
  have b5 : ¬ (0 : Int32) ≤ -1 := by decide
  have b6 : (0 : Int32) ≤ nI e := nI_pos' (by omega)
  by_cases k4 : g c = 4
  · by_cases a0 : a c = 0
    · have hH : ow_H g a t ty c := ⟨hO, k4, Or.inl a0⟩
      exact br_f b1 (br_f b4 (br_f b5 ⟨b2, br_t (by rw [b3]; exact k4) ⟨b2, br_t (by rw [b3]; exact a0) (nm_e (yr_58x (Or.inl b6) (h1 c hc (ow_Lh hr hc hH hl) hH)))⟩⟩))
    · by_cases a1 : a c = ty
      · have hH : ow_H g a t ty c := ⟨hO, k4, Or.inr a1⟩
        exact br_f b1 (br_f b4 (br_f b5 ⟨b2, br_t (by rw [b3]; exact k4) ⟨b2, br_f (by rw [b3]; exact a0) ⟨b2, br_t (by rw [b3]; exact a1) (nm_e (yr_58x (Or.inl b6) (h1 c hc (ow_Lh hr hc hH hl) hH)))⟩⟩⟩))
      · obtain ⟨c', ⟨d1, d2, d3, d4⟩, hw⟩ := yn_w (cm := cm) (ct := ct) (cp := cp) (cf := cf) (st := st) (rs := rs) (ut := ut) (tl := tl) (cr := cr) (fr := fr) (dd := dd) (pp := pp) (ac := ac) (yr := yr) (tr := tr) (yp := yp) (sk := sk) (so := so) (sh := sh) (sy := sy) G (t := t) (q := c) (Or.inr ⟨hO, by rw [k4]; decide⟩) hc
        refine br_f b1 (br_f b4 (br_f b5 ⟨b2, br_t (by rw [b3]; exact k4) ⟨b2, br_f (by rw [b3]; exact a0) ⟨b2, br_f (by rw [b3]; exact a1) (hw _ (nm_r (nI_1 m) (ih c' (m + 1) (by omega) d2 d3 (by omega) (fun y hy hh => ?_))))⟩⟩⟩))
        rcases Nat.lt_trichotomy y c with z | z | z
        · exact hl y z hh
        · rw [z] at hh; rcases hh.2.2 with q | q; exact a0 q; exact a1 q
        · exact d4 y z hy hh.1
  · refine br_f b1 (br_f b4 (br_f b5 ⟨b2, br_f (by rw [b3]; exact k4) (nm_e (yr_58x (Or.inr (by decide)) (h2 (ow_Ln hr (fun y hy hh => ?_)))))⟩))
    rcases Nat.lt_trichotomy y c with z | z | z
    · exact hl y z hh
    · rw [z] at hh; exact k4 hh.2.1
    · obtain ⟨q1, q2⟩ := ow_8 (ow_Kl G.2.1 (show y + 1 ≤ n by omega)) hO hh.1 z
      rcases hO.1 with w | w | w
      · exact q1 w
      · exact k4 w
      · have := q2 w; rw [hh.2.1] at this; exact absurd this (by decide)
/-- what the reference's search has found below i -/
def rt_f (g a : Nat → Int32) (n : Nat) (T P : Nat → Nat) (ty F C : Int32) (i : Nat) : Prop := (∃ e x, e < i ∧ F = nI e ∧ C = nI x ∧ x < n ∧ rt_h g a n T P ty e ∧ ow_L n (ow_H g a (T e) ty) (nI x) ∧ ∀ m, e < m → m < i → ¬ rt_h g a n T P ty m) ∨ (F = -1 ∧ C = -1 ∧ ∀ m, m < i → ¬ rt_h g a n T P ty m)
theorem rt_fd {ty F C : Int32} {i : Nat} (h : rt_f g a n T P ty F C (i + 1)) (hn : ¬ rt_h g a n T P ty i) : rt_f g a n T P ty F C i := by
  rcases h with ⟨e, x, h1, h2, h3, h4, h5, h6, h7⟩ | ⟨h1, h2, h3⟩
  · have : e ≠ i := fun ee => hn (ee ▸ h5)
    exact Or.inl ⟨e, x, by omega, h2, h3, h4, h5, h6, fun m m1 m2 => h7 m m1 (by omega)⟩
  · exact Or.inr ⟨h1, h2, fun m hm => h3 m (by omega)⟩
theorem yr_12 (G : ow_G g a n) (R : rt_K g n T P d p) (hd : d ≤ 32) (hY : rt_Y T P fy sk so sh sy d) {ty F C : Int32} (post : SY → Prop) (hp : wY_raise_143 post ty F C cm ct (nI n) cp cf st rs ut tl cr fr dd pp ac yr g a tr yp sk so sh sy) : ∀ i f, i ≤ d → i + 1 < f → rt_f g a n T P ty F C i → wY_raise_12 post ty cm ct (nI n) cp cf st rs ut tl cr fr dd pp ac yr g a tr yp sk so sh sy f (-1) (-1) (rt_m i) := by
  have hn := G.1
  have b5 : ¬ (0 : Int32) ≤ -1 := by decide
  intro i
  induction i with
  | zero =>
    intro f _ hf hF
    obtain ⟨f, rfl⟩ : ∃ f', f = f' + 1 := ⟨f - 1, by omega⟩
    rcases hF with ⟨e, x, h1, -⟩ | ⟨h1, h2, -⟩
    · omega
    · rw [h1, h2] at hp
      exact br_t (by decide) hp
  | succ i ih =>
    intro f hi hf hF
    obtain ⟨f, rfl⟩ : ∃ f', f = f' + 1 := ⟨f - 1, by omega⟩
    have hid : i < d := by omega
    obtain ⟨hTi, hTin, hTk⟩ := R.2.2.2 i hid
    rw [show rt_m (i + 1) = nI i from rfl]
    have b1 : ¬ nI i < 0 := nI_pos (by omega)
    have b2 : vp_in (nI i) 64 := vp_in_nI (by omega) (by omega)
    have b3 : (nI i).toNatClampNeg = i := nI_clamp (by omega)
    have go : ¬ rt_h g a n T P ty i → wY_raise_12 post ty cm ct (nI n) cp cf st rs ut tl cr fr dd pp ac yr g a tr yp sk so sh sy f (-1) (-1) (rt_m i) := fun h => ih f (by omega) (by omega) (rt_fd hF h)
    rcases hY i hid with ⟨p0, k0, -⟩ | ⟨p1, p3, k1, s1, s2, -⟩
    · exact br_f b1 (br_f b5 ⟨b2, br_f (by rw [b3, k0]; decide) (nm_r (rt_m2 i) (go fun h => by have := h.1; omega))⟩)
    · by_cases hP : P i = 1
      · have g3 : g (T i) = 3 := (rt_try G R hid (by omega)).2.2.2.2.2
        obtain ⟨c, ⟨d1, d2, d3, d4⟩, hw⟩ := yn_w (cm := cm) (ct := ct) (cp := cp) (cf := cf) (st := st) (rs := rs) (ut := ut) (tl := tl) (cr := cr) (fr := fr) (dd := dd) (pp := pp) (ac := ac) (yr := yr) (tr := tr) (yp := yp) (sk := sk) (so := so) (sh := sh) (sy := sy) G (t := T i) (q := T i) (Or.inl ⟨rfl, g3⟩) hTi
        obtain ⟨r, hr⟩ := ow_Le n (ow_H g a (T i) ty)
        refine br_f b1 (br_f b5 ⟨b2, br_t (by rw [b3, k1]) ⟨b2, br_t (by rw [b3, s2, hP]; rfl) ⟨b2, ?_⟩⟩⟩)
        rw [b3, s1]
        refine hw _ ⟨n + 1 + 1, ?_⟩
        have key := yr_58 (cm := cm) (ct := ct) (cp := cp) (cf := cf) (st := st) (rs := rs) (ut := ut) (tl := tl) (cr := cr) (fr := fr) (dd := dd) (pp := pp) (ac := ac) (yr := yr) (tr := tr) (yp := yp) (sk := sk) (so := so) (sh := sh) (sy := sy) G (e := i) (by omega) hr post (wY_raise_12 post ty cm ct (nI n) cp cf st rs ut tl cr fr dd pp ac yr g a tr yp sk so sh sy f) (fun x x1 x2 x3 => ?_) (fun x1 => ?_) (n + 1) c 0 (by omega) d2 d3 (by omega) (fun y hy hh => ?_)
        · exact key
        · have hi1 : rt_h g a n T P ty i := ⟨hP, x, x1, x3⟩
          obtain ⟨f, rfl⟩ : ∃ f', f = f' + 1 := ⟨f - 1, by omega⟩
          rcases hF with ⟨e, x', h1, h2, h3, h4, h5, h6, h7⟩ | ⟨h1, h2, h3⟩
          · have ee : e = i := by
              rcases Nat.lt_or_ge e i with z | z
              · exact absurd hi1 (h7 i z (by omega))
              · omega
            subst ee
            have ex : nI x = nI x' := by rw [← x2]; exact ow_Lu hr h6
            rw [ex, ← h2, ← h3]
            exact br_c (fun _ => hp) (fun _ => br_t (by rw [h2]; exact nI_pos' (by omega)) hp)
          · exact absurd hi1 (h3 i (by omega))
        · rw [rt_m2]
          refine go fun h => ?_
          obtain ⟨-, x, y1, y2⟩ := h
          rcases hr with ⟨x', z1, z2, z3, z4⟩ | ⟨z1, z2⟩
          · rw [x1] at z2; exact absurd z2.symm (hp_ne1 (by omega))
          · exact z2 x y1 y2
        · have h1 := (ow_1 (ow_Kl G.2.1 (show y ≤ n by omega)) hh.1).1
          exact d4 y h1 hy hh.1
      · exact br_f b1 (br_f b5 ⟨b2, br_t (by rw [b3, k1]) ⟨b2, br_f (by rw [b3, s2]; exact nI_ne0 (by omega) (by omega)) (nm_r (rt_m2 i) (go fun h => hP h.1))⟩⟩)
theorem yr_166 (G : ow_G g a n) (R : rt_K g n T P d p) (hd : d ≤ 32) (hY : rt_Y T P fy sk so sh sy d) {ty : Int32} {e xe j x k : Nat} (hq : rt_q g a n T P ty j x k) (hej : (k = 2 → e = j ∧ xe = x) ∧ (k = 3 → e < j)) (post : SY → Prop)
    (h2 : k = 2 → post (cm, ct, nI n, cp, cf, st, rs, ut, tl, cr + 1, fr, nI (j + 1), nI (x + 1), ac, yr, g, a, tr, yp, sk, so, upd sh j 1, upd sy j ty))
    (h3 : k = 3 → post (cm, ct, nI n, cp, cf, st, rs, ut, tl, cr, fr + 1, nI (j + 1), nI (x + 1), ac, yr, g, a, tr, yp, sk, so, upd sh j 2, upd sy j ty)) :
    ∀ f i c, j ≤ i → i < d → i < f → c + i ≤ 60 → (∀ m, j < m → m ≤ i → rt_p g a n T P ty m) → wY_raise_166 post ty (nI e) (nI xe) cm ct (nI n) cp cf st rs ut tl cr fr pp ac yr g a tr yp sk so sh sy f (nI c) (nI (i + 1)) := by
  have hn := G.1
  have hjx := hq.1
  intro f
  induction f with
  | zero => intro i c _ _ h; omega
  | succ f ih =>
  intro i c hji hid hf hc hps
  obtain ⟨hTi, hTin, hTk⟩ := R.2.2.2 i hid
  have b1 : ¬ (64 : Int32) ≤ nI c := nI_ge (b := 64) (by omega) (by decide)
  have b2 : vp_in (nI i) 64 := vp_in_nI (by omega) (by omega)
  have b3 : (nI i).toNatClampNeg = i := nI_clamp (by omega)
  have b0 : nI (i + 1) - 1 = nI i := nI_pred i
  by_cases ei : i = j
  · subst ei
    obtain ⟨hx, ⟨k2, p1, l1, l2⟩ | ⟨k3, p12, no, l1, l2, l3, -⟩⟩ := hq
    · obtain ⟨rfl, rfl⟩ := hej.1 k2
      exact br_f b1 (br_t (by rw [b0]; exact nI_le (Nat.le_refl _) (by omega)) ⟨b2, nm_r (by rw [b3]) ⟨b2, nm_r (by rw [b3]) (nm_e (nm_r (nI_1 _) (h2 k2)))⟩⟩)
    · have hlt := hej.2 k3
      rcases hY i hid with ⟨p0, k0, -⟩ | ⟨p1, p3, k1, s1, s2, -⟩
      · omega
      · have g3 : g (T i) = 3 := (rt_try G R hid (by omega)).2.2.2.2.2
        have hs : ¬ (2 : Int32) ≤ sh (nI i).toNatClampNeg := by
          rw [b3, s2]; exact nI_ge (b := 2) (by omega) (by decide)
        refine br_f b1 (br_f (by rw [b0]; exact nI_ge hlt (by omega)) (nm_r b0 ⟨b2, br_t (by rw [b3, k1]) ⟨b2, br_f hs ⟨b2, ?_⟩⟩⟩))
        rw [b3, s1]
        exact yc_w G g3 hTi l1 _ (br_f (nI_pos (by omega)) ⟨b2, nm_e ⟨b2, nm_e (nm_e (nm_r (nI_1 x) (h3 k3)))⟩⟩)
  · obtain ⟨i', rfl⟩ : ∃ i', i = i' + 1 := ⟨i - 1, by omega⟩
    obtain ⟨q1, q2⟩ := hps (i' + 1) (by omega) (Nat.le_refl _)
    have rc := ih i' (c + 1) (by omega) (by omega) (by omega) (by omega) (fun m m1 m2 => hps m m1 (by omega))
    have hle : e ≤ j := by
      obtain ⟨hx, ⟨k2, -⟩ | ⟨k3, -⟩⟩ := hq
      · have := hej.1 k2; omega
      · have := hej.2 k3; omega
    have b4 : ¬ (nI (i' + 1 + 1) - 1) ≤ nI e := by rw [b0]; exact nI_ge (by omega) (by omega)
    have n267 : wY_raise_267 post (wY_raise_166 post ty (nI e) (nI xe) cm ct (nI n) cp cf st rs ut tl cr fr pp ac yr g a tr yp sk so sh sy f) ty (nI e) (nI xe) (nI c) cm ct (nI n) cp cf st rs ut tl cr fr (nI (i' + 1 + 1)) pp ac yr g a tr yp sk so sh sy := nm_r b0 (nm_r (nI_1 c) rc)
    rcases hY (i' + 1) hid with ⟨p0, k0, -⟩ | ⟨p1, p3, k1, s1, s2, -⟩
    · exact br_f b1 (br_f b4 (nm_r b0 ⟨b2, br_f (by rw [b3, k0]; decide) n267⟩))
    · by_cases h3 : P (i' + 1) = 3
      · have hs : (2 : Int32) ≤ sh (nI (i' + 1)).toNatClampNeg := by rw [b3, s2, h3]; decide
        exact br_f b1 (br_f b4 (nm_r b0 ⟨b2, br_t (by rw [b3, k1]) ⟨b2, br_t hs n267⟩⟩))
      · have g3 : g (T (i' + 1)) = 3 := (rt_try G R hid (by omega)).2.2.2.2.2
        have hs : ¬ (2 : Int32) ≤ sh (nI (i' + 1)).toNatClampNeg := by
          rw [b3, s2]; exact nI_ge (b := 2) (by omega) (by decide)
        refine br_f b1 (br_f b4 (nm_r b0 ⟨b2, br_t (by rw [b3, k1]) ⟨b2, br_f hs ⟨b2, ?_⟩⟩⟩))
        rw [b3, s1]
        exact yc_w G g3 hTi (Or.inr ⟨rfl, q2 h3⟩) _ (br_t (by decide) n267)
/-- the reference's raise over its first i frames -/
theorem yr_w (G : ow_G g a n) (R : rt_K g n T P d p) (hd : d ≤ 32) (hY : rt_Y T P fy sk so sh sy d) {ty : Int32} {i j x k : Nat} (hi : i ≤ d) (hj : j < i) (hps : ∀ m, j < m → m < i → rt_p g a n T P ty m) (hq : rt_q g a n T P ty j x k) (post : SY → Prop)
    (h2 : k = 2 → post (cm, ct, nI n, cp, cf, st, rs, ut, tl, cr + 1, fr, nI (j + 1), nI (x + 1), ac, yr, g, a, tr, yp, sk, so, upd sh j 1, upd sy j ty))
    (h3 : k = 3 → post (cm, ct, nI n, cp, cf, st, rs, ut, tl, cr, fr + 1, nI (j + 1), nI (x + 1), ac, yr, g, a, tr, yp, sk, so, upd sh j 2, upd sy j ty)) : wpY_raise post (cm, ct, nI n, cp, cf, st, rs, ut, tl, cr, fr, nI i, pp, ac, yr, g, a, tr, yp, sk, so, sh, sy) ty := by
  have hn := G.1
  have hno : ∀ m, j < m → m < i → ¬ rt_h g a n T P ty m := fun m m1 m2 h => by
    obtain ⟨p1, x', y1, y2⟩ := h
    exact (hps m m1 m2).1 p1 x' y1 y2
  obtain ⟨e, xe, he, hF, hej⟩ : ∃ e xe, e < d ∧ rt_f g a n T P ty (nI e) (nI xe) i ∧ (k = 2 → e = j ∧ xe = x) ∧ (k = 3 → e < j) := by
    obtain ⟨hx, ⟨k2, p1, l1, l2⟩ | ⟨k3, p12, no, l1, l2, l3, hh⟩⟩ := hq
    · exact ⟨j, x, by omega, Or.inl ⟨j, x, hj, rfl, rfl, hx, ⟨p1, x, hx, l2⟩, l1, hno⟩, fun _ => ⟨rfl, rfl⟩, fun h => by omega⟩
    · obtain ⟨e, e1, e2, e3⟩ := rt_gr j hh
      obtain ⟨xe, y1, y2, y3⟩ := ow_Lx e2.2
      refine ⟨e, xe, by omega, Or.inl ⟨e, xe, by omega, rfl, rfl, y1, e2, y3, fun m m1 m2 => ?_⟩, fun h => by omega, fun _ => e1⟩
      rcases Nat.lt_trichotomy m j with z | z | z
      · exact e3 m m1 z
      · rw [z]; exact fun h => by obtain ⟨p1, x', z1, z2⟩ := h; exact no p1 x' z1 z2
      · exact hno m z m2
  obtain ⟨i', rfl⟩ : ∃ i', i = i' + 1 := ⟨i - 1, by omega⟩
  have k166 := yr_166 (cm := cm) (ct := ct) (cp := cp) (cf := cf) (st := st) (rs := rs) (ut := ut) (tl := tl) (cr := cr) (fr := fr) (pp := pp) (ac := ac) (yr := yr) (tr := tr) (yp := yp) (sk := sk) (so := so) (sh := sh) (sy := sy) G R hd hY hq hej post h2 h3 (d + 1) i' 0 (by omega) (by omega) (by omega) (by omega) (fun m m1 m2 => hps m m1 (by omega))
  have k143 : wY_raise_143 post ty (nI e) (nI xe) cm ct (nI n) cp cf st rs ut tl cr fr (nI (i' + 1)) pp ac yr g a tr yp sk so sh sy := br_t (nI_pos' (by omega)) ⟨d + 1, k166⟩
  exact nm_r (rt_m1 (i' + 1)) ⟨i' + 3, yr_12 G R hd hY post k143 (i' + 1) (i' + 3) hi (by omega) hF⟩
theorem yr_n (G : ow_G g a n) (R : rt_K g n T P d p) (hd : d ≤ 32) (hY : rt_Y T P fy sk so sh sy d) {ty : Int32} (hh : ∀ e, e < d → ¬ rt_h g a n T P ty e) (post : SY → Prop) (hp : post (cm, ct, nI n, cp, cf, 2, rs, ty, tl, cr, fr, nI d, pp, ac, 0, g, a, tr, yp, sk, so, sh, sy)) : wpY_raise post (cm, ct, nI n, cp, cf, st, rs, ut, tl, cr, fr, nI d, pp, ac, yr, g, a, tr, yp, sk, so, sh, sy) ty := by
  have k143 : wY_raise_143 post ty (-1) (-1) cm ct (nI n) cp cf st rs ut tl cr fr (nI d) pp ac yr g a tr yp sk so sh sy := br_f (by decide) hp
  exact nm_r (rt_m1 d) ⟨d + 2, yr_12 G R hd hY post k143 d (d + 2) (Nat.le_refl _) (by omega) (Or.inr ⟨rfl, rfl, hh⟩)⟩
/-! K: the type caught last -/
theorem xy_i (G : ow_G g a n) (R : rt_K g n T P d p) (hd : d ≤ 32) (hX : rt_X T P ft fp d) (hY : rt_Y T P fy sk so sh sy d) : ∀ i, i ≤ d → (∃ l, l < hp_oc g (rt_x T d p i) ∧ hp_pt g (rt_x T d p i) l = 2) → ∃ ty : Nat, 1 ≤ ty ∧ ty ≤ 15 ∧ (∀ f (post : Int32 → Prop), i < f → post (nI ty) → wX_innermostCaughtType_7 post cm ct (nI n) cp cf xo xi xs xh dd pp ac tl st rs ut cr fr g a fs tf xot xop ft fp fy tr f (rt_m i)) ∧ (∀ f (post : Int32 → Prop), i < f → post (nI ty) → wY_innermostCaught_7 post cm ct (nI n) cp cf st rs ut tl cr fr dd pp ac yr g a tr yp sk so sh sy f (rt_m i)) := by
  have hn := G.1
  intro i
  induction i with
  | zero => intro _ h; obtain ⟨l, h1, h2⟩ := h; rw [R.2.2.1] at h1; omega
  | succ i ih =>
  intro hi hl
  obtain ⟨l, l1, l2⟩ := hl
  have hid : i < d := by omega
  have hk := (R.2.2.2 i hid).2.2
  have hP : P i ≠ 0 := by
    rcases hk with ⟨k1, k2, k3⟩ | ⟨k1, -⟩
    · have p1 := ((hp_H _ (ow_Kl G.2.1 (show rt_x T d p (i + 1) ≤ n from Nat.le_of_lt (rt_xn R (i + 1))))).2.2.2.2 (hp_oc g (rt_x T d p (i + 1)) - 1) (by omega)).2.2.2.2.2.1
      omega
    · omega
  obtain ⟨r1, r2, r3, r4, r5, r6⟩ := rt_try G R hid hP
  have b1 : ¬ nI i < 0 := nI_pos (by omega)
  have b2 : vp_in (nI i) 64 := vp_in_nI (by omega) (by omega)
  have b2' : vp_in (nI i) 32 := vp_in_nI (by omega) (by omega)
  have b3 : (nI i).toNatClampNeg = i := nI_clamp (by omega)
  have f2 := rt_fp hX hid (k := 2) (by omega)
  rw [show rt_m (i + 1) = nI i from rfl]
  rcases hY i hid with ⟨p0, k0, -⟩ | ⟨p1, p3, k1, s1, s2, s3⟩
  · exact absurd p0 hP
  · by_cases hP2 : P i = 2
    · obtain ⟨t1, ty, t2, t3, t4⟩ := s3 (by omega)
      refine ⟨ty, t4 hP2, t2, fun f post hf hp => ?_, fun f post hf hp => ?_⟩
      · obtain ⟨f, rfl⟩ : ∃ f', f = f' + 1 := ⟨f - 1, by omega⟩
        exact br_f b1 ⟨b2', br_t (by rw [b3]; exact f2.mpr hP2) ⟨b2', by rw [b3, t3]; exact hp⟩⟩
      · obtain ⟨f, rfl⟩ : ∃ f', f = f' + 1 := ⟨f - 1, by omega⟩
        exact br_f b1 ⟨b2, br_t (by rw [b3, k1]) ⟨b2, br_t (by rw [b3, s2, hP2]; rfl) ⟨b2, by rw [b3, t1, t3]; exact hp⟩⟩⟩
    · clear s3
      have Kq := ow_Kl G.2.1 (show rt_x T d p (i + 1) ≤ n from Nat.le_of_lt (rt_xn R (i + 1)))
      have lv := (ow_2 Kq r4).2.2.2.2.2.2
      have hll : l < hp_oc g (T i) := by
        rw [r5]
        by_cases el : l = hp_oc g (rt_x T d p (i + 1)) - 1
        · rw [el, ← r3] at l2; exact absurd l2 hP2
        · omega
      obtain ⟨ty, t1, t2, t3, t4⟩ := ih (by omega) ⟨l, by rw [rt_xl hid]; exact hll, by rw [rt_xl hid, (lv l hll).2]; exact l2⟩
      refine ⟨ty, t1, t2, fun f post hf hp => ?_, fun f post hf hp => ?_⟩
      · obtain ⟨f, rfl⟩ : ∃ f', f = f' + 1 := ⟨f - 1, by omega⟩
        exact br_f b1 ⟨b2', br_f (by rw [b3]; exact fun h => hP2 (f2.mp h)) (nm_r (rt_m2 i) (t3 f post (by omega) hp))⟩
      · obtain ⟨f, rfl⟩ : ∃ f', f = f' + 1 := ⟨f - 1, by omega⟩
        refine br_f b1 ⟨b2, br_t (by rw [b3, k1]) ⟨b2, br_f ?_ (nm_r (rt_m2 i) (t4 f post (by omega) hp))⟩⟩
        rw [b3, s2]
        exact fun h => by have := hp_eq (b := 1) h (by omega) (by omega); omega
end HY
end
section
section HN
variable {g a fs tf xot xop ft fp fy tr yp sk so sh sy : Nat → Int32} {n d p tl tc M : Nat} {T P : Nat → Nat} {cm ct cp cf xo xi xs xh ac cr fr : Int32}
/-! L: one step of both -/
/-- a finally body's pending type has its handler -/
def rt_E (g a : Nat → Int32) (n : Nat) (T P : Nat → Nat) (fy : Nat → Int32) (d : Nat) : Prop := ∀ j, j < d → P j = 3 → ¬ fy j = 0 → ∃ e, e < j ∧ rt_h g a n T P (fy j) e
def rn_J (g a : Nat → Int32) (n M : Nat) (T P : Nat → Nat) (d p : Nat) (ft fp fy sk so sh sy : Nat → Int32) : Prop := rt_K g n T P d p ∧ rt_X T P ft fp d ∧ rt_Y T P fy sk so sh sy d ∧ rt_E g a n T P fy d ∧ rt_s g T P d + rt_R g p ≤ M
def rn_I (g a : Nat → Int32) (n M d p : Nat) (ft fp fy sk so sh sy : Nat → Int32) : Prop := ∃ T P, rn_J g a n M T P d p ft fp fy sk so sh sy
theorem rn_n (G : ow_G g a n) {q : Nat} (hq : q ≤ n) (h : hp_in g q = 1) : q < n := by
  rcases Nat.lt_or_ge q n with z | z
  · exact z
  · have : q = n := by omega
    rw [this, G.2.2.1] at h
    exact absurd h (by decide)
/-- frame j goes on in another part, from behind its clause x -/
theorem rn_set (G : ow_G g a n) (J : rn_J g a n (M + 1) T P d p ft fp fy sk so sh sy) {j x k ty : Nat} (hj : j < d) (hx : x < n) (hO : ow_O g (T j) x) (hk : (k = 2 ∧ g x = 4 ∧ P j = 1 ∧ 1 ≤ ty) ∨ (k = 3 ∧ g x = 5 ∧ (P j = 1 ∨ P j = 2))) (hty : ty ≤ 15) (hE : k = 3 → 1 ≤ ty → ∃ e, e < j ∧ rt_h g a n T P (nI ty) e) :
    rn_I g a n M (j + 1) (x + 1) ft (upd fp j (nI k)) (upd fy j (nI ty)) sk so (upd sh j (nI (k - 1))) (upd sy j (nI ty)) := by
  obtain ⟨R, hX, hY, E, hM⟩ := J
  have hP0 : P j ≠ 0 := by rcases hk with h | h <;> omega
  have hg : g x = 4 ∨ g x = 5 := by rcases hk with h | h; exact Or.inl h.2.1; exact Or.inr h.2.1
  have hk0 : k ≠ 0 := by rcases hk with h | h <;> omega
  obtain ⟨-, w2, w3, w4⟩ := ow_6 (ow_Kl G.2.1 (show x + 1 ≤ n by omega)) hO
  obtain ⟨v1, v2, v3, v4⟩ := w2 hg
  have vk : hp_pt g (x + 1) (hp_oc g (T j)) = k := by
    rcases hk with h | h
    · rw [w3 h.2.1]; omega
    · rw [w4 h.2.1]; omega
  have hdec := rt_dec G R hj hx hO (by
    rcases hk with h | h
    · exact Or.inl ⟨h.2.2.1, hg⟩
    · rcases h.2.2 with q | q
      · exact Or.inl ⟨q, hg⟩
      · exact Or.inr ⟨q, h.2.1⟩)
  refine ⟨T, hp_u P j k, ?_, fun i hi => ?_, fun i hi => ?_, fun i hi h3 h0 => ?_, ?_⟩
  · refine rt_set R hj (rn_n G (by omega) v3) v3 (Or.inl ⟨by omega, ?_, ?_⟩)
    · rw [v1]; exact v2.symm
    · rw [v1]; exact vk.symm
  · by_cases e : i = j
    · subst e
      rw [hp_us, hp_uS]
      refine ⟨(hX i hj).1, rfl, ?_⟩
      rcases hk with h | h <;> omega
    · rw [hp_un e, hp_uN e]; exact hX i (by omega)
  · by_cases e : i = j
    · subst e
      rw [hp_us, hp_us, hp_us, hp_uS]
      rcases hY i hj with ⟨p0, -⟩ | ⟨p1, p3, k1, s1, -⟩
      · exact absurd p0 hP0
      · refine Or.inr ⟨by omega, by rcases hk with h | h <;> omega, k1, s1, rfl, fun _ => ⟨rfl, ty, hty, rfl, fun h2 => ?_⟩⟩
        rcases hk with h | h
        · exact h.2.2.2
        · omega
    · rw [hp_un e, hp_un e, hp_un e, hp_uN e]; exact hY i (by omega)
  · have hb : ∀ e', e' < i → ∀ ty' : Int32, rt_h g a n T P ty' e' → rt_h g a n T (hp_u P j k) ty' e' := fun e' h1 ty' h => by
      unfold rt_h
      rw [hp_uN (show e' ≠ j by omega)]; exact h
    by_cases e : i = j
    · subst e
      rw [hp_us] at h0 ⊢
      rw [hp_uS] at h3
      obtain ⟨e', e1, e2⟩ := hE h3 (by
        rcases Nat.eq_zero_or_pos ty with z | z
        · rw [z] at h0; exact absurd nI_0 h0
        · exact z)
      exact ⟨e', e1, hb e' e1 _ e2⟩
    · rw [hp_un e] at h0 ⊢
      rw [hp_uN e] at h3
      obtain ⟨e', e1, e2⟩ := E i (by omega) h3 h0
      exact ⟨e', e1, hb e' e1 _ e2⟩
  · have e1 : rt_s g T (hp_u P j k) (j + 1) = rt_s g T P j := by
      simp only [rt_s]
      rw [hp_uS, if_neg hk0, rt_sE (T := T) (P := P) j (fun i hi => ⟨rfl, hp_uN (by omega)⟩)]
      omega
    rw [e1]; omega
/-- frames from j on left -/
theorem rn_cut (G : ow_G g a n) (J : rn_J g a n (M + 1) T P d p ft fp fy sk so sh sy) {j p' : Nat} (hj : j ≤ d) (hp : p' ≤ n) (hi : hp_in g p' = 1) (h1 : hp_oc g p' = hp_oc g (rt_x T d p j)) (h2 : hp_fn g p' = hp_fn g (rt_x T d p j)) (h3 : ∀ m, m < hp_oc g (rt_x T d p j) → hp_ot g p' m = hp_ot g (rt_x T d p j) m ∧ hp_pt g p' m = hp_pt g (rt_x T d p j) m) (hm : rt_s g T P j + rt_R g p' + 1 ≤ rt_s g T P d + rt_R g p) :
    rn_I g a n M j p' ft fp fy sk so sh sy := by
  obtain ⟨R, hX, hY, E, hM⟩ := J
  exact ⟨T, P, rt_cut R hj (rn_n G hp hi) hi h1 h2 h3, fun i hi => hX i (by omega), fun i hi => hY i (by omega), fun i hi => E i (by omega), by omega⟩
/-- a new frame at p -/
theorem rn_psh (G : ow_G g a n) (J : rn_J g a n (M + 1) T P d p ft fp fy sk so sh sy) {p' pr : Nat} {b c : Int32} (hp : p' ≤ n) (hi : hp_in g p' = 1) (hk : rt_k g p pr p') (hpr : (pr = 0 ∧ b = 0 ∧ c = nI (p + 1)) ∨ (pr = 1 ∧ b = 1 ∧ c = nI p)) (hm : (if pr = 0 then rt_R g (p + 1) else 0) + rt_R g p' + 1 ≤ rt_R g p) :
    rn_I g a n M (d + 1) p' (upd ft d (nI p)) (upd fp d (nI pr)) fy (upd sk d b) (upd so d c) (upd sh d 0) (upd sy d 0) := by
  obtain ⟨R, hX, hY, E, hM⟩ := J
  refine ⟨hp_u T d p, hp_u P d pr, rt_psh R (rn_n G hp hi) hi hk, fun i hi => ?_, fun i hi => ?_, fun i hi h3 h0 => ?_, ?_⟩
  · by_cases e : i = d
    · subst e
      rw [hp_us, hp_us, hp_uS, hp_uS]
      exact ⟨rfl, rfl, by omega⟩
    · rw [hp_un e, hp_un e, hp_uN e, hp_uN e]; exact hX i (by omega)
  · by_cases e : i = d
    · subst e
      rw [hp_us, hp_us, hp_us, hp_us, hp_uS, hp_uS]
      rcases hpr with ⟨rfl, rfl, rfl⟩ | ⟨rfl, rfl, rfl⟩
      · exact Or.inl ⟨rfl, rfl, rfl⟩
      · exact Or.inr ⟨by omega, by omega, rfl, rfl, rfl, fun h => by omega⟩
    · rw [hp_un e, hp_un e, hp_un e, hp_un e, hp_uN e, hp_uN e]; exact hY i (by omega)
  · by_cases e : i = d
    · subst e
      rw [hp_uS] at h3; omega
    · rw [hp_uN e] at h3
      obtain ⟨e', e1, e2⟩ := E i (by omega) h3 h0
      refine ⟨e', e1, ?_⟩
      unfold rt_h
      rw [hp_uN (show e' ≠ d by omega), hp_uN (show e' ≠ d by omega)]; exact e2
  · have e1 : rt_s g (hp_u T d p) (hp_u P d pr) (d + 1) = rt_s g T P d + if pr = 0 then rt_R g (p + 1) else 0 := by
      simp only [rt_s]
      rw [hp_uS, hp_uS, rt_sE (T := T) (P := P) d (fun i hi => ⟨hp_uN (by omega), hp_uN (by omega)⟩)]
    rw [e1]; omega
/-- a throw -/
theorem rn_r (G : ow_G g a n) (hT : ow_T g tf n) (htl : tl ≤ tc) (J : rn_J g a n (M + 1) T P d p ft fp fy sk so sh sy) {ty : Nat} (h1 : 1 ≤ ty) (h15 : ty ≤ 15) : ((∃ (d' p' tl' : Nat) (ac' cr' fr' : Int32) (ft' fp' fy' tr' sk' so' sh' sy' : Nat → Int32), rn_I g a n M d' p' ft' fp' fy' sk' so' sh' sy' ∧ tl' ≤ tc ∧ (∀ post : SX → Prop, post (cm, nI tc, nI n, cp, cf, xo, xi, xs, xh, nI d', nI p', ac', nI tl', 0, 0, 0, cr', fr', g, a, fs, tf, xot, xop, ft', fp', fy', tr') → wpX_raise post (cm, nI tc, nI n, cp, cf, xo, xi, xs, xh, nI d, nI p, ac, nI tl, 0, 0, 0, cr, fr, g, a, fs, tf, xot, xop, ft, fp, fy, tr) (nI ty)) ∧ (∀ post : SY → Prop, post (cm, nI tc, nI n, cp, cf, 0, 0, 0, nI tl', cr', fr', nI d', nI p', ac', 1, g, a, tr', yp, sk', so', sh', sy') → wpY_raise post (cm, nI tc, nI n, cp, cf, 0, 0, 0, nI tl, cr, fr, nI d, nI p, ac, 1, g, a, tr, yp, sk, so, sh, sy) (nI ty))) ∨ (∃ st' ut' : Int32, ¬ st' = 0 ∧ (st' = 2 ∨ ut' = 0) ∧ (∀ post : SX → Prop, post (cm, nI tc, nI n, cp, cf, xo, xi, xs, xh, nI d, nI p, ac, nI tl, st', ac, ut', cr, fr, g, a, fs, tf, xot, xop, ft, fp, fy, tr) → wpX_raise post (cm, nI tc, nI n, cp, cf, xo, xi, xs, xh, nI d, nI p, ac, nI tl, 0, 0, 0, cr, fr, g, a, fs, tf, xot, xop, ft, fp, fy, tr) (nI ty)) ∧ (∀ post : SY → Prop, post (cm, nI tc, nI n, cp, cf, st', 0, ut', nI tl, cr, fr, nI d, nI p, ac, 0, g, a, tr, yp, sk, so, sh, sy) → wpY_raise post (cm, nI tc, nI n, cp, cf, 0, 0, 0, nI tl, cr, fr, nI d, nI p, ac, 1, g, a, tr, yp, sk, so, sh, sy) (nI ty)))) := by
  have J0 := J
  obtain ⟨R, hX, hY, E, hM⟩ := J
  have hd : d ≤ 32 := by have := rt_dp G R; have := R.1; have := G.1; omega
  by_cases hh : ∃ e, e < d ∧ rt_h g a n T P (nI ty) e
  · left
    obtain ⟨j, x, k, j1, j2, j3⟩ := rt_ex G R d (Nat.le_refl _) hh
    have j4 := j2
    obtain ⟨hx, ⟨k2, p1, l1, l2⟩ | ⟨k3, p12, no, l1, l2, l3, he⟩⟩ := j4
    · exact ⟨j + 1, x + 1, tl, ac, cr + 1, fr, ft, upd fp j 2, upd fy j (nI ty), tr, sk, so, upd sh j 1, upd sy j (nI ty), rn_set (k := 2) G J0 j1 hx l2.1 (Or.inl ⟨rfl, l2.2.1, p1, h1⟩) h15 (fun h => by omega), htl,
        fun post hp => xr_w G hT R hd hX j1 j3 j2 hh post (fun _ => hp) (fun h => by omega), fun post hp => yr_w G R hd hY (Nat.le_refl _) j1 j3 j2 post (fun _ => hp) (fun h => by omega)⟩
    · exact ⟨j + 1, x + 1, tl, ac, cr, fr + 1, ft, upd fp j 3, upd fy j (nI ty), tr, sk, so, upd sh j 2, upd sy j (nI ty), rn_set (k := 3) G J0 j1 hx l2 (Or.inr ⟨rfl, l3, p12⟩) h15 (fun _ _ => he), htl,
        fun post hp => xr_w G hT R hd hX j1 j3 j2 hh post (fun h => by omega) (fun _ => hp), fun post hp => yr_w G R hd hY (Nat.le_refl _) j1 j3 j2 post (fun h => by omega) (fun _ => hp)⟩
  · right
    have hno : ∀ e, e < d → ¬ rt_h g a n T P (nI ty) e := fun e h1 h2 => hh ⟨e, h1, h2⟩
    exact ⟨2, nI ty, by decide, Or.inl rfl, fun post hp => xr_n G hT R hd hX hno post hp, fun post hp => yr_n G R hd hY hno post hp⟩
end HN
end
section
section HM
variable {g a fs tf xot xop ft fp fy tr yp sk so sh sy : Nat → Int32} {n d p : Nat} {T P : Nat → Nat} {cm ct cp cf xo xi xs xh dd pp ac tl st rs ut cr fr yr : Int32}
/-! M: the own methods of a step -/
theorem xp_w {b : Int32} (hd : d < 32) (post : SX → Prop) (hp : post (cm, ct, nI n, cp, cf, xo, xi, xs, xh, nI (d + 1), pp, ac, tl, st, rs, ut, cr, fr, g, a, fs, tf, xot, xop, upd ft d pp, upd fp d b, fy, tr)) : wpX_pushFrame post (cm, ct, nI n, cp, cf, xo, xi, xs, xh, nI d, pp, ac, tl, st, rs, ut, cr, fr, g, a, fs, tf, xot, xop, ft, fp, fy, tr) b := by
  have b2 : vp_in (nI d) 32 := vp_in_nI hd (by omega)
  have b3 : (nI d).toNatClampNeg = d := nI_clamp (by omega)
  exact br_f (nI_ge (b := 32) hd (by decide)) ⟨b2, nm_r (by rw [b3]) ⟨b2, nm_r (by rw [b3]) (nm_r (nI_1 d) hp)⟩⟩
theorem yp_w {b c : Int32} (hd : d < 64) (post : Int32 → SY → Prop) (hp : post 1 (cm, ct, nI n, cp, cf, st, rs, ut, tl, cr, fr, nI (d + 1), pp, ac, yr, g, a, tr, yp, upd sk d b, upd so d c, upd sh d 0, upd sy d 0)) : wpY_push post (cm, ct, nI n, cp, cf, st, rs, ut, tl, cr, fr, nI d, pp, ac, yr, g, a, tr, yp, sk, so, sh, sy) b c := by
  have b2 : vp_in (nI d) 64 := vp_in_nI hd (by omega)
  have b3 : (nI d).toNatClampNeg = d := nI_clamp (by omega)
  exact br_t (nI_lt (b := 64) hd (by decide)) ⟨b2, nm_r (by rw [b3]) ⟨b2, nm_r (by rw [b3]) ⟨b2, nm_r (by rw [b3]) ⟨b2, nm_r (by rw [b3]) (nm_r (nI_1 d) hp)⟩⟩⟩⟩
/-- the finally body owed by frame j -/
def xo_R (g : Nat → Int32) (n t : Nat) (x : Int32) (r : Int32) : Prop := (x = 3 ∧ r = -1) ∨ (¬ x = 3 ∧ ow_L n (fun x => ow_O g t x ∧ g x = 5) r)
theorem xo_o (hn : n ≤ 32) (hT : ow_T g tf n) {t j : Nat} (ht : t < 32) (hj : j < 32) (hft : ft j = nI t) {r : Int32} (hr : xo_R g n t (fp j) r) (post : Int32 → Prop) (hp : post r) : wpX_owedFinally post (cm, ct, nI n, cp, cf, xo, xi, xs, xh, dd, pp, ac, tl, st, rs, ut, cr, fr, g, a, fs, tf, xot, xop, ft, fp, fy, tr) (nI j) := by
  rcases hr with ⟨h1, h2⟩ | ⟨h1, h2⟩
  · rw [h2] at hp; exact xo_3 hj h1 post hp
  · exact xo_w hn hT ht hj hft h1 h2 post hp
theorem xb_c (hn : n ≤ 32) (hT : ow_T g tf n) {t : Nat} (ht : t < 32) (hd : d < 32) (hft : ft d = nI t) (h0 : fp d = 0) (post : SX → Prop) (hp : post (cm, ct, nI n, cp, cf, xo, xi, xs, xh, nI d, nI (t + 1), ac, tl, st, rs, ut, cr, fr, g, a, fs, tf, xot, xop, ft, fp, fy, tr)) : wpX_finishBody post (cm, ct, nI n, cp, cf, xo, xi, xs, xh, nI (d + 1), pp, ac, tl, st, rs, ut, cr, fr, g, a, fs, tf, xot, xop, ft, fp, fy, tr) := by
  have b2 : vp_in (nI d) 32 := vp_in_nI hd (by omega)
  have b3 : (nI d).toNatClampNeg = d := nI_clamp (by omega)
  obtain ⟨r, hr⟩ := ow_Le n (fun x => ow_O g t x ∧ g x = 5)
  refine br_f (nI_ne0 (by omega) (by omega)) (nm_r (nI_pred d) (xo_o hn hT ht hd hft (r := r) (Or.inr ⟨by rw [h0]; decide, hr⟩) _ ⟨b2, br_t (by rw [b3]; exact h0) ⟨b2, nm_r (nI_pred d) ?_⟩⟩))
  rw [b3, hft, nI_1]
  exact hp
theorem xb_f (hn : n ≤ 32) (hT : ow_T g tf n) {t x : Nat} (ht : t < 32) (hx : x < n) (hd : d < 32) (hft : ft d = nI t) (h0 : ¬ fp d = 0) (h3 : ¬ fp d = 3) (hr : ow_L n (fun x => ow_O g t x ∧ g x = 5) (nI x)) (post : SX → Prop) (hp : post (cm, ct, nI n, cp, cf, xo, xi, xs, xh, nI (d + 1), nI (x + 1), ac, tl, st, rs, ut, cr, fr + 1, g, a, fs, tf, xot, xop, ft, upd fp d 3, upd fy d 0, tr)) : wpX_finishBody post (cm, ct, nI n, cp, cf, xo, xi, xs, xh, nI (d + 1), pp, ac, tl, st, rs, ut, cr, fr, g, a, fs, tf, xot, xop, ft, fp, fy, tr) := by
  have b2 : vp_in (nI d) 32 := vp_in_nI hd (by omega)
  have b3 : (nI d).toNatClampNeg = d := nI_clamp (by omega)
  exact br_f (nI_ne0 (by omega) (by omega)) (nm_r (nI_pred d) (xo_o hn hT ht hd hft (Or.inr ⟨h3, hr⟩) _ ⟨b2, br_f (by rw [b3]; exact h0) (br_f (hp_ne1 (by omega)) (xs_f hd _ hp))⟩))
theorem xb_98 (hn : n ≤ 32) (hT : ow_T g tf n) {t x : Nat} (ht : t < 32) (hd : d < 32) (hft : ft d = nI t) (hr : ow_L n (fun x => ow_O g t x ∧ g x = 2) (nI x)) (post : SX → Prop) (hp : post (cm, ct, nI n, cp, cf, xo, xi, xs, xh, nI d, nI (x + 1), ac, tl, st, rs, ut, cr, fr, g, a, fs, tf, xot, xop, ft, fp, fy, tr)) : wX_finishBody_98 post (nI d) cm ct (nI n) cp cf xo xi xs xh (nI (d + 1)) pp ac tl st rs ut cr fr g a fs tf xot xop ft fp fy tr := by
  have b2 : vp_in (nI d) 32 := vp_in_nI hd (by omega)
  have b3 : (nI d).toNatClampNeg = d := nI_clamp (by omega)
  refine ⟨b2, ?_⟩
  rw [b3, hft]
  refine xf_w hn hT ht hr _ (nm_r (nI_pred d) ?_)
  rw [nI_1]
  exact hp
theorem xb_e (hn : n ≤ 32) (hT : ow_T g tf n) {t x : Nat} (ht : t < 32) (hd : d < 32) (hft : ft d = nI t) (h0 : ¬ fp d = 0) (ho : xo_R g n t (fp d) (-1)) (h3 : fp d = 3 → fy d = 0) (hr : ow_L n (fun x => ow_O g t x ∧ g x = 2) (nI x)) (post : SX → Prop) (hp : post (cm, ct, nI n, cp, cf, xo, xi, xs, xh, nI d, nI (x + 1), ac, tl, st, rs, ut, cr, fr, g, a, fs, tf, xot, xop, ft, fp, fy, tr)) : wpX_finishBody post (cm, ct, nI n, cp, cf, xo, xi, xs, xh, nI (d + 1), pp, ac, tl, st, rs, ut, cr, fr, g, a, fs, tf, xot, xop, ft, fp, fy, tr) := by
  have b2 : vp_in (nI d) 32 := vp_in_nI hd (by omega)
  have b3 : (nI d).toNatClampNeg = d := nI_clamp (by omega)
  have k98 := xb_98 (cm := cm) (ct := ct) (cp := cp) (cf := cf) (xo := xo) (xi := xi) (xs := xs) (xh := xh) (pp := pp) (ac := ac) (tl := tl) (st := st) (rs := rs) (ut := ut) (cr := cr) (fr := fr) (a := a) (fs := fs) (xot := xot) (xop := xop) (fp := fp) (fy := fy) (tr := tr) hn hT ht hd hft hr post hp
  refine br_f (nI_ne0 (by omega) (by omega)) (nm_r (nI_pred d) (xo_o hn hT ht hd hft ho _ ⟨b2, br_f (by rw [b3]; exact h0) (br_t rfl ⟨b2, ?_⟩)⟩))
  by_cases e : fp d = 3
  · exact br_t (by rw [b3]; exact e) ⟨b2, br_t (by rw [b3]; exact h3 e) k98⟩
  · exact br_f (by rw [b3]; exact e) k98
theorem xb_u (hn : n ≤ 32) (hT : ow_T g tf n) {t : Nat} {ty : Int32} (ht : t < 32) (hd : d < 32) (hft : ft d = nI t) (h3 : fp d = 3) (hty : fy d = ty) (hy0 : ¬ ty = 0) {u' : SX} (hw : ∀ post : SX → Prop, post u' → wpX_unwind post (cm, ct, nI n, cp, cf, xo, xi, xs, xh, nI (d + 1), pp, ac, tl, st, rs, ut, cr, fr, g, a, fs, tf, xot, xop, ft, fp, fy, tr) ty) (post : SX → Prop) (hp : post u') : wpX_finishBody post (cm, ct, nI n, cp, cf, xo, xi, xs, xh, nI (d + 1), pp, ac, tl, st, rs, ut, cr, fr, g, a, fs, tf, xot, xop, ft, fp, fy, tr) := by
  have b2 : vp_in (nI d) 32 := vp_in_nI hd (by omega)
  have b3 : (nI d).toNatClampNeg = d := nI_clamp (by omega)
  refine br_f (nI_ne0 (by omega) (by omega)) (nm_r (nI_pred d) (xo_o hn hT ht hd hft (r := -1) (Or.inl ⟨h3, rfl⟩) _ ⟨b2, br_f (by rw [b3, h3]; decide) (br_t rfl ⟨b2, br_t (by rw [b3]; exact h3) ⟨b2, br_f (by rw [b3, hty]; exact hy0) ⟨b2, ?_⟩⟩⟩)⟩))
  rw [b3, hty]
  exact hw _ hp
theorem yb_f (G : ow_G g a n) {t x : Nat} (h3 : g t = 3) (ht : t < n) (hx : x < n) (hd : d < 32) (hk : sk d = 1) (hso : so d = nI t) (hr : ow_L n (fun x => ow_O g t x ∧ g x = 5) (nI x)) (post : SY → Prop) (hp : post (cm, ct, nI n, cp, cf, st, rs, ut, tl, cr, fr + 1, nI (d + 1), nI (x + 1), ac, yr, g, a, tr, yp, sk, so, upd sh d 2, upd sy d 0)) : wpY_completeBody post (cm, ct, nI n, cp, cf, st, rs, ut, tl, cr, fr, nI (d + 1), pp, ac, yr, g, a, tr, yp, sk, so, sh, sy) := by
  have hn := G.1
  have b2 : vp_in (nI d) 64 := vp_in_nI (by omega) (by omega)
  have b3 : (nI d).toNatClampNeg = d := nI_clamp (by omega)
  have b0 : nI (d + 1) - 1 = nI d := nI_pred d
  refine br_f (nI_ne0 (by omega) (by omega)) ⟨by rw [b0]; exact b2, br_t (by rw [b0, b3]; exact hk) (nm_r b0 ⟨b2, ?_⟩)⟩
  rw [show so (nI d).toNatClampNeg = nI t by rw [b3]; exact hso]
  exact yc_w G h3 ht hr _ (br_f (nI_pos (by omega)) ⟨b2, nm_r (by rw [b3]) ⟨b2, nm_r (by rw [b3]) (nm_e (nm_r (nI_1 x) hp))⟩⟩)
theorem yb_e (G : ow_G g a n) {t x : Nat} (h3 : g t = 3) (ht : t < n) (hx : x < n) (hd : d < 32) (hk : sk d = 1) (hso : so d = nI t) (ho : ow_L n (fun x => ow_O g t x ∧ g x = 5) (-1)) (hr : ow_L n (fun x => ow_O g t x ∧ g x = 2) (nI x)) (post : SY → Prop) (hp : post (cm, ct, nI n, cp, cf, st, rs, ut, tl, cr, fr, nI d, nI (x + 1), ac, yr, g, a, tr, yp, sk, so, sh, sy)) : wpY_completeBody post (cm, ct, nI n, cp, cf, st, rs, ut, tl, cr, fr, nI (d + 1), pp, ac, yr, g, a, tr, yp, sk, so, sh, sy) := by
  have hn := G.1
  have b2 : vp_in (nI d) 64 := vp_in_nI (by omega) (by omega)
  have b3 : (nI d).toNatClampNeg = d := nI_clamp (by omega)
  have b0 : nI (d + 1) - 1 = nI d := nI_pred d
  refine br_f (nI_ne0 (by omega) (by omega)) ⟨by rw [b0]; exact b2, br_t (by rw [b0, b3]; exact hk) (nm_r b0 ⟨b2, ?_⟩)⟩
  rw [show so (nI d).toNatClampNeg = nI t by rw [b3]; exact hso]
  exact yc_w G h3 ht ho _ (br_t (by decide) ⟨b2, yc_w G h3 ht hr _ (nm_r b0 (nm_r (nI_1 x) hp))⟩)
theorem ye_c {t : Nat} (hd : d < 32) (hk : sk d = 0) (hso : so d = nI (t + 1)) (post : SY → Prop) (hp : post (cm, ct, nI n, cp, cf, st, rs, ut, tl, cr, fr, nI d, nI (t + 1), ac, yr, g, a, tr, yp, sk, so, sh, sy)) : wpY_endToken post (cm, ct, nI n, cp, cf, st, rs, ut, tl, cr, fr, nI (d + 1), pp, ac, yr, g, a, tr, yp, sk, so, sh, sy) := by
  have b2 : vp_in (nI d) 64 := vp_in_nI (by omega) (by omega)
  have b3 : (nI d).toNatClampNeg = d := nI_clamp (by omega)
  exact br_f (nI_ne0 (by omega) (by omega)) (nm_r (nI_pred d) ⟨b2, br_t (by rw [b3]; exact hk) ⟨b2, nm_r (by rw [b3]; exact hso) (nm_r (nI_pred d) hp)⟩⟩)
theorem ye_e (hd : d < 32) (hk : sk d = 1) (hz : sh d = 2 → sy d = 0) (post : SY → Prop) (hp : post (cm, ct, nI n, cp, cf, st, rs, ut, tl, cr, fr, nI d, nI (p + 1), ac, yr, g, a, tr, yp, sk, so, sh, sy)) : wpY_endToken post (cm, ct, nI n, cp, cf, st, rs, ut, tl, cr, fr, nI (d + 1), nI p, ac, yr, g, a, tr, yp, sk, so, sh, sy) := by
  have b2 : vp_in (nI d) 64 := vp_in_nI (by omega) (by omega)
  have b3 : (nI d).toNatClampNeg = d := nI_clamp (by omega)
  have k69 : wY_endToken_69 post 0 cm ct (nI n) cp cf st rs ut tl cr fr (nI (d + 1)) (nI p) ac yr g a tr yp sk so sh sy := nm_r (nI_pred d) (br_t (by decide) (nm_r (nI_1 p) hp))
  refine br_f (nI_ne0 (by omega) (by omega)) (nm_r (nI_pred d) ⟨b2, br_f (by rw [b3, hk]; decide) ⟨b2, ?_⟩⟩)
  by_cases e : sh d = 2
  · refine br_t (by rw [b3]; exact e) ⟨b2, ?_⟩
    rw [b3, hz e]; exact k69
  · exact br_f (by rw [b3]; exact e) k69
theorem ye_u {ty : Nat} (hd : d < 32) (hk : sk d = 1) (h2 : sh d = 2) (hty : sy d = nI ty) (h1 : 1 ≤ ty) (h15 : ty ≤ 15) {u' : SY} (hw : ∀ post : SY → Prop, post u' → wpY_raise post (cm, ct, nI n, cp, cf, st, rs, ut, tl, cr, fr, nI d, pp, ac, yr, g, a, tr, yp, sk, so, sh, sy) (nI ty)) (post : SY → Prop) (hp : post u') : wpY_endToken post (cm, ct, nI n, cp, cf, st, rs, ut, tl, cr, fr, nI (d + 1), pp, ac, yr, g, a, tr, yp, sk, so, sh, sy) := by
  have b2 : vp_in (nI d) 64 := vp_in_nI (by omega) (by omega)
  have b3 : (nI d).toNatClampNeg = d := nI_clamp (by omega)
  refine br_f (nI_ne0 (by omega) (by omega)) (nm_r (nI_pred d) ⟨b2, br_f (by rw [b3, hk]; decide) ⟨b2, br_t (by rw [b3]; exact h2) ⟨b2, ?_⟩⟩⟩)
  rw [b3, hty]
  exact nm_r (nI_pred d) (br_f (nI_nle (by omega) (by omega)) (hw _ hp))
end HM
end
section
section HK
variable {g a fs tf xot xop ft fp fy tr yp sk so sh sy : Nat → Int32} {n d p tl tc M : Nat} {T P : Nat → Nat} {cm cp cf xo xi xs xh ac cr fr : Int32}
/-! N: a step, by token -/
theorem rn_b (G : ow_G g a n) (J : rn_J g a n (M + 1) T P d p ft fp fy sk so sh sy) : p < n ∧ n ≤ 32 ∧ d ≤ p ∧ hp_in g p = 1 ∧ ow_K g a p ∧ ow_K g a (p + 1) ∧ vp_in (nI p) 32 ∧ (nI p).toNatClampNeg = p ∧ ¬ nI p < 0 ∧ nI p < nI n := by
  have h1 := J.1.1
  have h2 := G.1
  exact ⟨h1, h2, rt_dp G J.1, J.1.2.1, ow_Kl G.2.1 (by omega), ow_Kl G.2.1 (by omega), vp_in_nI (by omega) (by omega), nI_clamp (by omega), nI_pos (by omega), nI_lt h1 (by omega)⟩
theorem rn_nx (G : ow_G g a n) (J : rn_J g a n (M + 1) T P d p ft fp fy sk so sh sy) (k : hp_pl (g p)) : rn_I g a n M d (p + 1) ft fp fy sk so sh sy := by
  obtain ⟨z1, z2, z3, z4, -⟩ := rn_b G J
  obtain ⟨e1, e2, e3, e4, e5⟩ := hp_s6 k
  refine rn_cut G J (Nat.le_refl _) (by omega) (by rw [e5]; exact z4) ?_ ?_ ?_ ?_
  · rw [rt_xg (Nat.le_refl _), e1]
  · rw [rt_xg (Nat.le_refl _), e4]
  · rw [rt_xg (Nat.le_refl _), e2, e3]; exact fun m _ => ⟨rfl, rfl⟩
  · have := rt_Rl (g := g) e4 (show p < p + 1 by omega) (by omega)
    omega
theorem st_6 (G : ow_G g a n) (hT : ow_T g tf n) (htl : tl ≤ tc) (J : rn_J g a n (M + 1) T P d p ft fp fy sk so sh sy) (k : g p = 6) : ((∃ (d' p' tl' : Nat) (ac' cr' fr' : Int32) (ft' fp' fy' tr' sk' so' sh' sy' : Nat → Int32), rn_I g a n M d' p' ft' fp' fy' sk' so' sh' sy' ∧ tl' ≤ tc ∧ (∀ post : SX → Prop, post (cm, nI tc, nI n, cp, cf, xo, xi, xs, xh, nI d', nI p', ac', nI tl', 0, 0, 0, cr', fr', g, a, fs, tf, xot, xop, ft', fp', fy', tr') → wpX_executeToken post (cm, nI tc, nI n, cp, cf, xo, xi, xs, xh, nI d, nI p, ac, nI tl, 0, 0, 0, cr, fr, g, a, fs, tf, xot, xop, ft, fp, fy, tr)) ∧ (∀ post : SY → Prop, post (cm, nI tc, nI n, cp, cf, 0, 0, 0, nI tl', cr', fr', nI d', nI p', ac', 1, g, a, tr', yp, sk', so', sh', sy') → wpY_step post (cm, nI tc, nI n, cp, cf, 0, 0, 0, nI tl, cr, fr, nI d, nI p, ac, 1, g, a, tr, yp, sk, so, sh, sy))) ∨ (∃ st' ut' : Int32, ¬ st' = 0 ∧ (st' = 2 ∨ ut' = 0) ∧ (∀ post : SX → Prop, post (cm, nI tc, nI n, cp, cf, xo, xi, xs, xh, nI d, nI p, ac, nI tl, st', ac, ut', cr, fr, g, a, fs, tf, xot, xop, ft, fp, fy, tr) → wpX_executeToken post (cm, nI tc, nI n, cp, cf, xo, xi, xs, xh, nI d, nI p, ac, nI tl, 0, 0, 0, cr, fr, g, a, fs, tf, xot, xop, ft, fp, fy, tr)) ∧ (∀ post : SY → Prop, post (cm, nI tc, nI n, cp, cf, st', 0, ut', nI tl, cr, fr, nI d, nI p, ac, 0, g, a, tr, yp, sk, so, sh, sy) → wpY_step post (cm, nI tc, nI n, cp, cf, 0, 0, 0, nI tl, cr, fr, nI d, nI p, ac, 1, g, a, tr, yp, sk, so, sh, sy)))) := by
  obtain ⟨z1, z2, z3, z4, K0, K1, b2, b3, b4, b5⟩ := rn_b G J
  have eg : g (nI p).toNatClampNeg = 6 := by rw [b3]; exact k
  have ea : a (nI p).toNatClampNeg = a p := by rw [b3]
  exact Or.inl ⟨d, p + 1, tl, ac + a p, cr, fr, ft, fp, fy, tr, sk, so, sh, sy, rn_nx G J (Or.inl k), htl,
    fun post hp => ⟨b2, nm_r ea ⟨b2, nm_r eg (br_f (by decide) (br_f (by decide) (br_f (by decide) (br_f (by decide) (br_f (by decide) (br_t rfl (nm_e (nm_r (nI_1 p) hp))))))))⟩⟩,
    fun post hp => br_f b4 (br_t b5 ⟨b2, nm_r eg ⟨b2, nm_r ea (br_t rfl (nm_e (nm_r (nI_1 p) hp)))⟩⟩)⟩
theorem st_7 (G : ow_G g a n) (hT : ow_T g tf n) (htl : tl ≤ tc) (J : rn_J g a n (M + 1) T P d p ft fp fy sk so sh sy) (htc : tc ≤ 32) (k : g p = 7) : ((∃ (d' p' tl' : Nat) (ac' cr' fr' : Int32) (ft' fp' fy' tr' sk' so' sh' sy' : Nat → Int32), rn_I g a n M d' p' ft' fp' fy' sk' so' sh' sy' ∧ tl' ≤ tc ∧ (∀ post : SX → Prop, post (cm, nI tc, nI n, cp, cf, xo, xi, xs, xh, nI d', nI p', ac', nI tl', 0, 0, 0, cr', fr', g, a, fs, tf, xot, xop, ft', fp', fy', tr') → wpX_executeToken post (cm, nI tc, nI n, cp, cf, xo, xi, xs, xh, nI d, nI p, ac, nI tl, 0, 0, 0, cr, fr, g, a, fs, tf, xot, xop, ft, fp, fy, tr)) ∧ (∀ post : SY → Prop, post (cm, nI tc, nI n, cp, cf, 0, 0, 0, nI tl', cr', fr', nI d', nI p', ac', 1, g, a, tr', yp, sk', so', sh', sy') → wpY_step post (cm, nI tc, nI n, cp, cf, 0, 0, 0, nI tl, cr, fr, nI d, nI p, ac, 1, g, a, tr, yp, sk, so, sh, sy))) ∨ (∃ st' ut' : Int32, ¬ st' = 0 ∧ (st' = 2 ∨ ut' = 0) ∧ (∀ post : SX → Prop, post (cm, nI tc, nI n, cp, cf, xo, xi, xs, xh, nI d, nI p, ac, nI tl, st', ac, ut', cr, fr, g, a, fs, tf, xot, xop, ft, fp, fy, tr) → wpX_executeToken post (cm, nI tc, nI n, cp, cf, xo, xi, xs, xh, nI d, nI p, ac, nI tl, 0, 0, 0, cr, fr, g, a, fs, tf, xot, xop, ft, fp, fy, tr)) ∧ (∀ post : SY → Prop, post (cm, nI tc, nI n, cp, cf, st', 0, ut', nI tl, cr, fr, nI d, nI p, ac, 0, g, a, tr, yp, sk, so, sh, sy) → wpY_step post (cm, nI tc, nI n, cp, cf, 0, 0, 0, nI tl, cr, fr, nI d, nI p, ac, 1, g, a, tr, yp, sk, so, sh, sy)))) := by
  obtain ⟨z1, z2, z3, z4, K0, K1, b2, b3, b4, b5⟩ := rn_b G J
  have eg : g (nI p).toNatClampNeg = 7 := by rw [b3]; exact k
  have ea : a (nI p).toNatClampNeg = a p := by rw [b3]
  rcases Nat.lt_or_ge tl tc with z | z
  · have c1 : ¬ nI tc ≤ nI tl := nI_ge z (by omega)
    have c2 : vp_in (nI tl) 32 := vp_in_nI (by omega) (by omega)
    have c3 : (nI tl).toNatClampNeg = tl := nI_clamp (by omega)
    exact Or.inl ⟨d, p + 1, tl + 1, ac, cr, fr, ft, fp, fy, upd tr tl (a p), sk, so, sh, sy, rn_nx G J (Or.inr (Or.inl k)), z,
      fun post hp => ⟨b2, nm_r ea ⟨b2, nm_r eg (br_f (by decide) (br_f (by decide) (br_f (by decide) (br_f (by decide) (br_f (by decide) (br_f (by decide) (br_t rfl (br_f c1 ⟨c2, nm_r (by rw [c3]) (nm_r (nI_1 tl) (nm_r (nI_1 p) hp))⟩))))))))⟩⟩,
      fun post hp => br_f b4 (br_t b5 ⟨b2, nm_r eg ⟨b2, nm_r ea (br_f (by decide) (br_t rfl (br_f c1 ⟨c2, nm_r (by rw [c3]) (nm_r (nI_1 tl) (nm_r (nI_1 p) hp))⟩)))⟩⟩)⟩
  · have c1 : nI tc ≤ nI tl := nI_le z (by omega)
    exact Or.inl ⟨d, p + 1, tl, ac, cr, fr, ft, fp, fy, tr, sk, so, sh, sy, rn_nx G J (Or.inr (Or.inl k)), htl,
      fun post hp => ⟨b2, nm_r ea ⟨b2, nm_r eg (br_f (by decide) (br_f (by decide) (br_f (by decide) (br_f (by decide) (br_f (by decide) (br_f (by decide) (br_t rfl (br_t c1 (nm_r (nI_1 p) hp)))))))))⟩⟩,
      fun post hp => br_f b4 (br_t b5 ⟨b2, nm_r eg ⟨b2, nm_r ea (br_f (by decide) (br_t rfl (br_t c1 (nm_r (nI_1 p) hp))))⟩⟩)⟩
theorem st_8 (G : ow_G g a n) (hT : ow_T g tf n) (htl : tl ≤ tc) (J : rn_J g a n (M + 1) T P d p ft fp fy sk so sh sy) (k : g p = 8) {ty : Nat} (h1 : 1 ≤ ty) (h15 : ty ≤ 15) (hy : a p = nI ty) : ((∃ (d' p' tl' : Nat) (ac' cr' fr' : Int32) (ft' fp' fy' tr' sk' so' sh' sy' : Nat → Int32), rn_I g a n M d' p' ft' fp' fy' sk' so' sh' sy' ∧ tl' ≤ tc ∧ (∀ post : SX → Prop, post (cm, nI tc, nI n, cp, cf, xo, xi, xs, xh, nI d', nI p', ac', nI tl', 0, 0, 0, cr', fr', g, a, fs, tf, xot, xop, ft', fp', fy', tr') → wpX_executeToken post (cm, nI tc, nI n, cp, cf, xo, xi, xs, xh, nI d, nI p, ac, nI tl, 0, 0, 0, cr, fr, g, a, fs, tf, xot, xop, ft, fp, fy, tr)) ∧ (∀ post : SY → Prop, post (cm, nI tc, nI n, cp, cf, 0, 0, 0, nI tl', cr', fr', nI d', nI p', ac', 1, g, a, tr', yp, sk', so', sh', sy') → wpY_step post (cm, nI tc, nI n, cp, cf, 0, 0, 0, nI tl, cr, fr, nI d, nI p, ac, 1, g, a, tr, yp, sk, so, sh, sy))) ∨ (∃ st' ut' : Int32, ¬ st' = 0 ∧ (st' = 2 ∨ ut' = 0) ∧ (∀ post : SX → Prop, post (cm, nI tc, nI n, cp, cf, xo, xi, xs, xh, nI d, nI p, ac, nI tl, st', ac, ut', cr, fr, g, a, fs, tf, xot, xop, ft, fp, fy, tr) → wpX_executeToken post (cm, nI tc, nI n, cp, cf, xo, xi, xs, xh, nI d, nI p, ac, nI tl, 0, 0, 0, cr, fr, g, a, fs, tf, xot, xop, ft, fp, fy, tr)) ∧ (∀ post : SY → Prop, post (cm, nI tc, nI n, cp, cf, st', 0, ut', nI tl, cr, fr, nI d, nI p, ac, 0, g, a, tr, yp, sk, so, sh, sy) → wpY_step post (cm, nI tc, nI n, cp, cf, 0, 0, 0, nI tl, cr, fr, nI d, nI p, ac, 1, g, a, tr, yp, sk, so, sh, sy)))) := by
  obtain ⟨z1, z2, z3, z4, K0, K1, b2, b3, b4, b5⟩ := rn_b G J
  have eg : g (nI p).toNatClampNeg = 8 := by rw [b3]; exact k
  have ea : a (nI p).toNatClampNeg = nI ty := by rw [b3]; exact hy
  rcases rn_r (cm := cm) (cp := cp) (cf := cf) (xo := xo) (xi := xi) (xs := xs) (xh := xh) (ac := ac) (cr := cr) (fr := fr) (fs := fs) (xot := xot) (xop := xop) (tr := tr) (yp := yp) G hT htl J h1 h15 with ⟨d', p', tl', ac', cr', fr', ft', fp', fy', tr', sk', so', sh', sy', i1, i2, wx, wy⟩ | ⟨st', ut', i1, i2, wx, wy⟩
  · exact Or.inl ⟨d', p', tl', ac', cr', fr', ft', fp', fy', tr', sk', so', sh', sy', i1, i2,
      fun post hp => ⟨b2, nm_r ea ⟨b2, nm_r eg (br_f (by decide) (br_f (by decide) (br_f (by decide) (br_f (by decide) (br_f (by decide) (br_f (by decide) (br_f (by decide) (br_t rfl (wx _ hp)))))))))⟩⟩,
      fun post hp => br_f b4 (br_t b5 ⟨b2, nm_r eg ⟨b2, nm_r ea (br_f (by decide) (br_f (by decide) (br_t rfl (wy _ hp))))⟩⟩)⟩
  · exact Or.inr ⟨st', ut', i1, i2,
      fun post hp => ⟨b2, nm_r ea ⟨b2, nm_r eg (br_f (by decide) (br_f (by decide) (br_f (by decide) (br_f (by decide) (br_f (by decide) (br_f (by decide) (br_f (by decide) (br_t rfl (wx _ hp)))))))))⟩⟩,
      fun post hp => br_f b4 (br_t b5 ⟨b2, nm_r eg ⟨b2, nm_r ea (br_f (by decide) (br_f (by decide) (br_t rfl (wy _ hp))))⟩⟩)⟩
theorem st_9 (G : ow_G g a n) (hT : ow_T g tf n) (htl : tl ≤ tc) (J : rn_J g a n (M + 1) T P d p ft fp fy sk so sh sy) (k : g p = 9) {ty : Nat} (h1 : 1 ≤ ty) (h15 : ty ≤ 15) (hy : a p = nI ty) : ((∃ (d' p' tl' : Nat) (ac' cr' fr' : Int32) (ft' fp' fy' tr' sk' so' sh' sy' : Nat → Int32), rn_I g a n M d' p' ft' fp' fy' sk' so' sh' sy' ∧ tl' ≤ tc ∧ (∀ post : SX → Prop, post (cm, nI tc, nI n, cp, cf, xo, xi, xs, xh, nI d', nI p', ac', nI tl', 0, 0, 0, cr', fr', g, a, fs, tf, xot, xop, ft', fp', fy', tr') → wpX_executeToken post (cm, nI tc, nI n, cp, cf, xo, xi, xs, xh, nI d, nI p, ac, nI tl, 0, 0, 0, cr, fr, g, a, fs, tf, xot, xop, ft, fp, fy, tr)) ∧ (∀ post : SY → Prop, post (cm, nI tc, nI n, cp, cf, 0, 0, 0, nI tl', cr', fr', nI d', nI p', ac', 1, g, a, tr', yp, sk', so', sh', sy') → wpY_step post (cm, nI tc, nI n, cp, cf, 0, 0, 0, nI tl, cr, fr, nI d, nI p, ac, 1, g, a, tr, yp, sk, so, sh, sy))) ∨ (∃ st' ut' : Int32, ¬ st' = 0 ∧ (st' = 2 ∨ ut' = 0) ∧ (∀ post : SX → Prop, post (cm, nI tc, nI n, cp, cf, xo, xi, xs, xh, nI d, nI p, ac, nI tl, st', ac, ut', cr, fr, g, a, fs, tf, xot, xop, ft, fp, fy, tr) → wpX_executeToken post (cm, nI tc, nI n, cp, cf, xo, xi, xs, xh, nI d, nI p, ac, nI tl, 0, 0, 0, cr, fr, g, a, fs, tf, xot, xop, ft, fp, fy, tr)) ∧ (∀ post : SY → Prop, post (cm, nI tc, nI n, cp, cf, st', 0, ut', nI tl, cr, fr, nI d, nI p, ac, 0, g, a, tr, yp, sk, so, sh, sy) → wpY_step post (cm, nI tc, nI n, cp, cf, 0, 0, 0, nI tl, cr, fr, nI d, nI p, ac, 1, g, a, tr, yp, sk, so, sh, sy)))) := by
  obtain ⟨z1, z2, z3, z4, K0, K1, b2, b3, b4, b5⟩ := rn_b G J
  have eg : g (nI p).toNatClampNeg = 9 := by rw [b3]; exact k
  have ea : a (nI p).toNatClampNeg = nI ty := by rw [b3]; exact hy
  by_cases hz : ac = 0
  · exact Or.inl ⟨d, p + 1, tl, ac, cr, fr, ft, fp, fy, tr, sk, so, sh, sy, rn_nx G J (by unfold hp_pl; simp [k]), htl,
      fun post hp => ⟨b2, nm_r ea ⟨b2, nm_r eg (br_f (by decide) (br_f (by decide) (br_f (by decide) (br_f (by decide) (br_f (by decide) (br_f (by decide) (br_f (by decide) (br_f (by decide) (br_t rfl (br_t hz (nm_r (nI_1 p) hp)))))))))))⟩⟩,
      fun post hp => br_f b4 (br_t b5 ⟨b2, nm_r eg ⟨b2, nm_r ea (br_f (by decide) (br_f (by decide) (br_f (by decide) (br_t rfl (br_t hz (nm_r (nI_1 p) hp))))))⟩⟩)⟩
  rcases rn_r (cm := cm) (cp := cp) (cf := cf) (xo := xo) (xi := xi) (xs := xs) (xh := xh) (ac := ac) (cr := cr) (fr := fr) (fs := fs) (xot := xot) (xop := xop) (tr := tr) (yp := yp) G hT htl J h1 h15 with ⟨d', p', tl', ac', cr', fr', ft', fp', fy', tr', sk', so', sh', sy', i1, i2, wx, wy⟩ | ⟨st', ut', i1, i2, wx, wy⟩
  · exact Or.inl ⟨d', p', tl', ac', cr', fr', ft', fp', fy', tr', sk', so', sh', sy', i1, i2,
      fun post hp => ⟨b2, nm_r ea ⟨b2, nm_r eg (br_f (by decide) (br_f (by decide) (br_f (by decide) (br_f (by decide) (br_f (by decide) (br_f (by decide) (br_f (by decide) (br_f (by decide) (br_t rfl (br_f hz (wx _ hp)))))))))))⟩⟩,
      fun post hp => br_f b4 (br_t b5 ⟨b2, nm_r eg ⟨b2, nm_r ea (br_f (by decide) (br_f (by decide) (br_f (by decide) (br_t rfl (br_f hz (wy _ hp))))))⟩⟩)⟩
  · exact Or.inr ⟨st', ut', i1, i2,
      fun post hp => ⟨b2, nm_r ea ⟨b2, nm_r eg (br_f (by decide) (br_f (by decide) (br_f (by decide) (br_f (by decide) (br_f (by decide) (br_f (by decide) (br_f (by decide) (br_f (by decide) (br_t rfl (br_f hz (wx _ hp)))))))))))⟩⟩,
      fun post hp => br_f b4 (br_t b5 ⟨b2, nm_r eg ⟨b2, nm_r ea (br_f (by decide) (br_f (by decide) (br_f (by decide) (br_t rfl (br_f hz (wy _ hp))))))⟩⟩)⟩
theorem st_10 (G : ow_G g a n) (hT : ow_T g tf n) (htl : tl ≤ tc) (J : rn_J g a n (M + 1) T P d p ft fp fy sk so sh sy) (k : g p = 10) (hl : ∃ l, l < hp_oc g p ∧ hp_pt g p l = 2) : ((∃ (d' p' tl' : Nat) (ac' cr' fr' : Int32) (ft' fp' fy' tr' sk' so' sh' sy' : Nat → Int32), rn_I g a n M d' p' ft' fp' fy' sk' so' sh' sy' ∧ tl' ≤ tc ∧ (∀ post : SX → Prop, post (cm, nI tc, nI n, cp, cf, xo, xi, xs, xh, nI d', nI p', ac', nI tl', 0, 0, 0, cr', fr', g, a, fs, tf, xot, xop, ft', fp', fy', tr') → wpX_executeToken post (cm, nI tc, nI n, cp, cf, xo, xi, xs, xh, nI d, nI p, ac, nI tl, 0, 0, 0, cr, fr, g, a, fs, tf, xot, xop, ft, fp, fy, tr)) ∧ (∀ post : SY → Prop, post (cm, nI tc, nI n, cp, cf, 0, 0, 0, nI tl', cr', fr', nI d', nI p', ac', 1, g, a, tr', yp, sk', so', sh', sy') → wpY_step post (cm, nI tc, nI n, cp, cf, 0, 0, 0, nI tl, cr, fr, nI d, nI p, ac, 1, g, a, tr, yp, sk, so, sh, sy))) ∨ (∃ st' ut' : Int32, ¬ st' = 0 ∧ (st' = 2 ∨ ut' = 0) ∧ (∀ post : SX → Prop, post (cm, nI tc, nI n, cp, cf, xo, xi, xs, xh, nI d, nI p, ac, nI tl, st', ac, ut', cr, fr, g, a, fs, tf, xot, xop, ft, fp, fy, tr) → wpX_executeToken post (cm, nI tc, nI n, cp, cf, xo, xi, xs, xh, nI d, nI p, ac, nI tl, 0, 0, 0, cr, fr, g, a, fs, tf, xot, xop, ft, fp, fy, tr)) ∧ (∀ post : SY → Prop, post (cm, nI tc, nI n, cp, cf, st', 0, ut', nI tl, cr, fr, nI d, nI p, ac, 0, g, a, tr, yp, sk, so, sh, sy) → wpY_step post (cm, nI tc, nI n, cp, cf, 0, 0, 0, nI tl, cr, fr, nI d, nI p, ac, 1, g, a, tr, yp, sk, so, sh, sy)))) := by
  obtain ⟨z1, z2, z3, z4, K0, K1, b2, b3, b4, b5⟩ := rn_b G J
  have eg : g (nI p).toNatClampNeg = 10 := by rw [b3]; exact k
  have ea : a (nI p).toNatClampNeg = a p := by rw [b3]
  have J0 := J
  obtain ⟨R, hX, hY, E, hM⟩ := J0
  obtain ⟨ty, h1, h15, xw, yw⟩ := xy_i (cm := cm) (ct := nI tc) (cp := cp) (cf := cf) (xo := xo) (xi := xi) (xs := xs) (xh := xh) (dd := nI d) (pp := nI p) (ac := ac) (tl := nI tl) (st := 0) (rs := 0) (ut := 0) (cr := cr) (fr := fr) (yr := 1) (fs := fs) (tf := tf) (xot := xot) (xop := xop) (tr := tr) (yp := yp) G R (by omega) hX hY d (Nat.le_refl _) (by rw [rt_xg (Nat.le_refl _)]; exact hl)
  have xw' : ∀ post : Int32 → Prop, post (nI ty) → wpX_innermostCaughtType post (cm, nI tc, nI n, cp, cf, xo, xi, xs, xh, nI d, nI p, ac, nI tl, 0, 0, 0, cr, fr, g, a, fs, tf, xot, xop, ft, fp, fy, tr) := fun post hp => nm_r (rt_m1 d) ⟨d + 1, xw (d + 1) post (by omega) hp⟩
  have yw' : ∀ post : Int32 → Prop, post (nI ty) → wpY_innermostCaught post (cm, nI tc, nI n, cp, cf, 0, 0, 0, nI tl, cr, fr, nI d, nI p, ac, 1, g, a, tr, yp, sk, so, sh, sy) := fun post hp => nm_r (rt_m1 d) ⟨d + 1, yw (d + 1) post (by omega) hp⟩
  rcases rn_r (cm := cm) (cp := cp) (cf := cf) (xo := xo) (xi := xi) (xs := xs) (xh := xh) (ac := ac) (cr := cr) (fr := fr) (fs := fs) (xot := xot) (xop := xop) (tr := tr) (yp := yp) G hT htl J h1 h15 with ⟨d', p', tl', ac', cr', fr', ft', fp', fy', tr', sk', so', sh', sy', i1, i2, wx, wy⟩ | ⟨st', ut', i1, i2, wx, wy⟩
  · exact Or.inl ⟨d', p', tl', ac', cr', fr', ft', fp', fy', tr', sk', so', sh', sy', i1, i2,
      fun post hp => ⟨b2, nm_r ea ⟨b2, nm_r eg (br_f (by decide) (br_f (by decide) (br_f (by decide) (br_f (by decide) (br_f (by decide) (br_f (by decide) (br_f (by decide) (br_f (by decide) (br_f (by decide) (br_t rfl (xw' _ (wx _ hp))))))))))))⟩⟩,
      fun post hp => br_f b4 (br_t b5 ⟨b2, nm_r eg ⟨b2, nm_r ea (br_f (by decide) (br_f (by decide) (br_f (by decide) (br_f (by decide) (br_t rfl (yw' _ (wy _ hp)))))))⟩⟩)⟩
  · exact Or.inr ⟨st', ut', i1, i2,
      fun post hp => ⟨b2, nm_r ea ⟨b2, nm_r eg (br_f (by decide) (br_f (by decide) (br_f (by decide) (br_f (by decide) (br_f (by decide) (br_f (by decide) (br_f (by decide) (br_f (by decide) (br_f (by decide) (br_t rfl (xw' _ (wx _ hp))))))))))))⟩⟩,
      fun post hp => br_f b4 (br_t b5 ⟨b2, nm_r eg ⟨b2, nm_r ea (br_f (by decide) (br_f (by decide) (br_f (by decide) (br_f (by decide) (br_t rfl (yw' _ (wy _ hp)))))))⟩⟩)⟩
theorem st_3 (G : ow_G g a n) (hT : ow_T g tf n) (htl : tl ≤ tc) (J : rn_J g a n (M + 1) T P d p ft fp fy sk so sh sy) (k : g p = 3) : ((∃ (d' p' tl' : Nat) (ac' cr' fr' : Int32) (ft' fp' fy' tr' sk' so' sh' sy' : Nat → Int32), rn_I g a n M d' p' ft' fp' fy' sk' so' sh' sy' ∧ tl' ≤ tc ∧ (∀ post : SX → Prop, post (cm, nI tc, nI n, cp, cf, xo, xi, xs, xh, nI d', nI p', ac', nI tl', 0, 0, 0, cr', fr', g, a, fs, tf, xot, xop, ft', fp', fy', tr') → wpX_executeToken post (cm, nI tc, nI n, cp, cf, xo, xi, xs, xh, nI d, nI p, ac, nI tl, 0, 0, 0, cr, fr, g, a, fs, tf, xot, xop, ft, fp, fy, tr)) ∧ (∀ post : SY → Prop, post (cm, nI tc, nI n, cp, cf, 0, 0, 0, nI tl', cr', fr', nI d', nI p', ac', 1, g, a, tr', yp, sk', so', sh', sy') → wpY_step post (cm, nI tc, nI n, cp, cf, 0, 0, 0, nI tl, cr, fr, nI d, nI p, ac, 1, g, a, tr, yp, sk, so, sh, sy))) ∨ (∃ st' ut' : Int32, ¬ st' = 0 ∧ (st' = 2 ∨ ut' = 0) ∧ (∀ post : SX → Prop, post (cm, nI tc, nI n, cp, cf, xo, xi, xs, xh, nI d, nI p, ac, nI tl, st', ac, ut', cr, fr, g, a, fs, tf, xot, xop, ft, fp, fy, tr) → wpX_executeToken post (cm, nI tc, nI n, cp, cf, xo, xi, xs, xh, nI d, nI p, ac, nI tl, 0, 0, 0, cr, fr, g, a, fs, tf, xot, xop, ft, fp, fy, tr)) ∧ (∀ post : SY → Prop, post (cm, nI tc, nI n, cp, cf, st', 0, ut', nI tl, cr, fr, nI d, nI p, ac, 0, g, a, tr, yp, sk, so, sh, sy) → wpY_step post (cm, nI tc, nI n, cp, cf, 0, 0, 0, nI tl, cr, fr, nI d, nI p, ac, 1, g, a, tr, yp, sk, so, sh, sy)))) := by
  obtain ⟨z1, z2, z3, z4, K0, K1, b2, b3, b4, b5⟩ := rn_b G J
  have eg : g (nI p).toNatClampNeg = 3 := by rw [b3]; exact k
  have ea : a (nI p).toNatClampNeg = a p := by rw [b3]
  obtain ⟨e1, e2, e3, e4, e5⟩ := hp_s3 k
  have I' : rn_I g a n M (d + 1) (p + 1) (upd ft d (nI p)) (upd fp d 1) fy (upd sk d 1) (upd so d (nI p)) (upd sh d 0) (upd sy d 0) := by
    refine rn_psh (pr := 1) G J (by omega) (by rw [e5]; exact z4) (Or.inl ⟨by omega, ?_, ?_⟩) (Or.inr ⟨rfl, rfl, rfl⟩) ?_
    · rw [e1, e2]; exact hp_uS.symm
    · rw [e1, e3]; exact hp_uS.symm
    · have := rt_Rl (g := g) e4 (show p < p + 1 by omega) (by omega)
      simp only [Nat.one_ne_zero, if_false]
      omega
  exact Or.inl ⟨d + 1, p + 1, tl, ac, cr, fr, upd ft d (nI p), upd fp d 1, fy, tr, upd sk d 1, upd so d (nI p), upd sh d 0, upd sy d 0, I', htl,
    fun post hp => ⟨b2, nm_r ea ⟨b2, nm_r eg (br_f (by decide) (br_f (by decide) (br_t rfl (xp_w (by omega) _ (nm_r (nI_1 p) hp)))))⟩⟩,
    fun post hp => br_f b4 (br_t b5 ⟨b2, nm_r eg ⟨b2, nm_r ea (br_f (by decide) (br_f (by decide) (br_f (by decide) (br_f (by decide) (br_f (by decide) (br_f (by decide) (br_t rfl (yp_w (by omega) _ (br_f (by decide) (nm_r (nI_1 p) hp))))))))))⟩⟩)⟩
theorem st_11 (G : ow_G g a n) (hT : ow_T g tf n) (htl : tl ≤ tc) (J : rn_J g a n (M + 1) T P d p ft fp fy sk so sh sy) (hfs : ∀ q, q < n → g q = 1 → fs (hp_fn g q) = nI q) (hcf : cf = nI (hp_fn g n)) (k : g p = 11) : ((∃ (d' p' tl' : Nat) (ac' cr' fr' : Int32) (ft' fp' fy' tr' sk' so' sh' sy' : Nat → Int32), rn_I g a n M d' p' ft' fp' fy' sk' so' sh' sy' ∧ tl' ≤ tc ∧ (∀ post : SX → Prop, post (cm, nI tc, nI n, cp, cf, xo, xi, xs, xh, nI d', nI p', ac', nI tl', 0, 0, 0, cr', fr', g, a, fs, tf, xot, xop, ft', fp', fy', tr') → wpX_executeToken post (cm, nI tc, nI n, cp, cf, xo, xi, xs, xh, nI d, nI p, ac, nI tl, 0, 0, 0, cr, fr, g, a, fs, tf, xot, xop, ft, fp, fy, tr)) ∧ (∀ post : SY → Prop, post (cm, nI tc, nI n, cp, cf, 0, 0, 0, nI tl', cr', fr', nI d', nI p', ac', 1, g, a, tr', yp, sk', so', sh', sy') → wpY_step post (cm, nI tc, nI n, cp, cf, 0, 0, 0, nI tl, cr, fr, nI d, nI p, ac, 1, g, a, tr, yp, sk, so, sh, sy))) ∨ (∃ st' ut' : Int32, ¬ st' = 0 ∧ (st' = 2 ∨ ut' = 0) ∧ (∀ post : SX → Prop, post (cm, nI tc, nI n, cp, cf, xo, xi, xs, xh, nI d, nI p, ac, nI tl, st', ac, ut', cr, fr, g, a, fs, tf, xot, xop, ft, fp, fy, tr) → wpX_executeToken post (cm, nI tc, nI n, cp, cf, xo, xi, xs, xh, nI d, nI p, ac, nI tl, 0, 0, 0, cr, fr, g, a, fs, tf, xot, xop, ft, fp, fy, tr)) ∧ (∀ post : SY → Prop, post (cm, nI tc, nI n, cp, cf, st', 0, ut', nI tl, cr, fr, nI d, nI p, ac, 0, g, a, tr, yp, sk, so, sh, sy) → wpY_step post (cm, nI tc, nI n, cp, cf, 0, 0, 0, nI tl, cr, fr, nI d, nI p, ac, 1, g, a, tr, yp, sk, so, sh, sy)))) := by
  obtain ⟨z1, z2, z3, z4, K0, K1, b2, b3, b4, b5⟩ := rn_b G J
  have eg : g (nI p).toNatClampNeg = 11 := by rw [b3]; exact k
  obtain ⟨f, f1, f2, f3⟩ := G.2.2.2.2 p z1 k
  have ea : a (nI p).toNatClampNeg = nI f := by rw [b3]; exact f3
  obtain ⟨s, s1, s2, s3⟩ := hp_fnE n f2
  obtain ⟨e1, e2, e3, e4, e5⟩ := hp_s1 s2
  obtain ⟨n1, n2, n3, n4, n5⟩ := hp_s6 (g := g) (i := p) (by unfold hp_pl; simp [k])
  have fn4 := (hp_H n G.2.1).2.1
  have s0 : hp_oc g s = 0 := by
    rcases hp_tc (G.2.1 s s1) with ⟨i1, i2, i3⟩ | ⟨i0, i1, i2⟩ | ⟨i0, i1, i2, i3⟩ | ⟨i0, i1⟩ | ⟨i0, i1, i2, i3⟩ | ⟨i0, i1, i2, i3⟩ | ⟨i0, i1⟩
    · exact (hp_H s (ow_Kl G.2.1 (by omega))).1 i1
    all_goals first | (rw [s2] at i1; exact absurd i1 (by decide)) | (rw [s2] at i1; exact absurd i1 (by unfold hp_pl; decide))
  have hs := hp_H (s + 1) (ow_Kl G.2.1 (show s + 1 ≤ n by omega))
  have p0 : 0 < p := by
    rcases Nat.eq_zero_or_pos p with z | z
    · rw [z] at z4; simp [hp_in] at z4
    · exact z
  have I' : rn_I g a n M (d + 1) (s + 1) (upd ft d (nI p)) (upd fp d 0) fy (upd sk d 0) (upd so d (nI (p + 1))) (upd sh d 0) (upd sy d 0) := by
    refine rn_psh (pr := 0) G J (by omega) e5 (Or.inr ⟨by omega, rfl, k, by omega⟩) (Or.inl ⟨rfl, rfl, rfl⟩) ?_
    rw [if_pos rfl]
    exact rt_Rc (by omega) n4 ((hp_H p K0).2.2.2.1 p0) (by omega) hs.2.1 (by have := hs.2.2.1; omega)
  have cf1 : ¬ cf ≤ nI f := by rw [hcf]; exact nI_ge f2 (by omega)
  have fc : (nI f).toNatClampNeg = f := nI_clamp (by omega)
  have f5 : fs (nI f).toNatClampNeg + 1 = nI (s + 1) := by
    rw [fc, ← s3, hfs s s1 s2, nI_1]
  exact Or.inl ⟨d + 1, s + 1, tl, ac, cr, fr, upd ft d (nI p), upd fp d 0, fy, tr, upd sk d 0, upd so d (nI (p + 1)), upd sh d 0, upd sy d 0, I', htl,
    fun post hp => ⟨b2, nm_r ea ⟨b2, nm_r eg (br_f (by decide) (br_f (by decide) (br_f (by decide) (br_f (by decide) (br_f (by decide) (br_f (by decide) (br_f (by decide) (br_f (by decide) (br_f (by decide) (br_f (by decide) (br_t rfl (br_f (nI_pos (by omega)) (br_f cf1 (xp_w (by omega) _ ⟨vp_in_nI (by omega) (by omega), nm_r f5 hp⟩))))))))))))))⟩⟩,
    fun post hp => br_f b4 (br_t b5 ⟨b2, nm_r eg ⟨b2, nm_r ea (br_f (by decide) (br_f (by decide) (br_f (by decide) (br_f (by decide) (br_f (by decide) (br_t rfl (by
      rw [nI_1 p]
      exact yp_w (by omega) _ (br_f (by decide) (yf_w z2 s1 s2 s3 _ hp)))))))))⟩⟩)⟩
end HK
end
section
section HE
variable {g a fs tf xot xop ft fp fy tr yp sk so sh sy : Nat → Int32} {n d p tl tc M : Nat} {T P : Nat → Nat} {cm cp cf xo xi xs xh ac cr fr : Int32}
/-! O: the ends of bodies -/
theorem ow_end (G : ow_G g a n) {t : Nat} : ∀ m q, q + m = n → ow_P g t q → ∃ x, q ≤ x ∧ x < n ∧ ow_O g t x ∧ g x = 2 := by
  intro m
  induction m with
  | zero =>
    intro q hq h
    have := ow_Gn G h (by omega)
    omega
  | succ m ih =>
    intro q hq h
    by_cases e : g q = 2 ∧ hp_oc g q = hp_oc g t + 1
    · exact ⟨q, Nat.le_refl _, by omega, ow_Ot h e.2 (Or.inl e.1), e.1⟩
    · obtain ⟨x, x1, x2⟩ := ih (q + 1) (by omega) (ow_4 (ow_Kl G.2.1 (by omega)) h e)
      exact ⟨x, by omega, x2⟩
/-- the END of t is the only one -/
theorem ow_e1 (G : ow_G g a n) {t x : Nat} (hx : x < n) (hO : ow_O g t x) (h2 : g x = 2) : ow_L n (fun x => ow_O g t x ∧ g x = 2) (nI x) :=
  Or.inl ⟨x, hx, rfl, ⟨hO, h2⟩, fun y hy h => (ow_8 (ow_Kl G.2.1 (by omega)) h.1 hO hy).1 h.2⟩
/-- the top frame at a place inside a TRY -/
theorem rn_top (G : ow_G g a n) (J : rn_J g a n (M + 1) T P d p ft fp fy sk so sh sy) (h : 0 < hp_oc g p) : ∃ d', d = d' + 1 ∧ P d' ≠ 0 ∧ T d' = hp_ot g p (hp_oc g p - 1) ∧ P d' = hp_pt g p (hp_oc g p - 1) ∧ ow_P g (T d') p ∧ hp_oc g (T d') = hp_oc g p - 1 ∧ g (T d') = 3 := by
  obtain ⟨R, -⟩ := J
  rcases Nat.eq_zero_or_pos d with z | z
  · subst z
    have := R.2.2.1
    rw [rt_xg (Nat.le_refl _)] at this
    omega
  · obtain ⟨d', rfl⟩ : ∃ d', d = d' + 1 := ⟨d - 1, by omega⟩
    have hk := (R.2.2.2 d' (by omega)).2.2
    have Kp := ow_Kl G.2.1 (show p ≤ n from Nat.le_of_lt R.1)
    rw [rt_xg (Nat.le_refl _)] at hk
    have hP : P d' ≠ 0 := by
      rcases hk with ⟨k1, k2, k3⟩ | ⟨k1, -⟩
      · have p1 := ((hp_H _ Kp).2.2.2.2 (hp_oc g p - 1) (by omega)).2.2.2.2.2.1
        omega
      · omega
    obtain ⟨r1, r2, r3, r4, r5, r6⟩ := rt_try G R (show d' < d' + 1 by omega) hP
    rw [rt_xg (Nat.le_refl _)] at r1 r2 r3 r4 r5
    exact ⟨d', rfl, hP, r2, r3, r4, r5, r6⟩
/-- the TRY is left behind its END x -/
theorem rn_out (G : ow_G g a n) (J : rn_J g a n (M + 1) T P (d + 1) p ft fp fy sk so sh sy) (hP : P d ≠ 0) {x : Nat} (hx : x < n) (hpx : p ≤ x) (hO : ow_O g (T d) x) (h2 : g x = 2) (hf : hp_fn g (T d) = hp_fn g p) : rn_I g a n M d (x + 1) ft fp fy sk so sh sy := by
  have hn := G.1
  obtain ⟨w1, -⟩ := ow_6 (ow_Kl G.2.1 (show x + 1 ≤ n by omega)) hO
  obtain ⟨v1, v2, v3, v4⟩ := w1 h2
  have ex : rt_x T (d + 1) p d = T d := rt_xl (by omega)
  refine rn_cut G J (by omega) (by omega) v2 (by rw [ex]; exact v1) (by rw [ex]; exact v3) (by rw [ex]; exact v4) ?_
  have := rt_Rl (g := g) (q := p) (q' := x + 1) (by rw [v3, hf]) (by omega) (by omega)
  simp only [rt_s, if_neg hP]
  omega
theorem st_45 (G : ow_G g a n) (hT : ow_T g tf n) (htl : tl ≤ tc) (J : rn_J g a n (M + 1) T P d p ft fp fy sk so sh sy) (k : g p = 4 ∨ g p = 5) (hoc : 0 < hp_oc g p) (h3 : hp_pt g p (hp_oc g p - 1) ≠ 3) : ((∃ (d' p' tl' : Nat) (ac' cr' fr' : Int32) (ft' fp' fy' tr' sk' so' sh' sy' : Nat → Int32), rn_I g a n M d' p' ft' fp' fy' sk' so' sh' sy' ∧ tl' ≤ tc ∧ (∀ post : SX → Prop, post (cm, nI tc, nI n, cp, cf, xo, xi, xs, xh, nI d', nI p', ac', nI tl', 0, 0, 0, cr', fr', g, a, fs, tf, xot, xop, ft', fp', fy', tr') → wpX_executeToken post (cm, nI tc, nI n, cp, cf, xo, xi, xs, xh, nI d, nI p, ac, nI tl, 0, 0, 0, cr, fr, g, a, fs, tf, xot, xop, ft, fp, fy, tr)) ∧ (∀ post : SY → Prop, post (cm, nI tc, nI n, cp, cf, 0, 0, 0, nI tl', cr', fr', nI d', nI p', ac', 1, g, a, tr', yp, sk', so', sh', sy') → wpY_step post (cm, nI tc, nI n, cp, cf, 0, 0, 0, nI tl, cr, fr, nI d, nI p, ac, 1, g, a, tr, yp, sk, so, sh, sy))) ∨ (∃ st' ut' : Int32, ¬ st' = 0 ∧ (st' = 2 ∨ ut' = 0) ∧ (∀ post : SX → Prop, post (cm, nI tc, nI n, cp, cf, xo, xi, xs, xh, nI d, nI p, ac, nI tl, st', ac, ut', cr, fr, g, a, fs, tf, xot, xop, ft, fp, fy, tr) → wpX_executeToken post (cm, nI tc, nI n, cp, cf, xo, xi, xs, xh, nI d, nI p, ac, nI tl, 0, 0, 0, cr, fr, g, a, fs, tf, xot, xop, ft, fp, fy, tr)) ∧ (∀ post : SY → Prop, post (cm, nI tc, nI n, cp, cf, st', 0, ut', nI tl, cr, fr, nI d, nI p, ac, 0, g, a, tr, yp, sk, so, sh, sy) → wpY_step post (cm, nI tc, nI n, cp, cf, 0, 0, 0, nI tl, cr, fr, nI d, nI p, ac, 1, g, a, tr, yp, sk, so, sh, sy)))) := by
  obtain ⟨z1, z2, z3, z4, K0, K1, b2, b3, b4, b5⟩ := rn_b G J
  obtain ⟨d, rfl, hP, r2, r3, r4, r5, r6⟩ := rn_top G J hoc
  have J0 := J
  obtain ⟨R, hX, hY, E, hM⟩ := J0
  have hdd : d < d + 1 := by omega
  have hTn := (R.2.2.2 d hdd).1
  have hOp : ow_O g (T d) p := ⟨Or.inr k, hoc, r2.symm⟩
  obtain ⟨u1, u2, u3, u4, u5, u6, -⟩ := ow_2 K0 r4
  have hpt : hp_pt g p (hp_oc g (T d)) = P d := by rw [r5, r3]
  have P12 : P d = 1 ∨ P d = 2 := by rw [← r3] at h3; omega
  have f0 : ¬ fp d = 0 := fun h => hP ((rt_fp hX hdd (k := 0) (by omega)).mp h)
  have f3 : ¬ fp d = 3 := fun h => by have := (rt_fp hX hdd (k := 3) (by omega)).mp h; omega
  have ea : a (nI p).toNatClampNeg = a p := by rw [b3]
  rcases hY d hdd with ⟨p0, -⟩ | ⟨p1, p3, k1, s1, s2, -⟩
  · exact absurd p0 hP
  have fin : ∀ (d' p' : Nat) (fr' : Int32) (fp' fy' sh' sy' : Nat → Int32), rn_I g a n M d' p' ft fp' fy' sk so sh' sy' → (∀ post : SX → Prop, post (cm, nI tc, nI n, cp, cf, xo, xi, xs, xh, nI d', nI p', ac, nI tl, 0, 0, 0, cr, fr', g, a, fs, tf, xot, xop, ft, fp', fy', tr) → wpX_finishBody post (cm, nI tc, nI n, cp, cf, xo, xi, xs, xh, nI (d + 1), nI p, ac, nI tl, 0, 0, 0, cr, fr, g, a, fs, tf, xot, xop, ft, fp, fy, tr)) → (∀ post : SY → Prop, post (cm, nI tc, nI n, cp, cf, 0, 0, 0, nI tl, cr, fr', nI d', nI p', ac, 1, g, a, tr, yp, sk, so, sh', sy') → wpY_completeBody post (cm, nI tc, nI n, cp, cf, 0, 0, 0, nI tl, cr, fr, nI (d + 1), nI p, ac, 1, g, a, tr, yp, sk, so, sh, sy)) → (∃ (d' p' tl' : Nat) (ac' cr' fr' : Int32) (ft' fp' fy' tr' sk' so' sh' sy' : Nat → Int32), rn_I g a n M d' p' ft' fp' fy' sk' so' sh' sy' ∧ tl' ≤ tc ∧ (∀ post : SX → Prop, post (cm, nI tc, nI n, cp, cf, xo, xi, xs, xh, nI d', nI p', ac', nI tl', 0, 0, 0, cr', fr', g, a, fs, tf, xot, xop, ft', fp', fy', tr') → wpX_executeToken post (cm, nI tc, nI n, cp, cf, xo, xi, xs, xh, nI (d + 1), nI p, ac, nI tl, 0, 0, 0, cr, fr, g, a, fs, tf, xot, xop, ft, fp, fy, tr)) ∧ (∀ post : SY → Prop, post (cm, nI tc, nI n, cp, cf, 0, 0, 0, nI tl', cr', fr', nI d', nI p', ac', 1, g, a, tr', yp, sk', so', sh', sy') → wpY_step post (cm, nI tc, nI n, cp, cf, 0, 0, 0, nI tl, cr, fr, nI (d + 1), nI p, ac, 1, g, a, tr, yp, sk, so, sh, sy))) := fun d' p' fr' fp' fy' sh' sy' I' wx wy => by
    rcases k with k | k
    · have eg : g (nI p).toNatClampNeg = 4 := by rw [b3]; exact k
      exact ⟨d', p', tl, ac, cr, fr', ft, fp', fy', tr, sk, so, sh', sy', I', htl,
        fun post hp => ⟨b2, nm_r ea ⟨b2, nm_r eg (br_f (by decide) (br_f (by decide) (br_f (by decide) (br_t rfl (wx _ hp)))))⟩⟩,
        fun post hp => br_f b4 (br_t b5 ⟨b2, nm_r eg ⟨b2, nm_r ea (br_f (by decide) (br_f (by decide) (br_f (by decide) (br_f (by decide) (br_f (by decide) (br_f (by decide) (br_f (by decide) (br_t rfl (wy _ hp)))))))))⟩⟩)⟩
    · have eg : g (nI p).toNatClampNeg = 5 := by rw [b3]; exact k
      exact ⟨d', p', tl, ac, cr, fr', ft, fp', fy', tr, sk, so, sh', sy', I', htl,
        fun post hp => ⟨b2, nm_r ea ⟨b2, nm_r eg (br_f (by decide) (br_f (by decide) (br_f (by decide) (br_f (by decide) (br_t rfl (wx _ hp))))))⟩⟩,
        fun post hp => br_f b4 (br_t b5 ⟨b2, nm_r eg ⟨b2, nm_r ea (br_f (by decide) (br_f (by decide) (br_f (by decide) (br_f (by decide) (br_f (by decide) (br_f (by decide) (br_f (by decide) (br_f (by decide) (br_t rfl (wy _ hp))))))))))⟩⟩)⟩
  by_cases hf : ∃ x, x < n ∧ (ow_O g (T d) x ∧ g x = 5)
  · obtain ⟨x, x1, x2, x3⟩ := ow_Lx hf
    exact Or.inl (fin (d + 1) (x + 1) (fr + 1) (upd fp d 3) (upd fy d 0) (upd sh d 2) (upd sy d 0) (rn_set (k := 3) (ty := 0) G J hdd x1 x2.1 (Or.inr ⟨rfl, x2.2, P12⟩) (by omega) (fun _ h => by omega))
      (fun post hp => xb_f z2 hT (by omega) x1 (by omega) (hX d hdd).1 f0 f3 x3 post hp) (fun post hp => yb_f G r6 hTn x1 (by omega) k1 s1 x3 post hp))
  · obtain ⟨x, x1, x2, x3, x4⟩ := ow_end G (n - p) p (by omega) r4
    have hl5 : ow_L n (fun x => ow_O g (T d) x ∧ g x = 5) (-1) := Or.inr ⟨rfl, fun y hy h => hf ⟨y, hy, h⟩⟩
    have hl2 := ow_e1 G x2 x3 x4
    exact Or.inl (fin d (x + 1) fr fp fy sh sy (rn_out G J hP x2 x1 x3 x4 u3)
      (fun post hp => xb_e z2 hT (by omega) (by omega) (hX d hdd).1 f0 (Or.inr ⟨f3, hl5⟩) (fun h => absurd h f3) hl2 post hp) (fun post hp => yb_e G r6 hTn x2 (by omega) k1 s1 hl5 hl2 post hp))
theorem st_2a (G : ow_G g a n) (hT : ow_T g tf n) (htl : tl ≤ tc) (J : rn_J g a n (M + 1) T P d p ft fp fy sk so sh sy) (k : g p = 2) (hoc : hp_oc g p = 0) : ((∃ (d' p' tl' : Nat) (ac' cr' fr' : Int32) (ft' fp' fy' tr' sk' so' sh' sy' : Nat → Int32), rn_I g a n M d' p' ft' fp' fy' sk' so' sh' sy' ∧ tl' ≤ tc ∧ (∀ post : SX → Prop, post (cm, nI tc, nI n, cp, cf, xo, xi, xs, xh, nI d', nI p', ac', nI tl', 0, 0, 0, cr', fr', g, a, fs, tf, xot, xop, ft', fp', fy', tr') → wpX_executeToken post (cm, nI tc, nI n, cp, cf, xo, xi, xs, xh, nI d, nI p, ac, nI tl, 0, 0, 0, cr, fr, g, a, fs, tf, xot, xop, ft, fp, fy, tr)) ∧ (∀ post : SY → Prop, post (cm, nI tc, nI n, cp, cf, 0, 0, 0, nI tl', cr', fr', nI d', nI p', ac', 1, g, a, tr', yp, sk', so', sh', sy') → wpY_step post (cm, nI tc, nI n, cp, cf, 0, 0, 0, nI tl, cr, fr, nI d, nI p, ac, 1, g, a, tr, yp, sk, so, sh, sy))) ∨ (∃ st' ut' : Int32, ¬ st' = 0 ∧ (st' = 2 ∨ ut' = 0) ∧ (∀ post : SX → Prop, post (cm, nI tc, nI n, cp, cf, xo, xi, xs, xh, nI d, nI p, ac, nI tl, st', ac, ut', cr, fr, g, a, fs, tf, xot, xop, ft, fp, fy, tr) → wpX_executeToken post (cm, nI tc, nI n, cp, cf, xo, xi, xs, xh, nI d, nI p, ac, nI tl, 0, 0, 0, cr, fr, g, a, fs, tf, xot, xop, ft, fp, fy, tr)) ∧ (∀ post : SY → Prop, post (cm, nI tc, nI n, cp, cf, st', 0, ut', nI tl, cr, fr, nI d, nI p, ac, 0, g, a, tr, yp, sk, so, sh, sy) → wpY_step post (cm, nI tc, nI n, cp, cf, 0, 0, 0, nI tl, cr, fr, nI d, nI p, ac, 1, g, a, tr, yp, sk, so, sh, sy)))) := by
  obtain ⟨z1, z2, z3, z4, K0, K1, b2, b3, b4, b5⟩ := rn_b G J
  have J0 := J
  obtain ⟨R, hX, hY, E, hM⟩ := J0
  have eg : g (nI p).toNatClampNeg = 2 := by rw [b3]; exact k
  have ea : a (nI p).toNatClampNeg = a p := by rw [b3]
  rcases Nat.eq_zero_or_pos d with z | z
  · subst z
    exact Or.inr ⟨1, 0, by decide, Or.inr rfl,
      fun post hp => ⟨b2, nm_r ea ⟨b2, nm_r eg (br_t (by decide) (br_t rfl hp))⟩⟩,
      fun post hp => br_f b4 (br_t b5 ⟨b2, nm_r eg ⟨b2, nm_r ea (br_f (by decide) (br_f (by decide) (br_f (by decide) (br_f (by decide) (br_f (by decide) (br_f (by decide) (br_f (by decide) (br_f (by decide) (br_f (by decide) (br_t rfl (br_t rfl hp)))))))))))⟩⟩)⟩
  · obtain ⟨d, rfl⟩ : ∃ d', d = d' + 1 := ⟨d - 1, by omega⟩
    have hdd : d < d + 1 := by omega
    obtain ⟨t1, t2, t3⟩ := R.2.2.2 d hdd
    rw [rt_xg (Nat.le_refl _)] at t3
    rcases t3 with ⟨k1, -⟩ | ⟨-, k2, k3, k4⟩
    · omega
    obtain ⟨n1, n2, n3, n4, n5⟩ := hp_s6 (g := g) (i := T d) (by unfold hp_pl; simp [k3])
    have ex : rt_x T (d + 1) p d = T d := rt_xl (by omega)
    have I' : rn_I g a n M d (T d + 1) ft fp fy sk so sh sy := by
      refine rn_cut G J (by omega) (by omega) (by rw [n5]; exact t2) (by rw [ex]; exact n1) (by rw [ex]; exact n4) (by rw [ex, n2, n3]; exact fun m _ => ⟨rfl, rfl⟩) ?_
      have : 1 ≤ rt_R g p := by
        have h1 := rt_w1 (hp_fn g p)
        have := Nat.mul_le_mul (show 1 ≤ 32 - p by omega) h1
        unfold rt_R; omega
      simp only [rt_s, if_pos k2]
      omega
    have f0 : fp d = 0 := (rt_fp hX hdd (k := 0) (by omega)).mpr k2
    rcases hY d hdd with ⟨p0, q1, q2⟩ | ⟨p1, -⟩
    · exact Or.inl ⟨d, T d + 1, tl, ac, cr, fr, ft, fp, fy, tr, sk, so, sh, sy, I', htl,
        fun post hp => ⟨b2, nm_r ea ⟨b2, nm_r eg (br_t (by decide) (xb_c z2 hT (by omega) (by omega) (hX d hdd).1 f0 _ hp))⟩⟩,
        fun post hp => br_f b4 (br_t b5 ⟨b2, nm_r eg ⟨b2, nm_r ea (br_f (by decide) (br_f (by decide) (br_f (by decide) (br_f (by decide) (br_f (by decide) (br_f (by decide) (br_f (by decide) (br_f (by decide) (br_f (by decide) (br_t rfl (ye_c (by omega) q1 q2 _ hp)))))))))))⟩⟩)⟩
    · omega
theorem st_2b (G : ow_G g a n) (hT : ow_T g tf n) (htl : tl ≤ tc) (J : rn_J g a n (M + 1) T P d p ft fp fy sk so sh sy) (k : g p = 2) (hoc : 0 < hp_oc g p) (hpt1 : hp_pt g p (hp_oc g p - 1) ≠ 1) : ((∃ (d' p' tl' : Nat) (ac' cr' fr' : Int32) (ft' fp' fy' tr' sk' so' sh' sy' : Nat → Int32), rn_I g a n M d' p' ft' fp' fy' sk' so' sh' sy' ∧ tl' ≤ tc ∧ (∀ post : SX → Prop, post (cm, nI tc, nI n, cp, cf, xo, xi, xs, xh, nI d', nI p', ac', nI tl', 0, 0, 0, cr', fr', g, a, fs, tf, xot, xop, ft', fp', fy', tr') → wpX_executeToken post (cm, nI tc, nI n, cp, cf, xo, xi, xs, xh, nI d, nI p, ac, nI tl, 0, 0, 0, cr, fr, g, a, fs, tf, xot, xop, ft, fp, fy, tr)) ∧ (∀ post : SY → Prop, post (cm, nI tc, nI n, cp, cf, 0, 0, 0, nI tl', cr', fr', nI d', nI p', ac', 1, g, a, tr', yp, sk', so', sh', sy') → wpY_step post (cm, nI tc, nI n, cp, cf, 0, 0, 0, nI tl, cr, fr, nI d, nI p, ac, 1, g, a, tr, yp, sk, so, sh, sy))) ∨ (∃ st' ut' : Int32, ¬ st' = 0 ∧ (st' = 2 ∨ ut' = 0) ∧ (∀ post : SX → Prop, post (cm, nI tc, nI n, cp, cf, xo, xi, xs, xh, nI d, nI p, ac, nI tl, st', ac, ut', cr, fr, g, a, fs, tf, xot, xop, ft, fp, fy, tr) → wpX_executeToken post (cm, nI tc, nI n, cp, cf, xo, xi, xs, xh, nI d, nI p, ac, nI tl, 0, 0, 0, cr, fr, g, a, fs, tf, xot, xop, ft, fp, fy, tr)) ∧ (∀ post : SY → Prop, post (cm, nI tc, nI n, cp, cf, st', 0, ut', nI tl, cr, fr, nI d, nI p, ac, 0, g, a, tr, yp, sk, so, sh, sy) → wpY_step post (cm, nI tc, nI n, cp, cf, 0, 0, 0, nI tl, cr, fr, nI d, nI p, ac, 1, g, a, tr, yp, sk, so, sh, sy)))) := by
  obtain ⟨z1, z2, z3, z4, K0, K1, b2, b3, b4, b5⟩ := rn_b G J
  obtain ⟨d, rfl, hP, r2, r3, r4, r5, r6⟩ := rn_top G J hoc
  have J0 := J
  obtain ⟨R, hX, hY, E, hM⟩ := J0
  have hdd : d < d + 1 := by omega
  have hTn := (R.2.2.2 d hdd).1
  have hOp : ow_O g (T d) p := ⟨Or.inl k, hoc, r2.symm⟩
  obtain ⟨u1, u2, u3, u4, u5, u6, -⟩ := ow_2 K0 r4
  have hpt : hp_pt g p (hp_oc g (T d)) = P d := by rw [r5, r3]
  have f0 : ¬ fp d = 0 := fun h => hP ((rt_fp hX hdd (k := 0) (by omega)).mp h)
  have f3 := rt_fp hX hdd (k := 3) (by omega)
  have eg : g (nI p).toNatClampNeg = 2 := by rw [b3]; exact k
  have ea : a (nI p).toNatClampNeg = a p := by rw [b3]
  have hl2 := ow_e1 G z1 hOp k
  rcases hY d hdd with ⟨p0, -⟩ | ⟨p1, p3, k1, s1, s2, s3⟩
  · exact absurd p0 hP
  have P23 : P d = 2 ∨ P d = 3 := by
    rw [← r3] at hpt1
    clear s3
    omega
  obtain ⟨t1, ty, t2, t3, t4⟩ := s3 (by clear s3; omega)
  clear s3
  have ho : xo_R g n (T d) (fp d) (-1) := by
    by_cases h3 : P d = 3
    · exact Or.inl ⟨f3.mpr h3, rfl⟩
    · refine Or.inr ⟨fun h => h3 (f3.mp h), Or.inr ⟨rfl, fun y hy h => ?_⟩⟩
      rcases Nat.lt_trichotomy y p with z | z | z
      · have := (ow_7 h.1 p K0 z).2.2 h.2 r4
        omega
      · rw [z, k] at h; exact absurd h.2 (by decide)
      · exact (ow_8 (ow_Kl G.2.1 (show y + 1 ≤ n by omega)) hOp h.1 z).1 k
  by_cases hpd : P d = 3 ∧ ty ≠ 0
  · obtain ⟨h3, h0⟩ := hpd
    have hy0 : ¬ nI ty = 0 := nI_ne0 (by omega) (by omega)
    obtain hE := E d hdd h3 (by rw [t3]; exact hy0)
    rw [t3] at hE
    have sh2 : sh d = 2 := by rw [s2, h3]; rfl
    obtain ⟨j, x, kk, j1, j2, j3⟩ := rt_ex G R d (by omega) hE
    have j5 : ∀ m, j < m → m < d + 1 → rt_p g a n T P (nI ty) m := fun m m1 m2 => by
      by_cases em : m = d
      · rw [em]; exact ⟨fun h => by omega, fun h => absurd h3 h⟩
      · exact j3 m m1 (by omega)
    have j4 := j2
    obtain ⟨hx, ⟨k2, q1, l1, l2⟩ | ⟨k3, p12, no, l1, l2, l3, he⟩⟩ := j4
    · exact Or.inl ⟨j + 1, x + 1, tl, ac, cr + 1, fr, ft, upd fp j 2, upd fy j (nI ty), tr, sk, so, upd sh j 1, upd sy j (nI ty), rn_set (k := 2) G J (by omega) hx l2.1 (Or.inl ⟨rfl, l2.2.1, q1, by omega⟩) t2 (fun h => by omega), htl,
        fun post hp => ⟨b2, nm_r ea ⟨b2, nm_r eg (br_t (by decide) (xb_u z2 hT (by omega) (by omega) (hX d hdd).1 (f3.mpr h3) t3 hy0 (fun post hp => xu_w G hT R (by omega) hX (by omega) j5 j2 post (fun _ => hp) (fun h => by omega)) _ hp))⟩⟩,
        fun post hp => br_f b4 (br_t b5 ⟨b2, nm_r eg ⟨b2, nm_r ea (br_f (by decide) (br_f (by decide) (br_f (by decide) (br_f (by decide) (br_f (by decide) (br_f (by decide) (br_f (by decide) (br_f (by decide) (br_f (by decide) (br_t rfl (ye_u (by omega) k1 sh2 (by rw [t1]; exact t3) (by omega) t2 (fun post hp => yr_w G R (by omega) hY (by omega) j1 j3 j2 post (fun _ => hp) (fun h => by omega)) _ hp)))))))))))⟩⟩)⟩
    · exact Or.inl ⟨j + 1, x + 1, tl, ac, cr, fr + 1, ft, upd fp j 3, upd fy j (nI ty), tr, sk, so, upd sh j 2, upd sy j (nI ty), rn_set (k := 3) G J (by omega) hx l2 (Or.inr ⟨rfl, l3, p12⟩) t2 (fun _ _ => he), htl,
        fun post hp => ⟨b2, nm_r ea ⟨b2, nm_r eg (br_t (by decide) (xb_u z2 hT (by omega) (by omega) (hX d hdd).1 (f3.mpr h3) t3 hy0 (fun post hp => xu_w G hT R (by omega) hX (by omega) j5 j2 post (fun h => by omega) (fun _ => hp)) _ hp))⟩⟩,
        fun post hp => br_f b4 (br_t b5 ⟨b2, nm_r eg ⟨b2, nm_r ea (br_f (by decide) (br_f (by decide) (br_f (by decide) (br_f (by decide) (br_f (by decide) (br_f (by decide) (br_f (by decide) (br_f (by decide) (br_f (by decide) (br_t rfl (ye_u (by omega) k1 sh2 (by rw [t1]; exact t3) (by omega) t2 (fun post hp => yr_w G R (by omega) hY (by omega) j1 j3 j2 post (fun h => by omega) (fun _ => hp)) _ hp)))))))))))⟩⟩)⟩
  · have hz : P d = 3 → fy d = 0 := fun h => by
      have : ty = 0 := by
        rcases Nat.eq_zero_or_pos ty with z | z
        · exact z
        · exact absurd ⟨h, by omega⟩ hpd
      rw [t3, this]; rfl
    exact Or.inl ⟨d, p + 1, tl, ac, cr, fr, ft, fp, fy, tr, sk, so, sh, sy, rn_out G J hP z1 (Nat.le_refl _) hOp k u3, htl,
      fun post hp => ⟨b2, nm_r ea ⟨b2, nm_r eg (br_t (by decide) (xb_e z2 hT (by omega) (by omega) (hX d hdd).1 f0 ho (fun h => hz (f3.mp h)) hl2 _ hp))⟩⟩,
      fun post hp => br_f b4 (br_t b5 ⟨b2, nm_r eg ⟨b2, nm_r ea (br_f (by decide) (br_f (by decide) (br_f (by decide) (br_f (by decide) (br_f (by decide) (br_f (by decide) (br_f (by decide) (br_f (by decide) (br_f (by decide) (br_t rfl (ye_e (by omega) k1 (fun h => by
        rw [t1]
        refine hz ?_
        rw [s2] at h
        have := hp_eq (b := 2) h (by omega) (by omega)
        omega) _ hp)))))))))))⟩⟩)⟩
/-- one step -/
theorem rn_step (G : ow_G g a n) (hT : ow_T g tf n) (htl : tl ≤ tc) (J : rn_J g a n (M + 1) T P d p ft fp fy sk so sh sy) (htc : tc ≤ 32) (hfs : ∀ q, q < n → g q = 1 → fs (hp_fn g q) = nI q) (hcf : cf = nI (hp_fn g n)) : ((∃ (d' p' tl' : Nat) (ac' cr' fr' : Int32) (ft' fp' fy' tr' sk' so' sh' sy' : Nat → Int32), rn_I g a n M d' p' ft' fp' fy' sk' so' sh' sy' ∧ tl' ≤ tc ∧ (∀ post : SX → Prop, post (cm, nI tc, nI n, cp, cf, xo, xi, xs, xh, nI d', nI p', ac', nI tl', 0, 0, 0, cr', fr', g, a, fs, tf, xot, xop, ft', fp', fy', tr') → wpX_executeToken post (cm, nI tc, nI n, cp, cf, xo, xi, xs, xh, nI d, nI p, ac, nI tl, 0, 0, 0, cr, fr, g, a, fs, tf, xot, xop, ft, fp, fy, tr)) ∧ (∀ post : SY → Prop, post (cm, nI tc, nI n, cp, cf, 0, 0, 0, nI tl', cr', fr', nI d', nI p', ac', 1, g, a, tr', yp, sk', so', sh', sy') → wpY_step post (cm, nI tc, nI n, cp, cf, 0, 0, 0, nI tl, cr, fr, nI d, nI p, ac, 1, g, a, tr, yp, sk, so, sh, sy))) ∨ (∃ st' ut' : Int32, ¬ st' = 0 ∧ (st' = 2 ∨ ut' = 0) ∧ (∀ post : SX → Prop, post (cm, nI tc, nI n, cp, cf, xo, xi, xs, xh, nI d, nI p, ac, nI tl, st', ac, ut', cr, fr, g, a, fs, tf, xot, xop, ft, fp, fy, tr) → wpX_executeToken post (cm, nI tc, nI n, cp, cf, xo, xi, xs, xh, nI d, nI p, ac, nI tl, 0, 0, 0, cr, fr, g, a, fs, tf, xot, xop, ft, fp, fy, tr)) ∧ (∀ post : SY → Prop, post (cm, nI tc, nI n, cp, cf, st', 0, ut', nI tl, cr, fr, nI d, nI p, ac, 0, g, a, tr, yp, sk, so, sh, sy) → wpY_step post (cm, nI tc, nI n, cp, cf, 0, 0, 0, nI tl, cr, fr, nI d, nI p, ac, 1, g, a, tr, yp, sk, so, sh, sy)))) := by
  have z4 := J.1.2.1
  rcases G.2.1 p J.1.1 with ⟨h1, h2, h3⟩ | ⟨h0, ⟨h1, h2⟩ | ⟨h1, h2, h3⟩ | h1 | ⟨h1, h2, h3, -⟩ | ⟨h1, h2, h3⟩ | h1 | h1 | ⟨h1 | h1, ty, t1, t2, t3⟩ | ⟨h1, h2⟩ | ⟨h1, -⟩⟩
  · omega
  · exact st_2a G hT htl J h1 h2
  · exact st_2b G hT htl J h1 h2 h3
  · exact st_3 G hT htl J h1
  · exact st_45 G hT htl J (Or.inl h1) h2 h3
  · exact st_45 G hT htl J (Or.inr h1) h2 h3
  · exact st_6 G hT htl J h1
  · exact st_7 G hT htl J htc h1
  · exact st_8 G hT htl J h1 t1 t2 t3
  · exact st_9 G hT htl J h1 t1 t2 t3
  · exact st_10 G hT htl J h1 h2
  · exact st_11 G hT htl J hfs hcf h1
end HE
end
section
section HU
variable {g a fs tf xot xop yp : Nat → Int32} {n tc : Nat} {cm cp cf xo xi xs xh : Int32}
/-! P: the run -/
theorem rn_pos (G : ow_G g a n) {M d p : Nat} {ft fp fy sk so sh sy : Nat → Int32} (I : rn_I g a n M d p ft fp fy sk so sh sy) : 0 < M := by
  obtain ⟨T, P, R, hX, hY, E, hM⟩ := I
  have h0 := R.1
  have hn := G.1
  have h1 := rt_w1 (hp_fn g p)
  have h2 := Nat.mul_le_mul (show 1 ≤ 32 - p by omega) h1
  have h3 : rt_R g p = (32 - p) * rt_w (hp_fn g p) := rfl
  omega
theorem rn_loop (G : ow_G g a n) (hT : ow_T g tf n) (htc : tc ≤ 32) (hfs : ∀ q, q < n → g q = 1 → fs (hp_fn g q) = nI q) (hcf : cf = nI (hp_fn g n)) : ∀ (M s d p tl : Nat) (ac cr fr : Int32) (ft fp fy tr sk so sh sy : Nat → Int32), s + M < 1000000 → tl ≤ tc → rn_I g a n M d p ft fp fy sk so sh sy →
    ∃ (d' p' tl' : Nat) (st' ut' ac' cr' fr' : Int32) (ft' fp' fy' tr' sk' so' sh' sy' : Nat → Int32), tl' ≤ tc ∧ (∀ (f : Nat) (post : Int32 → SX → Prop), M < f → post 1 (cm, nI tc, nI n, cp, cf, xo, xi, xs, xh, nI d', nI p', ac', nI tl', st', ac', ut', cr', fr', g, a, fs, tf, xot, xop, ft', fp', fy', tr') → wX_run_37 post f (nI s) cm (nI tc) (nI n) cp cf xo xi xs xh (nI d) (nI p) ac (nI tl) 0 0 0 cr fr g a fs tf xot xop ft fp fy tr) ∧ (∀ (f : Nat) (post : Int32 → SY → Prop), M < f → post 1 (cm, nI tc, nI n, cp, cf, st', ac', ut', nI tl', cr', fr', nI d', nI p', ac', 0, g, a, tr', yp, sk', so', sh', sy') → wY_run_39 post f (nI s) cm (nI tc) (nI n) cp cf 0 0 0 (nI tl) cr fr (nI d) (nI p) ac 1 g a tr yp sk so sh sy) := by
  intro M
  induction M with
  | zero =>
    intro s d p tl ac cr fr ft fp fy tr sk so sh sy _ _ I
    have := rn_pos G I
    omega
  | succ M ih =>
  intro s d p tl ac cr fr ft fp fy tr sk so sh sy hs htl I
  obtain ⟨T, P, J⟩ := I
  have hn := G.1
  have hpn := J.1.1
  have c1 : ¬ (1000000 : Int32) ≤ nI s := nI_ge (b := 1000000) (by omega) (by decide)
  have c2 : ¬ (4194304 : Int32) ≤ nI s := nI_ge (b := 4194304) (by omega) (by decide)
  have c3 : ¬ nI n ≤ nI p := nI_ge hpn (by omega)
  rcases rn_step (cm := cm) (cp := cp) (cf := cf) (xo := xo) (xi := xi) (xs := xs) (xh := xh) (ac := ac) (cr := cr) (fr := fr) (fs := fs) (xot := xot) (xop := xop) (tr := tr) (yp := yp) G hT htl J htc hfs hcf with ⟨d1, p1, tl1, ac1, cr1, fr1, ft1, fp1, fy1, tr1, sk1, so1, sh1, sy1, i1, i2, wx, wy⟩ | ⟨st', ut', i1, i2, wx, wy⟩
  · obtain ⟨d', p', tl', st', ut', ac', cr', fr', ft', fp', fy', tr', sk', so', sh', sy', j1, jx, jy⟩ := ih (s + 1) d1 p1 tl1 ac1 cr1 fr1 ft1 fp1 fy1 tr1 sk1 so1 sh1 sy1 (by omega) i2 i1
    refine ⟨d', p', tl', st', ut', ac', cr', fr', ft', fp', fy', tr', sk', so', sh', sy', j1, fun f post hf hp => ?_, fun f post hf hp => ?_⟩
    · obtain ⟨f, rfl⟩ : ∃ f', f = f' + 1 := ⟨f - 1, by omega⟩
      exact br_f c1 (br_t rfl (br_f c3 (wx _ (nm_r (nI_1 s) (jx f post (by omega) hp)))))
    · obtain ⟨f, rfl⟩ : ∃ f', f = f' + 1 := ⟨f - 1, by omega⟩
      exact br_f c2 (br_f (by decide) (wy _ (nm_r (nI_1 s) (jy f post (by omega) hp))))
  · refine ⟨d, p, tl, st', ut', ac, cr, fr, ft, fp, fy, tr, sk, so, sh, sy, htl, fun f post hf hp => ?_, fun f post hf hp => ?_⟩
    · obtain ⟨f, rfl⟩ : ∃ f', f = f' + 1 + 1 := ⟨f - 2, by omega⟩
      exact br_f c1 (br_t rfl (br_f c3 (wx _ (nm_r (nI_1 s) (br_c (fun _ => hp) (fun _ => br_f i1 hp))))))
    · obtain ⟨f, rfl⟩ : ∃ f', f = f' + 1 + 1 := ⟨f - 2, by omega⟩
      have k62 : wY_run_62 post cm (nI tc) (nI n) cp cf st' 0 ut' (nI tl) cr fr (nI d) (nI p) ac 0 g a tr yp sk so sh sy := by
        refine br_t rfl (br_c (fun _ => hp) (fun h => ?_))
        have := i2.resolve_left h
        rw [this] at hp
        exact hp
      exact br_f c2 (br_f (by decide) (wy _ (nm_r (nI_1 s) (br_c (fun _ => k62) (fun _ => br_t rfl k62)))))
/-- the start of a run -/
theorem rn_st (G : ow_G g a n) (ft fp fy sk so sh sy : Nat → Int32) : g 0 = 1 ∧ hp_fn g 0 = 0 ∧ rn_I g a n 632028 0 1 ft fp fy sk so sh sy := by
  have k0 : g 0 = 1 := by
    rcases hp_tc (G.2.1 0 G.2.2.2.1) with ⟨i1, i2, i3⟩ | ⟨i0, i1⟩ | ⟨i0, i1⟩ | ⟨i0, i1⟩ | ⟨i0, i1⟩ | ⟨i0, i1⟩ | ⟨i0, i1⟩
    · exact i2
    all_goals (simp [hp_in] at i0)
  obtain ⟨e1, e2, e3, e4, e5⟩ := hp_s1 k0
  have e5' : hp_in g 1 = 1 := e5
  refine ⟨k0, rfl, fun _ => 0, fun _ => 0, ⟨rn_n G G.2.2.2.1 e5', e5', ?_, fun j hj => absurd hj (Nat.not_lt_zero _)⟩, fun j hj => absurd hj (Nat.not_lt_zero _), fun j hj => absurd hj (Nat.not_lt_zero _), fun j hj => absurd hj (Nat.not_lt_zero _), ?_⟩
  · rw [rt_xg (Nat.le_refl _)]; exact e1
  · have : hp_fn g 1 = 1 := e4
    simp only [rt_s, rt_R, this, rt_w]
    decide
end HU
end
section
section HX
variable {g a fs tf xot xop ft fp fy tr : Nat → Int32} {n i hc : Nat} {cm ct cp cf xo xi xs xh dd pp ac tl st rs ut cr fr : Int32}
/-! Q: the component's compile -/
def ck_k (x : Int32) : Prop := x = 1 ∨ x = 2 ∨ x = 3 ∨ x = 4 ∨ x = 5 ∨ x = 6 ∨ x = 7 ∨ x = 8 ∨ x = 9 ∨ x = 10 ∨ x = 11
def cx_T (g tf : Nat → Int32) (i : Nat) : Prop := (∀ x, x < i → ∀ t, t < 32 → (tf x = nI t ↔ ow_O g t x)) ∧ ∀ x, i ≤ x → x < 32 → tf x = -1
def cx_C (g a : Nat → Int32) (i c : Nat) : Prop := ∀ j, j < i → g j = 11 → ∀ f : Nat, f ≤ 3 → a j = nI f → f ≤ c
def cx_I (g a : Nat → Int32) (i : Nat) (fs tf xot xop : Nat → Int32) (hc : Nat) : Prop := (∀ l, l < hp_oc g i → xot l = nI (hp_ot g i l)) ∧ (∀ l, l < hp_oc g i → xop l = nI (hp_pt g i l)) ∧ (∀ q, q < i → g q = 1 → fs (hp_fn g q) = nI q) ∧ cx_T g tf i ∧ hc ≤ 3 ∧ cx_C g a i hc ∧ (hc = 0 ∨ ∃ j, j < i ∧ g j = 11 ∧ a j = nI hc)
theorem cx_To {t : Nat} (hi : i < 32) (ht : t < 32) (hO : ow_O g t i) (h : cx_T g tf i) : cx_T g (upd tf i (nI t)) (i + 1) := by
  refine ⟨fun x hx t' ht' => ?_, fun x h1 h2 => ?_⟩
  · by_cases e : x = i
    · subst e
      rw [hp_us, nI_eq (by omega) (by omega)]
      exact ⟨fun e => e ▸ hO, fun h' => hO.2.2.symm.trans h'.2.2⟩
    · rw [hp_un e]; exact h.1 x (by omega) t' ht'
  · rw [hp_un (by omega)]; exact h.2 x (by omega) h2
theorem cx_Tn (hi : i < 32) (hO : ∀ t, ¬ ow_O g t i) (h : cx_T g tf i) : cx_T g tf (i + 1) := by
  refine ⟨fun x hx t' ht' => ?_, fun x h1 h2 => h.2 x (by omega) h2⟩
  by_cases e : x = i
  · subst e
    rw [h.2 x (Nat.le_refl _) hi]
    exact ⟨fun e => absurd e.symm (hp_ne1 (by omega)), fun h' => absurd h' (hO t')⟩
  · exact h.1 x (by omega) t' ht'
theorem cx_no {t : Nat} (h2 : g i ≠ 2) (h4 : g i ≠ 4) (h5 : g i ≠ 5) : ¬ ow_O g t i := fun h => by
  rcases h.1 with e | e | e
  · exact h2 e
  · exact h4 e
  · exact h5 e
theorem cx_fs (h : ∀ q, q < i → g q = 1 → fs (hp_fn g q) = nI q) (h1 : g i ≠ 1) : ∀ q, q < i + 1 → g q = 1 → fs (hp_fn g q) = nI q := fun q hq hg => by
  by_cases e : q = i
  · rw [e] at hg; exact absurd hg h1
  · exact h q (by omega) hg
theorem cx_Cn {c : Nat} (h : cx_C g a i c) (h1 : g i ≠ 11) : cx_C g a (i + 1) c := fun j hj hg f hf e => by
  by_cases ej : j = i
  · rw [ej] at hg; exact absurd hg h1
  · exact h j (by omega) hg f hf e
theorem cx_ex {c : Nat} {Q : Prop} (h : Q ∨ ∃ j, j < i ∧ g j = 11 ∧ a j = nI c) : Q ∨ ∃ j, j < i + 1 ∧ g j = 11 ∧ a j = nI c := by
  rcases h with h | ⟨j, j1, j2⟩
  · exact Or.inl h
  · exact Or.inr ⟨j, by omega, j2⟩
theorem hp_r0 {x : Int32} (h1 : ¬ x < 0) (h2 : ¬ 15 < x) : ∃ t : Nat, t ≤ 15 ∧ x = nI t := nI_of2 (M := 15) (by decide) h1 (Int32.not_lt.mp h2)
theorem hp_r1 {x : Int32} (h1 : ¬ x < 1) (h2 : ¬ 15 < x) : ∃ t : Nat, 1 ≤ t ∧ t ≤ 15 ∧ x = nI t := hp_rng (L := 1) (M := 15) (by decide) (by decide) h1 (Int32.not_lt.mp h2)
theorem hp_lt4 {x : Int32} (h : x < 4) : x ≤ 3 := by
  rw [Int32.lt_iff_toInt_lt, show (4 : Int32).toInt = 4 by decide] at h
  rw [Int32.le_iff_toInt_le, show (3 : Int32).toInt = 3 by decide]
  omega
theorem hp_r3 {x : Int32} {m : Nat} (hm : m < 2 ^ 31) (h1 : ¬ x < nI m) (h2 : x < 4) : ∃ f : Nat, m ≤ f ∧ f ≤ 3 ∧ x = nI f := hp_rng (L := nI m) (M := 3) (nI_toInt hm) (by decide) h1 (hp_lt4 h2)
theorem hp_15 {t : Nat} (h : t ≤ 15) : ¬ (15 : Int32) < nI t := nI_nlt (a := 15) h (by decide)
theorem xk_in {c : Nat} (hoc : hp_oc g i ≤ 32) (hop : ∀ l, l < hp_oc g i → xop l = nI (hp_pt g i l)) (hb : ∀ l, l < hp_oc g i → hp_pt g i l ≤ 3) {r : Int32} (hr : (r = 1 ∧ ∃ l, l < hp_oc g i ∧ hp_pt g i l = 2) ∨ (r = 0 ∧ ∀ l, l < hp_oc g i → hp_pt g i l ≠ 2)) (post : Int32 → Prop) (hp : post r) : ∀ f l, l ≤ hp_oc g i → hp_oc g i - l < f → (∀ m, m < l → hp_pt g i m ≠ 2) → wX_isInsideCatch_2 post cm ct (nI n) cp cf (nI (hp_oc g i)) xi xs xh dd pp ac tl st rs ut cr fr g a fs tf xot xop ft fp fy tr f (nI l) := by
  intro f
  induction f with
  | zero => intro l _ h; omega
  | succ f ih =>
  intro l hl hf hno
  rcases Nat.lt_or_ge l (hp_oc g i) with z | z
  · have b1 : ¬ nI (hp_oc g i) ≤ nI l := nI_ge z (by omega)
    have b2 : vp_in (nI l) 32 := vp_in_nI (by omega) (by omega)
    have b3 : (nI l).toNatClampNeg = l := nI_clamp (by omega)
    have hb1 := hb l z
    by_cases e : hp_pt g i l = 2
    · have : r = 1 := by
        rcases hr with h | h
        · exact h.1
        · exact absurd e (h.2 l z)
      rw [this] at hp
      exact br_f b1 ⟨b2, br_t (by rw [b3, hop l z, e]; rfl) hp⟩
    · exact br_f b1 ⟨b2, br_f (by rw [b3, hop l z]; exact fun h => e (hp_eq (b := 2) h (by omega) (by omega))) (nm_r (nI_1 l) (ih (l + 1) (by omega) (by omega) (fun m hm => by
        by_cases em : m = l
        · rw [em]; exact e
        · exact hno m (by omega))))⟩
  · have : l = hp_oc g i := by omega
    subst this
    have : r = 0 := by
      rcases hr with ⟨h1, l, l1, l2⟩ | h
      · exact absurd l2 (hno l l1)
      · exact h.1
    rw [this] at hp
    exact br_t (nI_le (Nat.le_refl _) (by omega)) hp
theorem xk_0 (hi : i < 32) (K : ow_K g a i) (I : cx_I g a i fs tf xot xop hc) (hin : hp_in g i = 0) : ((hp_tk g a i ∧ ∃ (fs' tf' xot' xop' : Nat → Int32) (hc' : Nat), cx_I g a (i + 1) fs' tf' xot' xop' hc' ∧ ∀ post : Int32 → SX → Prop, post 1 (cm, ct, nI n, 0, 0, nI (hp_oc g (i + 1)), nI (hp_in g (i + 1)), nI (hp_fn g (i + 1)), nI hc', dd, pp, ac, tl, st, rs, ut, cr, fr, g, a, fs', tf', xot', xop', ft, fp, fy, tr) → wpX_acceptToken post (cm, ct, nI n, 0, 0, nI (hp_oc g i), nI (hp_in g i), nI (hp_fn g i), nI hc, dd, pp, ac, tl, st, rs, ut, cr, fr, g, a, fs, tf, xot, xop, ft, fp, fy, tr) (nI i)) ∨ (¬ hp_tk g a i ∧ ∀ post : Int32 → SX → Prop, post 0 (cm, ct, nI n, 0, 0, nI (hp_oc g i), nI (hp_in g i), nI (hp_fn g i), nI hc, dd, pp, ac, tl, st, rs, ut, cr, fr, g, a, fs, tf, xot, xop, ft, fp, fy, tr) → wpX_acceptToken post (cm, ct, nI n, 0, 0, nI (hp_oc g i), nI (hp_in g i), nI (hp_fn g i), nI hc, dd, pp, ac, tl, st, rs, ut, cr, fr, g, a, fs, tf, xot, xop, ft, fp, fy, tr) (nI i))) := by
  obtain ⟨i1, i2, i3, i4, i5, i6, i7⟩ := I
  have b2 : vp_in (nI i) 32 := vp_in_nI (by omega) (by omega)
  have b3 : (nI i).toNatClampNeg = i := nI_clamp (by omega)
  have c0 : nI (hp_in g i) = 0 := by rw [hin]; rfl
  have oc0 := (hp_H i K).1 hin
  have f4 := (hp_H i K).2.1
  by_cases k : g i = 1
  · by_cases f : hp_fn g i < 4
    · obtain ⟨e1, e2, e3, e4, e5⟩ := hp_s1 k
      refine Or.inl ⟨Or.inl ⟨hin, k, f⟩, upd fs (hp_fn g i) (nI i), tf, xot, xop, hc, ⟨by rw [e1, oc0]; exact fun l hl => absurd hl (Nat.not_lt_zero _), by rw [e1, oc0]; exact fun l hl => absurd hl (Nat.not_lt_zero _), fun q hq hg => ?_, cx_Tn hi (fun t => cx_no (by rw [k]; decide) (by rw [k]; decide) (by rw [k]; decide)) i4, i5, cx_Cn i6 (by rw [k]; decide), cx_ex i7⟩, fun post hp => ?_⟩
      · by_cases e : q = i
        · subst e; exact hp_us
        · have : hp_fn g q ≠ hp_fn g i := fun h => e (hp_fnU hg k h)
          rw [hp_un this]; exact i3 q (by omega) hg
      · have b4 : vp_in (nI (hp_fn g i)) 4 := vp_in_nI f (by omega)
        have b5 : (nI (hp_fn g i)).toNatClampNeg = hp_fn g i := nI_clamp (by omega)
        rw [e1, e4, e5] at hp
        exact br_t c0 ⟨b2, br_t (by rw [b3]; exact k) (br_t (nI_lt (b := 4) f (by decide)) ⟨b4, nm_r (by rw [b5]) (nm_r (nI_1 _) ⟨hp_nb1, hp⟩)⟩)⟩
    · refine Or.inr ⟨fun h => ?_, fun post hp => br_t c0 ⟨b2, br_t (by rw [b3]; exact k) (br_f (nI_nlt (b := 4) (by omega) (by omega)) ⟨hp_nb0, hp⟩)⟩⟩
      rcases h with h | h
      · exact f h.2.2
      · rw [hin] at h; exact absurd h.1 (by decide)
  · refine Or.inr ⟨fun h => ?_, fun post hp => br_t c0 ⟨b2, br_f (by rw [b3]; exact k) ⟨hp_nb0, hp⟩⟩⟩
    rcases h with h | h
    · exact k h.2.1
    · rw [hin] at h; exact absurd h.1 (by decide)
/-- what stays when a token opens and closes nothing -/
theorem cx_pl (hi : i < 32) (I : cx_I g a i fs tf xot xop hc) (k : hp_pl (g i)) (k11 : g i ≠ 11) : cx_I g a (i + 1) fs tf xot xop hc := by
  obtain ⟨i1, i2, i3, i4, i5, i6, i7⟩ := I
  obtain ⟨e1, e2, e3, e4, e5⟩ := hp_s6 k
  have q : ∀ x : Int32, x = 1 ∨ x = 2 ∨ x = 4 ∨ x = 5 → g i ≠ x := fun x hx e => by
    rw [e] at k
    rcases hx with h | h | h | h <;> rw [h] at k <;> exact absurd k (by unfold hp_pl; decide)
  refine ⟨by rw [e1, e2]; exact i1, by rw [e1, e3]; exact i2, cx_fs i3 (q 1 (by simp)), cx_Tn hi (fun t => cx_no (q 2 (by simp)) (q 4 (by simp)) (q 5 (by simp))) i4, i5, cx_Cn i6 k11, cx_ex i7⟩
theorem xk_pl (hi : i < 32) (I : cx_I g a i fs tf xot xop hc) (hin : hp_in g i = 1) (k : g i = 6 ∨ g i = 7 ∨ g i = 8 ∨ g i = 9 ∨ g i = 10) (K : ow_K g a i) : ((hp_tk g a i ∧ ∃ (fs' tf' xot' xop' : Nat → Int32) (hc' : Nat), cx_I g a (i + 1) fs' tf' xot' xop' hc' ∧ ∀ post : Int32 → SX → Prop, post 1 (cm, ct, nI n, 0, 0, nI (hp_oc g (i + 1)), nI (hp_in g (i + 1)), nI (hp_fn g (i + 1)), nI hc', dd, pp, ac, tl, st, rs, ut, cr, fr, g, a, fs', tf', xot', xop', ft, fp, fy, tr) → wpX_acceptToken post (cm, ct, nI n, 0, 0, nI (hp_oc g i), nI (hp_in g i), nI (hp_fn g i), nI hc, dd, pp, ac, tl, st, rs, ut, cr, fr, g, a, fs, tf, xot, xop, ft, fp, fy, tr) (nI i)) ∨ (¬ hp_tk g a i ∧ ∀ post : Int32 → SX → Prop, post 0 (cm, ct, nI n, 0, 0, nI (hp_oc g i), nI (hp_in g i), nI (hp_fn g i), nI hc, dd, pp, ac, tl, st, rs, ut, cr, fr, g, a, fs, tf, xot, xop, ft, fp, fy, tr) → wpX_acceptToken post (cm, ct, nI n, 0, 0, nI (hp_oc g i), nI (hp_in g i), nI (hp_fn g i), nI hc, dd, pp, ac, tl, st, rs, ut, cr, fr, g, a, fs, tf, xot, xop, ft, fp, fy, tr) (nI i))) := by
  have I0 := I
  obtain ⟨i1, i2, i3, i4, i5, i6, i7⟩ := I0
  have b2 : vp_in (nI i) 32 := vp_in_nI (by omega) (by omega)
  have b3 : (nI i).toNatClampNeg = i := nI_clamp (by omega)
  have c0 : ¬ nI (hp_in g i) = 0 := by rw [hin]; decide
  have I1 := cx_pl hi I (by unfold hp_pl; rcases k with k | k | k | k | k <;> simp [k]) (by rcases k with k | k | k | k | k <;> rw [k] <;> decide)
  obtain ⟨e1, e2, e3, e4, e5⟩ := hp_s6 (g := g) (i := i) (by unfold hp_pl; rcases k with k | k | k | k | k <;> simp [k])
  rcases k with k | k | k | k | k
  · have eg : g (nI i).toNatClampNeg = 6 := by rw [b3]; exact k
    refine Or.inl ⟨by simp [hp_tk, hin, k], fs, tf, xot, xop, hc, I1, fun post hp => ?_⟩
    rw [e1, e4, e5] at hp
    exact br_f c0 ⟨b2, nm_r eg (br_f (by decide) (br_f (by decide) (br_f (by decide) (br_f (by decide) (br_f (by decide) (br_f (by decide) (br_t rfl hp)))))))⟩
  · have eg : g (nI i).toNatClampNeg = 7 := by rw [b3]; exact k
    refine Or.inl ⟨by simp [hp_tk, hin, k], fs, tf, xot, xop, hc, I1, fun post hp => ?_⟩
    rw [e1, e4, e5] at hp
    exact br_f c0 ⟨b2, nm_r eg (br_f (by decide) (br_f (by decide) (br_f (by decide) (br_f (by decide) (br_f (by decide) (br_f (by decide) (br_f (by decide) (br_t rfl hp))))))))⟩
  · have eg : g (nI i).toNatClampNeg = 8 := by rw [b3]; exact k
    by_cases a1 : a i < 1
    · refine Or.inr ⟨fun h => ?_, fun post hp => br_f c0 ⟨b2, nm_r eg (br_f (by decide) (br_f (by decide) (br_f (by decide) (br_f (by decide) (br_f (by decide) (br_f (by decide) (br_f (by decide) (br_f (by decide) (br_t rfl ⟨b2, br_t (by rw [b3]; exact a1) hp⟩)))))))))⟩⟩
      simp [hp_tk, hin, k] at h
      obtain ⟨t, t1, t2, t3⟩ := h
      rw [t3] at a1
      exact nI_nlt (b := 1) t1 (by omega) a1
    · by_cases a2 : 15 < a i
      · refine Or.inr ⟨fun h => ?_, fun post hp => br_f c0 ⟨b2, nm_r eg (br_f (by decide) (br_f (by decide) (br_f (by decide) (br_f (by decide) (br_f (by decide) (br_f (by decide) (br_f (by decide) (br_f (by decide) (br_t rfl ⟨b2, br_f (by rw [b3]; exact a1) ⟨b2, br_t (by rw [b3]; exact a2) hp⟩⟩)))))))))⟩⟩
        simp [hp_tk, hin, k] at h
        obtain ⟨t, t1, t2, t3⟩ := h
        rw [t3] at a2
        exact hp_15 t2 a2
      · refine Or.inl ⟨?_, fs, tf, xot, xop, hc, I1, fun post hp => ?_⟩
        · simp [hp_tk, hin, k]; exact hp_r1 a1 a2
        · rw [e1, e4, e5] at hp
          exact br_f c0 ⟨b2, nm_r eg (br_f (by decide) (br_f (by decide) (br_f (by decide) (br_f (by decide) (br_f (by decide) (br_f (by decide) (br_f (by decide) (br_f (by decide) (br_t rfl ⟨b2, br_f (by rw [b3]; exact a1) ⟨b2, br_f (by rw [b3]; exact a2) hp⟩⟩)))))))))⟩
  · have eg : g (nI i).toNatClampNeg = 9 := by rw [b3]; exact k
    by_cases a1 : a i < 1
    · refine Or.inr ⟨fun h => ?_, fun post hp => br_f c0 ⟨b2, nm_r eg (br_f (by decide) (br_f (by decide) (br_f (by decide) (br_f (by decide) (br_f (by decide) (br_f (by decide) (br_f (by decide) (br_f (by decide) (br_f (by decide) (br_t rfl ⟨b2, br_t (by rw [b3]; exact a1) hp⟩))))))))))⟩⟩
      simp [hp_tk, hin, k] at h
      obtain ⟨t, t1, t2, t3⟩ := h
      rw [t3] at a1
      exact nI_nlt (b := 1) t1 (by omega) a1
    · by_cases a2 : 15 < a i
      · refine Or.inr ⟨fun h => ?_, fun post hp => br_f c0 ⟨b2, nm_r eg (br_f (by decide) (br_f (by decide) (br_f (by decide) (br_f (by decide) (br_f (by decide) (br_f (by decide) (br_f (by decide) (br_f (by decide) (br_f (by decide) (br_t rfl ⟨b2, br_f (by rw [b3]; exact a1) ⟨b2, br_t (by rw [b3]; exact a2) hp⟩⟩))))))))))⟩⟩
        simp [hp_tk, hin, k] at h
        obtain ⟨t, t1, t2, t3⟩ := h
        rw [t3] at a2
        exact hp_15 t2 a2
      · refine Or.inl ⟨?_, fs, tf, xot, xop, hc, I1, fun post hp => ?_⟩
        · simp [hp_tk, hin, k]; exact hp_r1 a1 a2
        · rw [e1, e4, e5] at hp
          exact br_f c0 ⟨b2, nm_r eg (br_f (by decide) (br_f (by decide) (br_f (by decide) (br_f (by decide) (br_f (by decide) (br_f (by decide) (br_f (by decide) (br_f (by decide) (br_f (by decide) (br_t rfl ⟨b2, br_f (by rw [b3]; exact a1) ⟨b2, br_f (by rw [b3]; exact a2) hp⟩⟩))))))))))⟩
  · have eg : g (nI i).toNatClampNeg = 10 := by rw [b3]; exact k
    have hol := hp_ocle (g := g) i
    have hb : ∀ l, l < hp_oc g i → hp_pt g i l ≤ 3 := fun l hl => ((hp_H i K).2.2.2.2 l hl).2.2.2.2.2.2.1
    have wk : ∀ r : Int32, ((r = 1 ∧ ∃ l, l < hp_oc g i ∧ hp_pt g i l = 2) ∨ (r = 0 ∧ ∀ l, l < hp_oc g i → hp_pt g i l ≠ 2)) → ∀ post : Int32 → Prop, post r → wpX_isInsideCatch post (cm, ct, nI n, 0, 0, nI (hp_oc g i), nI (hp_in g i), nI (hp_fn g i), nI hc, dd, pp, ac, tl, st, rs, ut, cr, fr, g, a, fs, tf, xot, xop, ft, fp, fy, tr) := fun r hr post hp => ⟨_, xk_in (c := 0) (by omega) i2 hb hr post hp (hp_oc g i + 1) 0 (Nat.zero_le _) (by omega) (fun m hm => absurd hm (Nat.not_lt_zero _))⟩
    by_cases hl : ∃ l, l < hp_oc g i ∧ hp_pt g i l = 2
    · refine Or.inl ⟨?_, fs, tf, xot, xop, hc, I1, fun post hp => ?_⟩
      · simp [hp_tk, hin, k]; exact hl
      · rw [e1, e4, e5] at hp
        exact br_f c0 ⟨b2, nm_r eg (br_f (by decide) (br_f (by decide) (br_f (by decide) (br_f (by decide) (br_f (by decide) (br_f (by decide) (br_f (by decide) (br_f (by decide) (br_f (by decide) (br_f (by decide) (br_t rfl (wk 1 (Or.inl ⟨rfl, hl⟩) _ ⟨hp_nb1, hp⟩))))))))))))⟩
    · refine Or.inr ⟨fun h => ?_, fun post hp => br_f c0 ⟨b2, nm_r eg (br_f (by decide) (br_f (by decide) (br_f (by decide) (br_f (by decide) (br_f (by decide) (br_f (by decide) (br_f (by decide) (br_f (by decide) (br_f (by decide) (br_f (by decide) (br_t rfl (wk 0 (Or.inr ⟨rfl, fun l h1 h2 => hl ⟨l, h1, h2⟩⟩) _ ⟨hp_nb0, hp⟩))))))))))))⟩⟩
      simp [hp_tk, hin, k] at h
      exact hl h
end HX
end
section
section HX2
variable {g a fs tf xot xop ft fp fy tr : Nat → Int32} {n i hc : Nat} {cm ct cp cf xo xi xs xh dd pp ac tl st rs ut cr fr : Int32}
theorem xk_1 (hi : i < 32) (hin : hp_in g i = 1) (k : g i = 1) : ((hp_tk g a i ∧ ∃ (fs' tf' xot' xop' : Nat → Int32) (hc' : Nat), cx_I g a (i + 1) fs' tf' xot' xop' hc' ∧ ∀ post : Int32 → SX → Prop, post 1 (cm, ct, nI n, 0, 0, nI (hp_oc g (i + 1)), nI (hp_in g (i + 1)), nI (hp_fn g (i + 1)), nI hc', dd, pp, ac, tl, st, rs, ut, cr, fr, g, a, fs', tf', xot', xop', ft, fp, fy, tr) → wpX_acceptToken post (cm, ct, nI n, 0, 0, nI (hp_oc g i), nI (hp_in g i), nI (hp_fn g i), nI hc, dd, pp, ac, tl, st, rs, ut, cr, fr, g, a, fs, tf, xot, xop, ft, fp, fy, tr) (nI i)) ∨ (¬ hp_tk g a i ∧ ∀ post : Int32 → SX → Prop, post 0 (cm, ct, nI n, 0, 0, nI (hp_oc g i), nI (hp_in g i), nI (hp_fn g i), nI hc, dd, pp, ac, tl, st, rs, ut, cr, fr, g, a, fs, tf, xot, xop, ft, fp, fy, tr) → wpX_acceptToken post (cm, ct, nI n, 0, 0, nI (hp_oc g i), nI (hp_in g i), nI (hp_fn g i), nI hc, dd, pp, ac, tl, st, rs, ut, cr, fr, g, a, fs, tf, xot, xop, ft, fp, fy, tr) (nI i))) := by
  have b2 : vp_in (nI i) 32 := vp_in_nI (by omega) (by omega)
  have b3 : (nI i).toNatClampNeg = i := nI_clamp (by omega)
  have c0 : ¬ nI (hp_in g i) = 0 := by rw [hin]; decide
  have eg : g (nI i).toNatClampNeg = 1 := by rw [b3]; exact k
  exact Or.inr ⟨by simp [hp_tk, hin, k], fun post hp => br_f c0 ⟨b2, nm_r eg (br_t (by decide) hp)⟩⟩
theorem xk_2 (hi : i < 32) (K : ow_K g a i) (I : cx_I g a i fs tf xot xop hc) (hin : hp_in g i = 1) (k : g i = 2) : ((hp_tk g a i ∧ ∃ (fs' tf' xot' xop' : Nat → Int32) (hc' : Nat), cx_I g a (i + 1) fs' tf' xot' xop' hc' ∧ ∀ post : Int32 → SX → Prop, post 1 (cm, ct, nI n, 0, 0, nI (hp_oc g (i + 1)), nI (hp_in g (i + 1)), nI (hp_fn g (i + 1)), nI hc', dd, pp, ac, tl, st, rs, ut, cr, fr, g, a, fs', tf', xot', xop', ft, fp, fy, tr) → wpX_acceptToken post (cm, ct, nI n, 0, 0, nI (hp_oc g i), nI (hp_in g i), nI (hp_fn g i), nI hc, dd, pp, ac, tl, st, rs, ut, cr, fr, g, a, fs, tf, xot, xop, ft, fp, fy, tr) (nI i)) ∨ (¬ hp_tk g a i ∧ ∀ post : Int32 → SX → Prop, post 0 (cm, ct, nI n, 0, 0, nI (hp_oc g i), nI (hp_in g i), nI (hp_fn g i), nI hc, dd, pp, ac, tl, st, rs, ut, cr, fr, g, a, fs, tf, xot, xop, ft, fp, fy, tr) → wpX_acceptToken post (cm, ct, nI n, 0, 0, nI (hp_oc g i), nI (hp_in g i), nI (hp_fn g i), nI hc, dd, pp, ac, tl, st, rs, ut, cr, fr, g, a, fs, tf, xot, xop, ft, fp, fy, tr) (nI i))) := by
  obtain ⟨i1, i2, i3, i4, i5, i6, i7⟩ := I
  have b2 : vp_in (nI i) 32 := vp_in_nI (by omega) (by omega)
  have b3 : (nI i).toNatClampNeg = i := nI_clamp (by omega)
  have c0 : ¬ nI (hp_in g i) = 0 := by rw [hin]; decide
  have eg : g (nI i).toNatClampNeg = 2 := by rw [b3]; exact k
  have hol := hp_ocle (g := g) i
  rcases Nat.eq_zero_or_pos (hp_oc g i) with z | z
  · obtain ⟨e1, e2, e3, e4, e5⟩ := hp_s2a k z
    refine Or.inl ⟨by simp [hp_tk, hin, k, z], fs, tf, xot, xop, hc, ⟨by rw [e1]; exact fun l hl => absurd hl (Nat.not_lt_zero _), by rw [e1]; exact fun l hl => absurd hl (Nat.not_lt_zero _), cx_fs i3 (by rw [k]; decide), cx_Tn hi (fun t h => by have := h.2.1; omega) i4, i5, cx_Cn i6 (by rw [k]; decide), cx_ex i7⟩, fun post hp => ?_⟩
    rw [e1, e4, e5] at hp
    rw [z] 
    exact br_f c0 ⟨b2, nm_r eg (br_f (by decide) (br_f (by decide) (br_t rfl (br_t rfl ⟨hp_nb1, hp⟩))))⟩
  · obtain ⟨e1, e2, e3, e4, e5⟩ := hp_s2b k z
    obtain ⟨m, hm⟩ : ∃ m, hp_oc g i = m + 1 := ⟨hp_oc g i - 1, by omega⟩
    have c1 : ¬ nI (hp_oc g i) = 0 := nI_ne0 (by omega) (by omega)
    have c2 : nI (hp_oc g i) - 1 = nI m := by rw [hm]; exact nI_pred m
    have c3 : vp_in (nI m) 32 := vp_in_nI (by omega) (by omega)
    have c4 : (nI m).toNatClampNeg = m := nI_clamp (by omega)
    have hpm := i2 m (by omega)
    have hb := ((hp_H i K).2.2.2.2 m (by omega))
    have em : hp_oc g i - 1 = m := by omega
    by_cases e : hp_pt g i m = 1
    · refine Or.inr ⟨by simp [hp_tk, hin, k, em, e]; omega, fun post hp => br_f c0 ⟨b2, nm_r eg (br_f (by decide) (br_f (by decide) (br_t rfl (br_f c1 (nm_r c2 ⟨c3, br_t (by rw [c4, hpm, e]; rfl) ⟨hp_nb0, hp⟩⟩)))))⟩⟩
    · have hO : ow_O g (hp_ot g i m) i := ⟨Or.inl k, z, by rw [em]⟩
      refine Or.inl ⟨by simp [hp_tk, hin, k, em, e]; omega, fs, upd tf i (nI (hp_ot g i m)), xot, xop, hc, ⟨by rw [e1, e2]; exact fun l hl => i1 l (by omega), by rw [e1, e3]; exact fun l hl => i2 l (by omega), cx_fs i3 (by rw [k]; decide), cx_To hi (by have := hb.1; omega) hO i4, i5, cx_Cn i6 (by rw [k]; decide), cx_ex i7⟩, fun post hp => ?_⟩
      rw [e1, e4, e5, em] at hp
      have hb7 := hb.2.2.2.2.2.2.1
      exact br_f c0 ⟨b2, nm_r eg (br_f (by decide) (br_f (by decide) (br_t rfl (br_f c1 (nm_r c2 ⟨c3, br_f (by rw [c4, hpm]; exact fun h => e (hp_eq (b := 1) h (by omega) (by omega))) ⟨c3, b2, nm_r (by rw [b3, c4, i1 m (by omega)]) ⟨hp_nb1, hp⟩⟩⟩)))))⟩
theorem xk_3 (hi : i < 32) (I : cx_I g a i fs tf xot xop hc) (hin : hp_in g i = 1) (k : g i = 3) : ((hp_tk g a i ∧ ∃ (fs' tf' xot' xop' : Nat → Int32) (hc' : Nat), cx_I g a (i + 1) fs' tf' xot' xop' hc' ∧ ∀ post : Int32 → SX → Prop, post 1 (cm, ct, nI n, 0, 0, nI (hp_oc g (i + 1)), nI (hp_in g (i + 1)), nI (hp_fn g (i + 1)), nI hc', dd, pp, ac, tl, st, rs, ut, cr, fr, g, a, fs', tf', xot', xop', ft, fp, fy, tr) → wpX_acceptToken post (cm, ct, nI n, 0, 0, nI (hp_oc g i), nI (hp_in g i), nI (hp_fn g i), nI hc, dd, pp, ac, tl, st, rs, ut, cr, fr, g, a, fs, tf, xot, xop, ft, fp, fy, tr) (nI i)) ∨ (¬ hp_tk g a i ∧ ∀ post : Int32 → SX → Prop, post 0 (cm, ct, nI n, 0, 0, nI (hp_oc g i), nI (hp_in g i), nI (hp_fn g i), nI hc, dd, pp, ac, tl, st, rs, ut, cr, fr, g, a, fs, tf, xot, xop, ft, fp, fy, tr) → wpX_acceptToken post (cm, ct, nI n, 0, 0, nI (hp_oc g i), nI (hp_in g i), nI (hp_fn g i), nI hc, dd, pp, ac, tl, st, rs, ut, cr, fr, g, a, fs, tf, xot, xop, ft, fp, fy, tr) (nI i))) := by
  obtain ⟨i1, i2, i3, i4, i5, i6, i7⟩ := I
  have b2 : vp_in (nI i) 32 := vp_in_nI (by omega) (by omega)
  have b3 : (nI i).toNatClampNeg = i := nI_clamp (by omega)
  have c0 : ¬ nI (hp_in g i) = 0 := by rw [hin]; decide
  have eg : g (nI i).toNatClampNeg = 3 := by rw [b3]; exact k
  have hol := hp_ocle (g := g) i
  obtain ⟨e1, e2, e3, e4, e5⟩ := hp_s3 k
  have c3 : vp_in (nI (hp_oc g i)) 32 := vp_in_nI (by omega) (by omega)
  have c4 : (nI (hp_oc g i)).toNatClampNeg = hp_oc g i := nI_clamp (by omega)
  refine Or.inl ⟨by simp [hp_tk, hin, k], fs, tf, upd xot (hp_oc g i) (nI i), upd xop (hp_oc g i) 1, hc, ⟨?_, ?_, cx_fs i3 (by rw [k]; decide), cx_Tn hi (fun t => cx_no (by rw [k]; decide) (by rw [k]; decide) (by rw [k]; decide)) i4, i5, cx_Cn i6 (by rw [k]; decide), cx_ex i7⟩, fun post hp => ?_⟩
  · rw [e1, e2]
    intro l hl
    by_cases e : l = hp_oc g i
    · rw [e, hp_us, hp_uS]
    · rw [hp_un e, hp_uN e]; exact i1 l (by omega)
  · rw [e1, e3]
    intro l hl
    by_cases e : l = hp_oc g i
    · rw [e, hp_us, hp_uS]; rfl
    · rw [hp_un e, hp_uN e]; exact i2 l (by omega)
  · rw [e1, e4, e5] at hp
    exact br_f c0 ⟨b2, nm_r eg (br_f (by decide) (br_f (by decide) (br_f (by decide) (br_t rfl (br_t (nI_lt (b := 32) (by omega) (by decide)) ⟨c3, nm_r (by rw [c4]) ⟨c3, nm_r (by rw [c4]) (nm_r (nI_1 _) ⟨hp_nb1, hp⟩)⟩⟩)))))⟩
/-- acceptClause: the part q (2 or 3) begins, or not -/
theorem xk_cl (hi : i < 32) (K : ow_K g a i) (I : cx_I g a i fs tf xot xop hc) {q : Nat} (hq : (q = 2 ∧ g i = 4) ∨ (q = 3 ∧ g i = 5)) :
    ((0 < hp_oc g i ∧ hp_pt g i (hp_oc g i - 1) ≠ 3) ∧ ∃ (tf' xop' : Nat → Int32), cx_I g a (i + 1) fs tf' xot xop' hc ∧ ∀ post : Int32 → SX → Prop, post 1 (cm, ct, nI n, 0, 0, nI (hp_oc g i), nI (hp_in g i), nI (hp_fn g i), nI hc, dd, pp, ac, tl, st, rs, ut, cr, fr, g, a, fs, tf', xot, xop', ft, fp, fy, tr) → wpX_acceptClause post (cm, ct, nI n, 0, 0, nI (hp_oc g i), nI (hp_in g i), nI (hp_fn g i), nI hc, dd, pp, ac, tl, st, rs, ut, cr, fr, g, a, fs, tf, xot, xop, ft, fp, fy, tr) (nI i) (nI q)) ∨
    (¬ (0 < hp_oc g i ∧ hp_pt g i (hp_oc g i - 1) ≠ 3) ∧ ∀ post : Int32 → SX → Prop, post 0 (cm, ct, nI n, 0, 0, nI (hp_oc g i), nI (hp_in g i), nI (hp_fn g i), nI hc, dd, pp, ac, tl, st, rs, ut, cr, fr, g, a, fs, tf, xot, xop, ft, fp, fy, tr) → wpX_acceptClause post (cm, ct, nI n, 0, 0, nI (hp_oc g i), nI (hp_in g i), nI (hp_fn g i), nI hc, dd, pp, ac, tl, st, rs, ut, cr, fr, g, a, fs, tf, xot, xop, ft, fp, fy, tr) (nI i) (nI q)) := by
  obtain ⟨i1, i2, i3, i4, i5, i6, i7⟩ := I
  have b2 : vp_in (nI i) 32 := vp_in_nI (by omega) (by omega)
  have b3 : (nI i).toNatClampNeg = i := nI_clamp (by omega)
  have hol := hp_ocle (g := g) i
  rcases Nat.eq_zero_or_pos (hp_oc g i) with z | z
  · right
    rw [z]
    exact ⟨by omega, fun post hp => br_t rfl hp⟩
  · obtain ⟨m, hm⟩ : ∃ m, hp_oc g i = m + 1 := ⟨hp_oc g i - 1, by omega⟩
    have c1 : ¬ nI (hp_oc g i) = 0 := nI_ne0 (by omega) (by omega)
    have c2 : nI (hp_oc g i) - 1 = nI m := by rw [hm]; exact nI_pred m
    have c3 : vp_in (nI m) 32 := vp_in_nI (by omega) (by omega)
    have c4 : (nI m).toNatClampNeg = m := nI_clamp (by omega)
    have hpm := i2 m (by omega)
    have hb := ((hp_H i K).2.2.2.2 m (by omega))
    have hb1 := hb.1
    have hb7 := hb.2.2.2.2.2.2.1
    have em : hp_oc g i - 1 = m := by omega
    by_cases e : hp_pt g i m = 3
    · right
      exact ⟨by rw [em]; exact fun h => h.2 e, fun post hp => br_f c1 (nm_r c2 ⟨c3, br_t (by rw [c4, hpm, e]; rfl) hp⟩)⟩
    · left
      have hg : g i = 4 ∨ g i = 5 := by rcases hq with h | h; exact Or.inl h.2; exact Or.inr h.2
      have hO : ow_O g (hp_ot g i m) i := ⟨Or.inr hg, z, by rw [em]⟩
      have es : hp_oc g (i + 1) = hp_oc g i ∧ hp_ot g (i + 1) = hp_ot g i ∧ hp_pt g (i + 1) = hp_u (hp_pt g i) m q := by
        rcases hq with ⟨rfl, k⟩ | ⟨rfl, k⟩
        · obtain ⟨e1, e2, e3, -⟩ := hp_s4 k
          rw [em] at e3; exact ⟨e1, e2, e3⟩
        · obtain ⟨e1, e2, e3, -⟩ := hp_s5 k
          rw [em] at e3; exact ⟨e1, e2, e3⟩
      obtain ⟨e1, e2, e3⟩ := es
      have k1 : g i ≠ 1 := by rcases hg with h | h <;> rw [h] <;> decide
      have k11 : g i ≠ 11 := by rcases hg with h | h <;> rw [h] <;> decide
      refine ⟨⟨z, by rw [em]; exact e⟩, upd tf i (nI (hp_ot g i m)), upd xop m (nI q), ⟨by rw [e1, e2]; exact i1, ?_, cx_fs i3 k1, cx_To hi (by omega) hO i4, i5, cx_Cn i6 k11, cx_ex i7⟩, fun post hp => ?_⟩
      · rw [e1, e3]
        intro l hl
        by_cases el : l = m
        · rw [el, hp_us, hp_uS]
        · rw [hp_un el, hp_uN el]; exact i2 l hl
      · exact br_f c1 (nm_r c2 ⟨c3, br_f (by rw [c4, hpm]; exact fun h => e (hp_eq (b := 3) h (by omega) (by omega))) ⟨c3, nm_r (by rw [c4]) ⟨c3, b2, nm_r (by rw [b3, c4, i1 m (by omega)]) hp⟩⟩⟩)
theorem xk_4 (hi : i < 32) (K : ow_K g a i) (I : cx_I g a i fs tf xot xop hc) (hin : hp_in g i = 1) (k : g i = 4) : ((hp_tk g a i ∧ ∃ (fs' tf' xot' xop' : Nat → Int32) (hc' : Nat), cx_I g a (i + 1) fs' tf' xot' xop' hc' ∧ ∀ post : Int32 → SX → Prop, post 1 (cm, ct, nI n, 0, 0, nI (hp_oc g (i + 1)), nI (hp_in g (i + 1)), nI (hp_fn g (i + 1)), nI hc', dd, pp, ac, tl, st, rs, ut, cr, fr, g, a, fs', tf', xot', xop', ft, fp, fy, tr) → wpX_acceptToken post (cm, ct, nI n, 0, 0, nI (hp_oc g i), nI (hp_in g i), nI (hp_fn g i), nI hc, dd, pp, ac, tl, st, rs, ut, cr, fr, g, a, fs, tf, xot, xop, ft, fp, fy, tr) (nI i)) ∨ (¬ hp_tk g a i ∧ ∀ post : Int32 → SX → Prop, post 0 (cm, ct, nI n, 0, 0, nI (hp_oc g i), nI (hp_in g i), nI (hp_fn g i), nI hc, dd, pp, ac, tl, st, rs, ut, cr, fr, g, a, fs, tf, xot, xop, ft, fp, fy, tr) → wpX_acceptToken post (cm, ct, nI n, 0, 0, nI (hp_oc g i), nI (hp_in g i), nI (hp_fn g i), nI hc, dd, pp, ac, tl, st, rs, ut, cr, fr, g, a, fs, tf, xot, xop, ft, fp, fy, tr) (nI i))) := by
  have b2 : vp_in (nI i) 32 := vp_in_nI (by omega) (by omega)
  have b3 : (nI i).toNatClampNeg = i := nI_clamp (by omega)
  have c0 : ¬ nI (hp_in g i) = 0 := by rw [hin]; decide
  have eg : g (nI i).toNatClampNeg = 4 := by rw [b3]; exact k
  obtain ⟨e1, e2, e3, e4, e5⟩ := hp_s4 k
  by_cases a1 : a i < 0
  · refine Or.inr ⟨fun h => ?_, fun post hp => br_f c0 ⟨b2, nm_r eg (br_f (by decide) (br_f (by decide) (br_f (by decide) (br_f (by decide) (br_t rfl ⟨b2, br_t (by rw [b3]; exact a1) hp⟩)))))⟩⟩
    simp [hp_tk, hin, k] at h
    obtain ⟨-, -, t, t2, t3⟩ := h
    rw [t3] at a1
    exact nI_pos (by omega) a1
  by_cases a2 : 15 < a i
  · refine Or.inr ⟨fun h => ?_, fun post hp => br_f c0 ⟨b2, nm_r eg (br_f (by decide) (br_f (by decide) (br_f (by decide) (br_f (by decide) (br_t rfl ⟨b2, br_f (by rw [b3]; exact a1) ⟨b2, br_t (by rw [b3]; exact a2) hp⟩⟩)))))⟩⟩
    simp [hp_tk, hin, k] at h
    obtain ⟨-, -, t, t2, t3⟩ := h
    rw [t3] at a2
    exact hp_15 t2 a2
  rcases xk_cl (cm := cm) (ct := ct) (dd := dd) (pp := pp) (ac := ac) (tl := tl) (st := st) (rs := rs) (ut := ut) (cr := cr) (fr := fr) (ft := ft) (fp := fp) (fy := fy) (tr := tr) hi K I (q := 2) (Or.inl ⟨rfl, k⟩) with ⟨q1, tf', xop', q2, q3⟩ | ⟨q1, q2⟩
  · refine Or.inl ⟨?_, fs, tf', xot, xop', hc, q2, fun post hp => ?_⟩
    · simp [hp_tk, hin, k]; exact ⟨q1.1, q1.2, hp_r0 a1 a2⟩
    · rw [e1, e4, e5] at hp
      exact br_f c0 ⟨b2, nm_r eg (br_f (by decide) (br_f (by decide) (br_f (by decide) (br_f (by decide) (br_t rfl ⟨b2, br_f (by rw [b3]; exact a1) ⟨b2, br_f (by rw [b3]; exact a2) (q3 _ (br_f (by decide) hp))⟩⟩)))))⟩
  · refine Or.inr ⟨fun h => ?_, fun post hp => br_f c0 ⟨b2, nm_r eg (br_f (by decide) (br_f (by decide) (br_f (by decide) (br_f (by decide) (br_t rfl ⟨b2, br_f (by rw [b3]; exact a1) ⟨b2, br_f (by rw [b3]; exact a2) (q2 _ (br_t rfl hp))⟩⟩)))))⟩⟩
    simp [hp_tk, hin, k] at h
    exact q1 ⟨h.1, h.2.1⟩
theorem xk_5 (hi : i < 32) (K : ow_K g a i) (I : cx_I g a i fs tf xot xop hc) (hin : hp_in g i = 1) (k : g i = 5) : ((hp_tk g a i ∧ ∃ (fs' tf' xot' xop' : Nat → Int32) (hc' : Nat), cx_I g a (i + 1) fs' tf' xot' xop' hc' ∧ ∀ post : Int32 → SX → Prop, post 1 (cm, ct, nI n, 0, 0, nI (hp_oc g (i + 1)), nI (hp_in g (i + 1)), nI (hp_fn g (i + 1)), nI hc', dd, pp, ac, tl, st, rs, ut, cr, fr, g, a, fs', tf', xot', xop', ft, fp, fy, tr) → wpX_acceptToken post (cm, ct, nI n, 0, 0, nI (hp_oc g i), nI (hp_in g i), nI (hp_fn g i), nI hc, dd, pp, ac, tl, st, rs, ut, cr, fr, g, a, fs, tf, xot, xop, ft, fp, fy, tr) (nI i)) ∨ (¬ hp_tk g a i ∧ ∀ post : Int32 → SX → Prop, post 0 (cm, ct, nI n, 0, 0, nI (hp_oc g i), nI (hp_in g i), nI (hp_fn g i), nI hc, dd, pp, ac, tl, st, rs, ut, cr, fr, g, a, fs, tf, xot, xop, ft, fp, fy, tr) → wpX_acceptToken post (cm, ct, nI n, 0, 0, nI (hp_oc g i), nI (hp_in g i), nI (hp_fn g i), nI hc, dd, pp, ac, tl, st, rs, ut, cr, fr, g, a, fs, tf, xot, xop, ft, fp, fy, tr) (nI i))) := by
  have b2 : vp_in (nI i) 32 := vp_in_nI (by omega) (by omega)
  have b3 : (nI i).toNatClampNeg = i := nI_clamp (by omega)
  have c0 : ¬ nI (hp_in g i) = 0 := by rw [hin]; decide
  have eg : g (nI i).toNatClampNeg = 5 := by rw [b3]; exact k
  obtain ⟨e1, e2, e3, e4, e5⟩ := hp_s5 k
  rcases xk_cl (cm := cm) (ct := ct) (dd := dd) (pp := pp) (ac := ac) (tl := tl) (st := st) (rs := rs) (ut := ut) (cr := cr) (fr := fr) (ft := ft) (fp := fp) (fy := fy) (tr := tr) hi K I (q := 3) (Or.inr ⟨rfl, k⟩) with ⟨q1, tf', xop', q2, q3⟩ | ⟨q1, q2⟩
  · refine Or.inl ⟨?_, fs, tf', xot, xop', hc, q2, fun post hp => ?_⟩
    · simp [hp_tk, hin, k]; exact ⟨q1.1, q1.2⟩
    · rw [e1, e4, e5] at hp
      exact br_f c0 ⟨b2, nm_r eg (br_f (by decide) (br_f (by decide) (br_f (by decide) (br_f (by decide) (br_f (by decide) (br_t rfl (q3 _ ⟨hp_nb1, hp⟩)))))))⟩
  · refine Or.inr ⟨fun h => ?_, fun post hp => br_f c0 ⟨b2, nm_r eg (br_f (by decide) (br_f (by decide) (br_f (by decide) (br_f (by decide) (br_f (by decide) (br_t rfl (q2 _ ⟨hp_nb0, hp⟩)))))))⟩⟩
    simp [hp_tk, hin, k] at h
    exact q1 ⟨h.1, h.2⟩
theorem xk_11 (hi : i < 32) (K : ow_K g a i) (I : cx_I g a i fs tf xot xop hc) (hin : hp_in g i = 1) (k : g i = 11) : ((hp_tk g a i ∧ ∃ (fs' tf' xot' xop' : Nat → Int32) (hc' : Nat), cx_I g a (i + 1) fs' tf' xot' xop' hc' ∧ ∀ post : Int32 → SX → Prop, post 1 (cm, ct, nI n, 0, 0, nI (hp_oc g (i + 1)), nI (hp_in g (i + 1)), nI (hp_fn g (i + 1)), nI hc', dd, pp, ac, tl, st, rs, ut, cr, fr, g, a, fs', tf', xot', xop', ft, fp, fy, tr) → wpX_acceptToken post (cm, ct, nI n, 0, 0, nI (hp_oc g i), nI (hp_in g i), nI (hp_fn g i), nI hc, dd, pp, ac, tl, st, rs, ut, cr, fr, g, a, fs, tf, xot, xop, ft, fp, fy, tr) (nI i)) ∨ (¬ hp_tk g a i ∧ ∀ post : Int32 → SX → Prop, post 0 (cm, ct, nI n, 0, 0, nI (hp_oc g i), nI (hp_in g i), nI (hp_fn g i), nI hc, dd, pp, ac, tl, st, rs, ut, cr, fr, g, a, fs, tf, xot, xop, ft, fp, fy, tr) → wpX_acceptToken post (cm, ct, nI n, 0, 0, nI (hp_oc g i), nI (hp_in g i), nI (hp_fn g i), nI hc, dd, pp, ac, tl, st, rs, ut, cr, fr, g, a, fs, tf, xot, xop, ft, fp, fy, tr) (nI i))) := by
  obtain ⟨i1, i2, i3, i4, i5, i6, i7⟩ := I
  have b2 : vp_in (nI i) 32 := vp_in_nI (by omega) (by omega)
  have b3 : (nI i).toNatClampNeg = i := nI_clamp (by omega)
  have c0 : ¬ nI (hp_in g i) = 0 := by rw [hin]; decide
  have eg : g (nI i).toNatClampNeg = 11 := by rw [b3]; exact k
  have f4 := (hp_H i K).2.1
  obtain ⟨e1, e2, e3, e4, e5⟩ := hp_s6 (g := g) (i := i) (by unfold hp_pl; simp [k])
  by_cases a1 : a i < nI (hp_fn g i)
  · refine Or.inr ⟨fun h => ?_, fun post hp => br_f c0 ⟨b2, nm_r eg (br_f (by decide) (br_f (by decide) (br_f (by decide) (br_f (by decide) (br_f (by decide) (br_f (by decide) (br_f (by decide) (br_f (by decide) (br_f (by decide) (br_f (by decide) (br_f (by decide) (br_t rfl ⟨b2, br_t (by rw [b3]; exact a1) ⟨hp_nb0, hp⟩⟩))))))))))))⟩⟩
    simp [hp_tk, hin, k] at h
    obtain ⟨f, t1, t2, t3⟩ := h
    rw [t3] at a1
    exact nI_nlt t1 (by omega) a1
  by_cases a2 : a i < 4
  · obtain ⟨f, t1, t2, t3⟩ := hp_r3 (by omega) a1 a2
    have tk : hp_tk g a i := by simp [hp_tk, hin, k]; exact ⟨f, t1, t2, t3⟩
    have nO : ∀ t, ¬ ow_O g t i := fun t => cx_no (by rw [k]; decide) (by rw [k]; decide) (by rw [k]; decide)
    rcases Nat.lt_or_ge hc f with z | z
    · refine Or.inl ⟨tk, fs, tf, xot, xop, f, ⟨by rw [e1, e2]; exact i1, by rw [e1, e3]; exact i2, cx_fs i3 (by rw [k]; decide), cx_Tn hi nO i4, t2, fun j hj hg f' hf' e => ?_, Or.inr ⟨i, by omega, k, t3⟩⟩, fun post hp => ?_⟩
      · by_cases ej : j = i
        · rw [ej, t3] at e
          have := hp_eq e (by omega) (by omega)
          omega
        · have := i6 j (by omega) hg f' hf' e
          omega
      · rw [e1, e4, e5] at hp
        refine br_f c0 ⟨b2, nm_r eg (br_f (by decide) (br_f (by decide) (br_f (by decide) (br_f (by decide) (br_f (by decide) (br_f (by decide) (br_f (by decide) (br_f (by decide) (br_f (by decide) (br_f (by decide) (br_f (by decide) (br_t rfl ⟨b2, ?_⟩))))))))))))⟩
        rw [b3, t3]
        rw [t3] at a1 a2
        exact br_f a1 (br_t a2 (br_f (nI_ge z (by omega)) ⟨hp_nb1, hp⟩))
    · refine Or.inl ⟨tk, fs, tf, xot, xop, hc, ⟨by rw [e1, e2]; exact i1, by rw [e1, e3]; exact i2, cx_fs i3 (by rw [k]; decide), cx_Tn hi nO i4, i5, fun j hj hg f' hf' e => ?_, cx_ex i7⟩, fun post hp => ?_⟩
      · by_cases ej : j = i
        · rw [ej, t3] at e
          have := hp_eq e (by omega) (by omega)
          omega
        · exact i6 j (by omega) hg f' hf' e
      · rw [e1, e4, e5] at hp
        refine br_f c0 ⟨b2, nm_r eg (br_f (by decide) (br_f (by decide) (br_f (by decide) (br_f (by decide) (br_f (by decide) (br_f (by decide) (br_f (by decide) (br_f (by decide) (br_f (by decide) (br_f (by decide) (br_f (by decide) (br_t rfl ⟨b2, ?_⟩))))))))))))⟩
        rw [b3, t3]
        rw [t3] at a1 a2
        exact br_f a1 (br_t a2 (br_t (nI_le z (by omega)) ⟨hp_nb1, hp⟩))
  · refine Or.inr ⟨fun h => ?_, fun post hp => br_f c0 ⟨b2, nm_r eg (br_f (by decide) (br_f (by decide) (br_f (by decide) (br_f (by decide) (br_f (by decide) (br_f (by decide) (br_f (by decide) (br_f (by decide) (br_f (by decide) (br_f (by decide) (br_f (by decide) (br_t rfl ⟨b2, br_f (by rw [b3]; exact a1) (br_f (by rw [b3]; exact a2) ⟨hp_nb0, hp⟩)⟩))))))))))))⟩⟩
    simp [hp_tk, hin, k] at h
    obtain ⟨f, t1, t2, t3⟩ := h
    rw [t3] at a2
    exact a2 (nI_lt (b := 4) (by omega) (by decide))
theorem xk_all (hi : i < 32) (K : ow_K g a i) (I : cx_I g a i fs tf xot xop hc) (hk : ck_k (g i)) : ((hp_tk g a i ∧ ∃ (fs' tf' xot' xop' : Nat → Int32) (hc' : Nat), cx_I g a (i + 1) fs' tf' xot' xop' hc' ∧ ∀ post : Int32 → SX → Prop, post 1 (cm, ct, nI n, 0, 0, nI (hp_oc g (i + 1)), nI (hp_in g (i + 1)), nI (hp_fn g (i + 1)), nI hc', dd, pp, ac, tl, st, rs, ut, cr, fr, g, a, fs', tf', xot', xop', ft, fp, fy, tr) → wpX_acceptToken post (cm, ct, nI n, 0, 0, nI (hp_oc g i), nI (hp_in g i), nI (hp_fn g i), nI hc, dd, pp, ac, tl, st, rs, ut, cr, fr, g, a, fs, tf, xot, xop, ft, fp, fy, tr) (nI i)) ∨ (¬ hp_tk g a i ∧ ∀ post : Int32 → SX → Prop, post 0 (cm, ct, nI n, 0, 0, nI (hp_oc g i), nI (hp_in g i), nI (hp_fn g i), nI hc, dd, pp, ac, tl, st, rs, ut, cr, fr, g, a, fs, tf, xot, xop, ft, fp, fy, tr) → wpX_acceptToken post (cm, ct, nI n, 0, 0, nI (hp_oc g i), nI (hp_in g i), nI (hp_fn g i), nI hc, dd, pp, ac, tl, st, rs, ut, cr, fr, g, a, fs, tf, xot, xop, ft, fp, fy, tr) (nI i))) := by
  rcases hp_in01 (g := g) i with hin | hin
  · exact xk_0 hi K I hin
  · rcases hk with k | k | k | k | k | k | k | k | k | k | k
    · exact xk_1 hi hin k
    · exact xk_2 hi K I hin k
    · exact xk_3 hi I hin k
    · exact xk_4 hi K I hin k
    · exact xk_5 hi K I hin k
    · exact xk_pl hi I hin (Or.inl k) K
    · exact xk_pl hi I hin (Or.inr (Or.inl k)) K
    · exact xk_pl hi I hin (Or.inr (Or.inr (Or.inl k))) K
    · exact xk_pl hi I hin (Or.inr (Or.inr (Or.inr (Or.inl k)))) K
    · exact xk_pl hi I hin (Or.inr (Or.inr (Or.inr (Or.inr k)))) K
    · exact xk_11 hi K I hin k
end HX2
end
section
section HX3
variable {g a fs tf xot xop ft fp fy tr : Nat → Int32} {n i hc : Nat} {cm ct cp cf xo xi xs xh dd pp ac tl st rs ut cr fr : Int32}
theorem cx_wh (hn : n ≤ 32) (K : ow_K g a n) (I : cx_I g a n fs tf xot xop hc) : ow_G g a n ↔ (0 < hp_fn g n ∧ hp_in g n = 0 ∧ hc < hp_fn g n) := by
  obtain ⟨i1, i2, i3, i4, i5, i6, i7⟩ := I
  have H := hp_H n K
  constructor
  · intro G
    have f0 := H.2.2.2.1 G.2.2.2.1
    refine ⟨f0, G.2.2.1, ?_⟩
    rcases i7 with h | ⟨j, j1, j2, j3⟩
    · omega
    · obtain ⟨f, f1, f2, f3⟩ := G.2.2.2.2 j j1 j2
      rw [j3] at f3
      have := hp_eq f3 (by omega) (by have := H.2.1; omega)
      omega
  · intro ⟨h1, h2, h3⟩
    refine ⟨hn, K, h2, ?_, fun j hj hg => ?_⟩
    · rcases Nat.eq_zero_or_pos n with z | z
      · rw [z] at h1; simp [hp_fn] at h1
      · exact z
    · have tk := K j hj
      rcases tk with ⟨t1, t2, -⟩ | ⟨t0, t⟩
      · rw [hg] at t2; exact absurd t2 (by decide)
      · simp [hg] at t
        obtain ⟨f, f1, f2, f3⟩ := t
        exact ⟨f, f1, by have := i6 j hj hg f f2 f3; omega, f3⟩
theorem xk_loop (hn : n ≤ 32) (hk : ∀ j, j < n → ck_k (g j)) (post : Int32 → SX → Prop)
    (ha : ∀ (e : Nat) (xo xi xs xh : Int32) (fs tf xot xop : Nat → Int32), e < n → ow_K g a e → ¬ hp_tk g a e → post (nI e) (cm, ct, nI n, 0, 0, xo, xi, xs, xh, dd, pp, ac, tl, st, rs, ut, cr, fr, g, a, fs, tf, xot, xop, ft, fp, fy, tr))
    (hb : ∀ (xo xi xs xh : Int32) (fs tf xot xop : Nat → Int32), ow_K g a n → ¬ ow_G g a n → post (nI n) (cm, ct, nI n, 0, 0, xo, xi, xs, xh, dd, pp, ac, tl, st, rs, ut, cr, fr, g, a, fs, tf, xot, xop, ft, fp, fy, tr))
    (hcc : ∀ (xo xi xs xh : Int32) (fs tf xot xop : Nat → Int32), ow_G g a n → (∀ q, q < n → g q = 1 → fs (hp_fn g q) = nI q) → ow_T g tf n → post (-1) (cm, ct, nI n, 1, nI (hp_fn g n), xo, xi, xs, xh, dd, pp, ac, tl, st, rs, ut, cr, fr, g, a, fs, tf, xot, xop, ft, fp, fy, tr)) :
    ∀ (m i hc f : Nat) (fs tf xot xop : Nat → Int32), i + m = n → m < f → ow_K g a i → cx_I g a i fs tf xot xop hc → wX_compile_10 post f (nI i) cm ct (nI n) 0 0 (nI (hp_oc g i)) (nI (hp_in g i)) (nI (hp_fn g i)) (nI hc) dd pp ac tl st rs ut cr fr g a fs tf xot xop ft fp fy tr := by
  intro m
  induction m with
  | zero =>
    intro i hc f fs tf xot xop hi hf K I
    obtain ⟨f, rfl⟩ : ∃ f', f = f' + 1 := ⟨f - 1, by omega⟩
    have : i = n := by omega
    subst this
    have wh := cx_wh hn K I
    have H := hp_H i K
    have f4 := H.2.1
    have h3 := I.2.2.2.2.1
    refine br_t (nI_le (Nat.le_refl _) (by omega)) ?_
    rcases Nat.eq_zero_or_pos (hp_fn g i) with z | z
    · exact br_t (by rw [z]; decide) (br_t rfl (hb _ _ _ _ _ _ _ _ K fun G => by have := wh.mp G; omega))
    · refine br_f (nI_nle z (by omega)) ?_
      rcases hp_in01 (g := g) i with hin | hin
      · refine br_t (by rw [hin]; rfl) ?_
        rcases Nat.lt_or_ge hc (hp_fn g i) with y | y
        · exact br_f (nI_ge y (by omega)) (br_f (by decide) (hcc _ _ _ _ _ _ _ _ (wh.mpr ⟨z, hin, y⟩) I.2.2.1 I.2.2.2.1.1))
        · exact br_t (nI_le y (by omega)) (br_t rfl (hb _ _ _ _ _ _ _ _ K fun G => by have := wh.mp G; omega))
      · exact br_f (by rw [hin]; decide) (br_t rfl (hb _ _ _ _ _ _ _ _ K fun G => by have := wh.mp G; omega))
  | succ m ih =>
    intro i hc f fs tf xot xop hi hf K I
    obtain ⟨f, rfl⟩ : ∃ f', f = f' + 1 := ⟨f - 1, by omega⟩
    have b1 : ¬ nI n ≤ nI i := nI_ge (by omega) (by omega)
    rcases xk_all (cm := cm) (ct := ct) (dd := dd) (pp := pp) (ac := ac) (tl := tl) (st := st) (rs := rs) (ut := ut) (cr := cr) (fr := fr) (ft := ft) (fp := fp) (fy := fy) (tr := tr) (n := n) (by omega) K I (hk i (by omega)) with ⟨tk, fs', tf', xot', xop', hc', I', w⟩ | ⟨ntk, w⟩
    · refine br_f b1 (w _ (br_f (by decide) (nm_r (nI_1 i) (ih (i + 1) hc' f fs' tf' xot' xop' (by omega) (by omega) (fun j hj => ?_) I'))))
      by_cases e : j = i
      · rw [e]; exact tk
      · exact K j (by omega)
    · exact br_f b1 (w _ (br_t rfl (ha i _ _ _ _ _ _ _ _ (by omega) K ntk)))
theorem xk_22 (post : SX → Prop) (hp : ∀ tf : Nat → Int32, (∀ x, x < 32 → tf x = -1) → post (cm, ct, nI n, cp, cf, xo, xi, xs, xh, dd, pp, ac, tl, st, rs, ut, cr, fr, g, a, fs, tf, xot, xop, ft, fp, fy, tr)) : ∀ (f j : Nat) (tf : Nat → Int32), j ≤ 32 → 32 - j < f → (∀ x, x < j → tf x = -1) → wX_startParse_22 post cm ct (nI n) cp cf xo xi xs xh dd pp ac tl st rs ut cr fr f (nI j) g a fs tf xot xop ft fp fy tr := by
  intro f
  induction f with
  | zero => intro j tf _ h; omega
  | succ f ih =>
  intro j tf hj hf hl
  rcases Nat.lt_or_ge j 32 with z | z
  · have b3 : (nI j).toNatClampNeg = j := nI_clamp (by omega)
    refine br_f (nI_ge (b := 32) z (by decide)) ⟨vp_in_nI z (by omega), nm_r (by rw [b3]) (nm_r (nI_1 j) (ih (j + 1) _ (by omega) (by omega) (fun x hx => ?_)))⟩
    by_cases e : x = j
    · rw [e, hp_us]
    · rw [hp_un e]; exact hl x (by omega)
  · have : j = 32 := by omega
    subst this
    exact br_t (by decide) (hp tf hl)
theorem xk_w (hn : n ≤ 32) (hk : ∀ j, j < n → ck_k (g j)) (post : Int32 → SX → Prop)
    (ha : ∀ (e : Nat) (xo xi xs xh : Int32) (fs tf xot xop : Nat → Int32), e < n → ow_K g a e → ¬ hp_tk g a e → post (nI e) (cm, ct, nI n, 0, 0, xo, xi, xs, xh, dd, pp, ac, 0, 0, 0, 0, 0, 0, g, a, fs, tf, xot, xop, ft, fp, fy, tr))
    (hb : ∀ (xo xi xs xh : Int32) (fs tf xot xop : Nat → Int32), ow_K g a n → ¬ ow_G g a n → post (nI n) (cm, ct, nI n, 0, 0, xo, xi, xs, xh, dd, pp, ac, 0, 0, 0, 0, 0, 0, g, a, fs, tf, xot, xop, ft, fp, fy, tr))
    (hcc : ∀ (xo xi xs xh : Int32) (fs tf xot xop : Nat → Int32), ow_G g a n → (∀ q, q < n → g q = 1 → fs (hp_fn g q) = nI q) → ow_T g tf n → post (-1) (cm, ct, nI n, 1, nI (hp_fn g n), xo, xi, xs, xh, dd, pp, ac, 0, 0, 0, 0, 0, 0, g, a, fs, tf, xot, xop, ft, fp, fy, tr)) : wpX_compile post (cm, ct, nI n, cp, cf, xo, xi, xs, xh, dd, pp, ac, tl, st, rs, ut, cr, fr, g, a, fs, tf, xot, xop, ft, fp, fy, tr) := by
  unfold wpX_compile wpX_dropProgram wpX_clearResults wpX_startParse
  dsimp only
  refine ⟨33, xk_22 _ (fun tf' htf => ⟨n + 1, ?_⟩) 33 0 tf (by omega) (by omega) (fun x hx => absurd hx (Nat.not_lt_zero _))⟩
  have := xk_loop (cm := cm) (ct := ct) (dd := dd) (pp := pp) (ac := ac) (tl := 0) (st := 0) (rs := 0) (ut := 0) (cr := 0) (fr := 0) (ft := ft) (fp := fp) (fy := fy) (tr := tr) hn hk post ha hb hcc n 0 0 (n + 1) fs tf' xot xop (by omega) (by omega) (fun j hj => absurd hj (Nat.not_lt_zero _)) ⟨fun l hl => absurd hl (Nat.not_lt_zero _), fun l hl => absurd hl (Nat.not_lt_zero _), fun q hq => absurd hq (Nat.not_lt_zero _), ⟨fun x hx => absurd hx (Nat.not_lt_zero _), fun x _ h => htf x h⟩, by omega, fun j hj => absurd hj (Nat.not_lt_zero _), Or.inl rfl⟩
  exact this
end HX3
end
section
section HYC
variable {g a tr yp sk so sh sy : Nat → Int32} {n i : Nat} {cm ct cp cf dd pp ac tl st rs ut cr fr yr mc : Int32}
/-! R: the reference's compile -/
def cy_M (g a : Nat → Int32) (i : Nat) (mc : Int32) : Prop := (mc = -1 ∧ ∀ j, j < i → g j ≠ 11) ∨ (∃ c : Nat, c ≤ 3 ∧ mc = nI c ∧ cx_C g a i c ∧ ∃ j, j < i ∧ g j = 11 ∧ a j = nI c)
def cy_I (g a : Nat → Int32) (i : Nat) (yp : Nat → Int32) (mc : Int32) : Prop := (∀ l, l < hp_oc g i → yp l = nI (hp_pt g i l - 1)) ∧ cy_M g a i mc
theorem cy_Mn (h : cy_M g a i mc) (k : g i ≠ 11) : cy_M g a (i + 1) mc := by
  rcases h with ⟨h1, h2⟩ | ⟨c, c1, c2, c3, j, j1, j2⟩
  · refine Or.inl ⟨h1, fun j hj => ?_⟩
    by_cases e : j = i
    · rw [e]; exact k
    · exact h2 j (by omega)
  · exact Or.inr ⟨c, c1, c2, cx_Cn c3 k, j, by omega, j2⟩
theorem yk_0 (hn : n ≤ 32) (hi : i < n) (K : ow_K g a i) (I : cy_I g a i yp mc) (hin : hp_in g i = 0) : ((hp_tk g a i ∧ ∃ (yp' : Nat → Int32) (mc' : Int32), cy_I g a (i + 1) yp' mc' ∧ ∀ (f : Nat) (post : Int32 → SY → Prop), wY_compile_26 post cm ct (nI n) 0 0 st rs ut tl cr fr dd pp ac yr f (nI (hp_fn g (i + 1))) (nI (hp_in g (i + 1))) (nI (hp_oc g (i + 1))) mc' (nI (i + 1)) g a tr yp' sk so sh sy → wY_compile_26 post cm ct (nI n) 0 0 st rs ut tl cr fr dd pp ac yr (f + 1) (nI (hp_fn g i)) (nI (hp_in g i)) (nI (hp_oc g i)) mc (nI i) g a tr yp sk so sh sy) ∨ (¬ hp_tk g a i ∧ ∀ (f : Nat) (post : Int32 → SY → Prop), post (nI i) (cm, ct, nI n, 0, 0, st, rs, ut, tl, cr, fr, dd, pp, ac, yr, g, a, tr, yp, sk, so, sh, sy) → wY_compile_26 post cm ct (nI n) 0 0 st rs ut tl cr fr dd pp ac yr (f + 1) (nI (hp_fn g i)) (nI (hp_in g i)) (nI (hp_oc g i)) mc (nI i) g a tr yp sk so sh sy)) := by
  obtain ⟨i1, i2⟩ := I
  have b1 : ¬ nI n ≤ nI i := nI_ge hi (by omega)
  have b2 : vp_in (nI i) 32 := vp_in_nI (by omega) (by omega)
  have b3 : (nI i).toNatClampNeg = i := nI_clamp (by omega)
  have c0 : nI (hp_in g i) = 0 := by rw [hin]; rfl
  have oc0 := (hp_H i K).1 hin
  have f4 := (hp_H i K).2.1
  by_cases k : g i = 1
  · have eg : g (nI i).toNatClampNeg = 1 := by rw [b3]; exact k
    by_cases f : hp_fn g i < 4
    · obtain ⟨e1, e2, e3, e4, e5⟩ := hp_s1 k
      refine Or.inl ⟨Or.inl ⟨hin, k, f⟩, yp, mc, ⟨by rw [e1, oc0]; exact fun l hl => absurd hl (Nat.not_lt_zero _), cy_Mn i2 (by rw [k]; decide)⟩, fun f' post hp => ?_⟩
      rw [e1, e4, e5] at hp
      exact br_f b1 ⟨b2, nm_r eg ⟨b2, nm_e (br_t c0 (br_t rfl (br_f (nI_ge (b := 4) f (by decide)) (nm_r (nI_1 _) (br_f (by decide) (nm_r (nI_1 i) hp))))))⟩⟩
    · refine Or.inr ⟨fun h => ?_, fun f' post hp => br_f b1 ⟨b2, nm_r eg ⟨b2, nm_e (br_t c0 (br_t rfl (br_t (nI_le (a := 4) (by omega) (by omega)) (br_t rfl hp))))⟩⟩⟩
      rcases h with h | h
      · exact f h.2.2
      · rw [hin] at h; exact absurd h.1 (by decide)
  · refine Or.inr ⟨fun h => ?_, fun f' post hp => br_f b1 ⟨b2, nm_r (congrArg g b3) ⟨b2, nm_e (br_t c0 (br_f k (br_t rfl hp)))⟩⟩⟩
    rcases h with h | h
    · exact k h.2.1
    · rw [hin] at h; exact absurd h.1 (by decide)
theorem yk_304 {J : Int32 → Int32 → Int32 → Int32 → Int32 → (Nat → Int32) → (Nat → Int32) → (Nat → Int32) → (Nat → Int32) → (Nat → Int32) → (Nat → Int32) → (Nat → Int32) → (Nat → Int32) → Prop} {x1 x2 x4 x5 : Int32} (hoc : hp_oc g i ≤ 32) (hyp : ∀ l, l < hp_oc g i → yp l = nI (hp_pt g i l - 1)) (hb : ∀ l, l < hp_oc g i → 1 ≤ hp_pt g i l ∧ hp_pt g i l ≤ 3) (post : Int32 → SY → Prop)
    (h : ∀ b : Int32, ((b = 1 ∧ ∃ l, l < hp_oc g i ∧ hp_pt g i l = 2) ∨ (b = 0 ∧ ∀ l, l < hp_oc g i → hp_pt g i l ≠ 2)) → wY_compile_375 post J x1 x2 (nI (hp_oc g i)) x4 x5 b cm ct (nI n) cp cf st rs ut tl cr fr dd pp ac yr g a tr yp sk so sh sy) :
    ∀ (f l : Nat) (b : Int32), l ≤ hp_oc g i → hp_oc g i - l < f → ((b = 1 ∧ ∃ m, m < l ∧ hp_pt g i m = 2) ∨ (b = 0 ∧ ∀ m, m < l → hp_pt g i m ≠ 2)) → wY_compile_304 post J x1 x2 (nI (hp_oc g i)) x4 x5 cm ct (nI n) cp cf st rs ut tl cr fr dd pp ac yr g a tr yp sk so sh sy f b (nI l) := by
  intro f
  induction f with
  | zero => intro l b _ h; omega
  | succ f ih =>
  intro l b hl hf hx
  rcases Nat.lt_or_ge l (hp_oc g i) with z | z
  · have b1 : ¬ nI (hp_oc g i) ≤ nI l := nI_ge z (by omega)
    have b2 : vp_in (nI l) 32 := vp_in_nI (by omega) (by omega)
    have b3 : (nI l).toNatClampNeg = l := nI_clamp (by omega)
    have hb1 := hb l z
    have z2 : hp_oc g i - (l + 1) < f := by clear hx; omega
    by_cases e : hp_pt g i l = 2
    · exact br_f b1 ⟨b2, br_t (by rw [b3, hyp l z, e]; rfl) (nm_r (nI_1 l) (ih (l + 1) 1 z z2 (Or.inl ⟨rfl, l, by omega, e⟩)))⟩
    · refine br_f b1 ⟨b2, br_f (by rw [b3, hyp l z]; exact fun h => by have := hp_eq (b := 1) h (by omega) (by omega); omega) (nm_r (nI_1 l) (ih (l + 1) b z z2 ?_))⟩
      rcases hx with ⟨h1, m, m1, m2⟩ | ⟨h1, h2⟩
      · exact Or.inl ⟨h1, m, by omega, m2⟩
      · refine Or.inr ⟨h1, fun m hm => ?_⟩
        by_cases em : m = l
        · rw [em]; exact e
        · exact h2 m (by omega)
  · have : l = hp_oc g i := by omega
    subst this
    exact br_t (nI_le (Nat.le_refl _) (by omega)) (h b hx)
theorem yk_pl (hn : n ≤ 32) (hi : i < n) (K : ow_K g a i) (I : cy_I g a i yp mc) (hin : hp_in g i = 1) (k : g i = 6 ∨ g i = 7 ∨ g i = 8 ∨ g i = 9 ∨ g i = 10) : ((hp_tk g a i ∧ ∃ (yp' : Nat → Int32) (mc' : Int32), cy_I g a (i + 1) yp' mc' ∧ ∀ (f : Nat) (post : Int32 → SY → Prop), wY_compile_26 post cm ct (nI n) 0 0 st rs ut tl cr fr dd pp ac yr f (nI (hp_fn g (i + 1))) (nI (hp_in g (i + 1))) (nI (hp_oc g (i + 1))) mc' (nI (i + 1)) g a tr yp' sk so sh sy → wY_compile_26 post cm ct (nI n) 0 0 st rs ut tl cr fr dd pp ac yr (f + 1) (nI (hp_fn g i)) (nI (hp_in g i)) (nI (hp_oc g i)) mc (nI i) g a tr yp sk so sh sy) ∨ (¬ hp_tk g a i ∧ ∀ (f : Nat) (post : Int32 → SY → Prop), post (nI i) (cm, ct, nI n, 0, 0, st, rs, ut, tl, cr, fr, dd, pp, ac, yr, g, a, tr, yp, sk, so, sh, sy) → wY_compile_26 post cm ct (nI n) 0 0 st rs ut tl cr fr dd pp ac yr (f + 1) (nI (hp_fn g i)) (nI (hp_in g i)) (nI (hp_oc g i)) mc (nI i) g a tr yp sk so sh sy)) := by
  obtain ⟨i1, i2⟩ := I
  have b1 : ¬ nI n ≤ nI i := nI_ge hi (by omega)
  have b2 : vp_in (nI i) 32 := vp_in_nI (by omega) (by omega)
  have b3 : (nI i).toNatClampNeg = i := nI_clamp (by omega)
  have c0 : ¬ nI (hp_in g i) = 0 := by rw [hin]; decide
  have ea : a (nI i).toNatClampNeg = a i := by rw [b3]
  obtain ⟨e1, e2, e3, e4, e5⟩ := hp_s6 (g := g) (i := i) (by unfold hp_pl; rcases k with k | k | k | k | k <;> simp [k])
  have I1 : cy_I g a (i + 1) yp mc := ⟨by rw [e1, e3]; exact i1, cy_Mn i2 (by rcases k with k | k | k | k | k <;> rw [k] <;> decide)⟩
  rcases k with k | k | k | k | k
  · have eg : g (nI i).toNatClampNeg = 6 := by rw [b3]; exact k
    refine Or.inl ⟨by simp [hp_tk, hin, k], yp, mc, I1, fun f post hp => ?_⟩
    rw [e1, e4, e5] at hp
    exact br_f b1 ⟨b2, nm_r eg ⟨b2, nm_r ea (br_f c0 (br_f (by decide) (br_f (by decide) (br_f (by decide) (br_f (by decide) (br_f (by decide) (br_f (by decide) (br_f (by decide) (br_f (by decide) (br_f (by decide) (br_f (by decide) (nm_r (nI_1 i) hp))))))))))))⟩⟩
  · have eg : g (nI i).toNatClampNeg = 7 := by rw [b3]; exact k
    refine Or.inl ⟨by simp [hp_tk, hin, k], yp, mc, I1, fun f post hp => ?_⟩
    rw [e1, e4, e5] at hp
    exact br_f b1 ⟨b2, nm_r eg ⟨b2, nm_r ea (br_f c0 (br_f (by decide) (br_f (by decide) (br_f (by decide) (br_f (by decide) (br_f (by decide) (br_f (by decide) (br_f (by decide) (br_f (by decide) (br_f (by decide) (br_f (by decide) (nm_r (nI_1 i) hp))))))))))))⟩⟩
  · have eg : g (nI i).toNatClampNeg = 8 := by rw [b3]; exact k
    by_cases a1 : a i < 1
    · refine Or.inr ⟨fun h => ?_, fun f post hp => br_f b1 ⟨b2, nm_r eg ⟨b2, nm_r ea (br_f c0 (br_f (by decide) (br_f (by decide) (br_f (by decide) (br_f (by decide) (br_f (by decide) (br_t rfl (br_t a1 (br_t rfl hp)))))))))⟩⟩⟩
      simp [hp_tk, hin, k] at h
      obtain ⟨t, t1, t2, t3⟩ := h
      rw [t3] at a1
      exact nI_nlt (b := 1) t1 (by omega) a1
    · by_cases a2 : 15 < a i
      · refine Or.inr ⟨fun h => ?_, fun f post hp => br_f b1 ⟨b2, nm_r eg ⟨b2, nm_r ea (br_f c0 (br_f (by decide) (br_f (by decide) (br_f (by decide) (br_f (by decide) (br_f (by decide) (br_t rfl (br_f a1 (br_f (Int32.not_le.mpr a2) (br_t rfl hp))))))))))⟩⟩⟩
        simp [hp_tk, hin, k] at h
        obtain ⟨t, t1, t2, t3⟩ := h
        rw [t3] at a2
        exact hp_15 t2 a2
      · refine Or.inl ⟨?_, yp, mc, I1, fun f post hp => ?_⟩
        · simp [hp_tk, hin, k]; exact hp_r1 a1 a2
        · rw [e1, e4, e5] at hp
          exact br_f b1 ⟨b2, nm_r eg ⟨b2, nm_r ea (br_f c0 (br_f (by decide) (br_f (by decide) (br_f (by decide) (br_f (by decide) (br_f (by decide) (br_t rfl (br_f a1 (br_t (Int32.not_lt.mp a2) (br_f (by decide) (nm_r (nI_1 i) hp)))))))))))⟩⟩
  · have eg : g (nI i).toNatClampNeg = 9 := by rw [b3]; exact k
    by_cases a1 : a i < 1
    · refine Or.inr ⟨fun h => ?_, fun f post hp => br_f b1 ⟨b2, nm_r eg ⟨b2, nm_r ea (br_f c0 (br_f (by decide) (br_f (by decide) (br_f (by decide) (br_f (by decide) (br_f (by decide) (br_f (by decide) (br_t rfl (br_t a1 (br_t rfl hp))))))))))⟩⟩⟩
      simp [hp_tk, hin, k] at h
      obtain ⟨t, t1, t2, t3⟩ := h
      rw [t3] at a1
      exact nI_nlt (b := 1) t1 (by omega) a1
    · by_cases a2 : 15 < a i
      · refine Or.inr ⟨fun h => ?_, fun f post hp => br_f b1 ⟨b2, nm_r eg ⟨b2, nm_r ea (br_f c0 (br_f (by decide) (br_f (by decide) (br_f (by decide) (br_f (by decide) (br_f (by decide) (br_f (by decide) (br_t rfl (br_f a1 (br_f (Int32.not_le.mpr a2) (br_t rfl hp)))))))))))⟩⟩⟩
        simp [hp_tk, hin, k] at h
        obtain ⟨t, t1, t2, t3⟩ := h
        rw [t3] at a2
        exact hp_15 t2 a2
      · refine Or.inl ⟨?_, yp, mc, I1, fun f post hp => ?_⟩
        · simp [hp_tk, hin, k]; exact hp_r1 a1 a2
        · rw [e1, e4, e5] at hp
          exact br_f b1 ⟨b2, nm_r eg ⟨b2, nm_r ea (br_f c0 (br_f (by decide) (br_f (by decide) (br_f (by decide) (br_f (by decide) (br_f (by decide) (br_f (by decide) (br_t rfl (br_f a1 (br_t (Int32.not_lt.mp a2) (br_f (by decide) (nm_r (nI_1 i) hp))))))))))))⟩⟩
  · have eg : g (nI i).toNatClampNeg = 10 := by rw [b3]; exact k
    have hol := hp_ocle (g := g) i
    have hb : ∀ l, l < hp_oc g i → 1 ≤ hp_pt g i l ∧ hp_pt g i l ≤ 3 := fun l hl => ⟨((hp_H i K).2.2.2.2 l hl).2.2.2.2.2.1, ((hp_H i K).2.2.2.2 l hl).2.2.2.2.2.2.1⟩
    by_cases hl : ∃ l, l < hp_oc g i ∧ hp_pt g i l = 2
    · refine Or.inl ⟨?_, yp, mc, I1, fun f post hp => ?_⟩
      · simp [hp_tk, hin, k]; exact hl
      · rw [e1, e4, e5] at hp
        refine br_f b1 ⟨b2, nm_r eg ⟨b2, nm_r ea (br_f c0 (br_f (by decide) (br_f (by decide) (br_f (by decide) (br_f (by decide) (br_f (by decide) (br_f (by decide) (br_f (by decide) (br_t rfl ⟨hp_oc g i + 1, ?_⟩)))))))))⟩⟩
        refine yk_304 (by omega) i1 hb post (fun b hb' => ?_) (hp_oc g i + 1) 0 0 (Nat.zero_le _) (by omega) (Or.inr ⟨rfl, fun m hm => absurd hm (Nat.not_lt_zero _)⟩)
        rcases hb' with ⟨h1, -⟩ | ⟨-, h2⟩
        · exact br_f (by rw [h1]; decide) (nm_r (nI_1 i) hp)
        · obtain ⟨l, l1, l2⟩ := hl
          exact absurd l2 (h2 l l1)
    · refine Or.inr ⟨fun h => ?_, fun f post hp => ?_⟩
      · simp [hp_tk, hin, k] at h
        exact hl h
      · refine br_f b1 ⟨b2, nm_r eg ⟨b2, nm_r ea (br_f c0 (br_f (by decide) (br_f (by decide) (br_f (by decide) (br_f (by decide) (br_f (by decide) (br_f (by decide) (br_f (by decide) (br_t rfl ⟨hp_oc g i + 1, ?_⟩)))))))))⟩⟩
        refine yk_304 (by omega) i1 hb post (fun b hb' => ?_) (hp_oc g i + 1) 0 0 (Nat.zero_le _) (by omega) (Or.inr ⟨rfl, fun m hm => absurd hm (Nat.not_lt_zero _)⟩)
        rcases hb' with ⟨-, h2⟩ | ⟨h1, -⟩
        · exact absurd h2 hl
        · exact br_t h1 hp
end HYC
end
section
section HYC2
variable {g a tr yp sk so sh sy : Nat → Int32} {n i : Nat} {cm ct cp cf dd pp ac tl st rs ut cr fr yr mc : Int32}
theorem yk_1 (hn : n ≤ 32) (hi : i < n) (hin : hp_in g i = 1) (k : g i = 1) : ((hp_tk g a i ∧ ∃ (yp' : Nat → Int32) (mc' : Int32), cy_I g a (i + 1) yp' mc' ∧ ∀ (f : Nat) (post : Int32 → SY → Prop), wY_compile_26 post cm ct (nI n) 0 0 st rs ut tl cr fr dd pp ac yr f (nI (hp_fn g (i + 1))) (nI (hp_in g (i + 1))) (nI (hp_oc g (i + 1))) mc' (nI (i + 1)) g a tr yp' sk so sh sy → wY_compile_26 post cm ct (nI n) 0 0 st rs ut tl cr fr dd pp ac yr (f + 1) (nI (hp_fn g i)) (nI (hp_in g i)) (nI (hp_oc g i)) mc (nI i) g a tr yp sk so sh sy) ∨ (¬ hp_tk g a i ∧ ∀ (f : Nat) (post : Int32 → SY → Prop), post (nI i) (cm, ct, nI n, 0, 0, st, rs, ut, tl, cr, fr, dd, pp, ac, yr, g, a, tr, yp, sk, so, sh, sy) → wY_compile_26 post cm ct (nI n) 0 0 st rs ut tl cr fr dd pp ac yr (f + 1) (nI (hp_fn g i)) (nI (hp_in g i)) (nI (hp_oc g i)) mc (nI i) g a tr yp sk so sh sy)) := by
  have b1 : ¬ nI n ≤ nI i := nI_ge hi (by omega)
  have b2 : vp_in (nI i) 32 := vp_in_nI (by omega) (by omega)
  have b3 : (nI i).toNatClampNeg = i := nI_clamp (by omega)
  have c0 : ¬ nI (hp_in g i) = 0 := by rw [hin]; decide
  have ea : a (nI i).toNatClampNeg = a i := by rw [b3]
  have eg : g (nI i).toNatClampNeg = 1 := by rw [b3]; exact k
  exact Or.inr ⟨by simp [hp_tk, hin, k], fun f post hp => br_f b1 ⟨b2, nm_r eg ⟨b2, nm_r ea (br_f c0 (br_t rfl (br_t rfl hp)))⟩⟩⟩
theorem yk_2 (hn : n ≤ 32) (hi : i < n) (K : ow_K g a i) (I : cy_I g a i yp mc) (hin : hp_in g i = 1) (k : g i = 2) : ((hp_tk g a i ∧ ∃ (yp' : Nat → Int32) (mc' : Int32), cy_I g a (i + 1) yp' mc' ∧ ∀ (f : Nat) (post : Int32 → SY → Prop), wY_compile_26 post cm ct (nI n) 0 0 st rs ut tl cr fr dd pp ac yr f (nI (hp_fn g (i + 1))) (nI (hp_in g (i + 1))) (nI (hp_oc g (i + 1))) mc' (nI (i + 1)) g a tr yp' sk so sh sy → wY_compile_26 post cm ct (nI n) 0 0 st rs ut tl cr fr dd pp ac yr (f + 1) (nI (hp_fn g i)) (nI (hp_in g i)) (nI (hp_oc g i)) mc (nI i) g a tr yp sk so sh sy) ∨ (¬ hp_tk g a i ∧ ∀ (f : Nat) (post : Int32 → SY → Prop), post (nI i) (cm, ct, nI n, 0, 0, st, rs, ut, tl, cr, fr, dd, pp, ac, yr, g, a, tr, yp, sk, so, sh, sy) → wY_compile_26 post cm ct (nI n) 0 0 st rs ut tl cr fr dd pp ac yr (f + 1) (nI (hp_fn g i)) (nI (hp_in g i)) (nI (hp_oc g i)) mc (nI i) g a tr yp sk so sh sy)) := by
  obtain ⟨i1, i2⟩ := I
  have b1 : ¬ nI n ≤ nI i := nI_ge hi (by omega)
  have b2 : vp_in (nI i) 32 := vp_in_nI (by omega) (by omega)
  have b3 : (nI i).toNatClampNeg = i := nI_clamp (by omega)
  have c0 : ¬ nI (hp_in g i) = 0 := by rw [hin]; decide
  have ea : a (nI i).toNatClampNeg = a i := by rw [b3]
  have eg : g (nI i).toNatClampNeg = 2 := by rw [b3]; exact k
  have hol := hp_ocle (g := g) i
  rcases Nat.eq_zero_or_pos (hp_oc g i) with z | z
  · obtain ⟨e1, e2, e3, e4, e5⟩ := hp_s2a k z
    refine Or.inl ⟨by simp [hp_tk, hin, k, z], yp, mc, ⟨by rw [e1]; exact fun l hl => absurd hl (Nat.not_lt_zero _), cy_Mn i2 (by rw [k]; decide)⟩, fun f post hp => ?_⟩
    rw [e1, e4, e5] at hp
    rw [z]
    exact br_f b1 ⟨b2, nm_r eg ⟨b2, nm_r ea (br_f c0 (br_f (by decide) (br_t rfl (br_t rfl (br_f (by decide) (nm_r (nI_1 i) hp))))))⟩⟩
  · obtain ⟨e1, e2, e3, e4, e5⟩ := hp_s2b k z
    obtain ⟨m, hm⟩ : ∃ m, hp_oc g i = m + 1 := ⟨hp_oc g i - 1, by omega⟩
    have c1 : ¬ nI (hp_oc g i) = 0 := nI_ne0 (by omega) (by omega)
    have c2 : nI (hp_oc g i) - 1 = nI m := by rw [hm]; exact nI_pred m
    have c5 : nI (hp_oc g i) + (-1) = nI m := by rw [hm]; exact hp_m1 m
    have c3 : vp_in (nI (hp_oc g i) - 1) 32 := by rw [c2]; exact vp_in_nI (by omega) (by omega)
    have c4 : (nI (hp_oc g i) - 1).toNatClampNeg = m := by rw [c2]; exact nI_clamp (by omega)
    have hpm := i1 m (by omega)
    have hb := ((hp_H i K).2.2.2.2 m (by omega))
    have em : hp_oc g i - 1 = m := by omega
    by_cases e : hp_pt g i m = 1
    · exact Or.inr ⟨by simp [hp_tk, hin, k, em, e]; omega, fun f post hp => br_f b1 ⟨b2, nm_r eg ⟨b2, nm_r ea (br_f c0 (br_f (by decide) (br_t rfl (br_f c1 ⟨c3, br_t (by rw [c4, hpm, e]; rfl) (br_t rfl hp)⟩))))⟩⟩⟩
    · have h6 := hb.2.2.2.2.2.1
      have h7 := hb.2.2.2.2.2.2.1
      refine Or.inl ⟨by simp [hp_tk, hin, k, em, e]; omega, yp, mc, ⟨by rw [e1, e3]; exact fun l hl => i1 l (by omega), cy_Mn i2 (by rw [k]; decide)⟩, fun f post hp => ?_⟩
      rw [e1, e4, e5, em] at hp
      exact br_f b1 ⟨b2, nm_r eg ⟨b2, nm_r ea (br_f c0 (br_f (by decide) (br_t rfl (br_f c1 ⟨c3, br_f (by rw [c4, hpm]; exact nI_ne0 (by omega) (by omega)) (nm_r c5 (br_f (by decide) (nm_r (nI_1 i) hp)))⟩))))⟩⟩
theorem yk_3 (hn : n ≤ 32) (hi : i < n) (I : cy_I g a i yp mc) (hin : hp_in g i = 1) (k : g i = 3) : ((hp_tk g a i ∧ ∃ (yp' : Nat → Int32) (mc' : Int32), cy_I g a (i + 1) yp' mc' ∧ ∀ (f : Nat) (post : Int32 → SY → Prop), wY_compile_26 post cm ct (nI n) 0 0 st rs ut tl cr fr dd pp ac yr f (nI (hp_fn g (i + 1))) (nI (hp_in g (i + 1))) (nI (hp_oc g (i + 1))) mc' (nI (i + 1)) g a tr yp' sk so sh sy → wY_compile_26 post cm ct (nI n) 0 0 st rs ut tl cr fr dd pp ac yr (f + 1) (nI (hp_fn g i)) (nI (hp_in g i)) (nI (hp_oc g i)) mc (nI i) g a tr yp sk so sh sy) ∨ (¬ hp_tk g a i ∧ ∀ (f : Nat) (post : Int32 → SY → Prop), post (nI i) (cm, ct, nI n, 0, 0, st, rs, ut, tl, cr, fr, dd, pp, ac, yr, g, a, tr, yp, sk, so, sh, sy) → wY_compile_26 post cm ct (nI n) 0 0 st rs ut tl cr fr dd pp ac yr (f + 1) (nI (hp_fn g i)) (nI (hp_in g i)) (nI (hp_oc g i)) mc (nI i) g a tr yp sk so sh sy)) := by
  obtain ⟨i1, i2⟩ := I
  have b1 : ¬ nI n ≤ nI i := nI_ge hi (by omega)
  have b2 : vp_in (nI i) 32 := vp_in_nI (by omega) (by omega)
  have b3 : (nI i).toNatClampNeg = i := nI_clamp (by omega)
  have c0 : ¬ nI (hp_in g i) = 0 := by rw [hin]; decide
  have ea : a (nI i).toNatClampNeg = a i := by rw [b3]
  have eg : g (nI i).toNatClampNeg = 3 := by rw [b3]; exact k
  have hol := hp_ocle (g := g) i
  obtain ⟨e1, e2, e3, e4, e5⟩ := hp_s3 k
  have c3 : vp_in (nI (hp_oc g i)) 32 := vp_in_nI (by omega) (by omega)
  have c4 : (nI (hp_oc g i)).toNatClampNeg = hp_oc g i := nI_clamp (by omega)
  refine Or.inl ⟨by simp [hp_tk, hin, k], upd yp (hp_oc g i) 0, mc, ⟨?_, cy_Mn i2 (by rw [k]; decide)⟩, fun f post hp => ?_⟩
  · rw [e1, e3]
    intro l hl
    by_cases e : l = hp_oc g i
    · rw [e, hp_us, hp_uS]; rfl
    · rw [hp_un e, hp_uN e]; exact i1 l (by omega)
  · rw [e1, e4, e5] at hp
    exact br_f b1 ⟨b2, nm_r eg ⟨b2, nm_r ea (br_f c0 (br_f (by decide) (br_f (by decide) (br_t rfl (br_t (nI_lt (b := 32) (by omega) (by decide)) ⟨c3, nm_r (by rw [c4]) (nm_r (nI_1 _) (br_f (by decide) (nm_r (nI_1 i) hp)))⟩)))))⟩⟩
theorem yk_45 (hn : n ≤ 32) (hi : i < n) (K : ow_K g a i) (I : cy_I g a i yp mc) (hin : hp_in g i = 1) (k : g i = 4 ∨ g i = 5) : ((hp_tk g a i ∧ ∃ (yp' : Nat → Int32) (mc' : Int32), cy_I g a (i + 1) yp' mc' ∧ ∀ (f : Nat) (post : Int32 → SY → Prop), wY_compile_26 post cm ct (nI n) 0 0 st rs ut tl cr fr dd pp ac yr f (nI (hp_fn g (i + 1))) (nI (hp_in g (i + 1))) (nI (hp_oc g (i + 1))) mc' (nI (i + 1)) g a tr yp' sk so sh sy → wY_compile_26 post cm ct (nI n) 0 0 st rs ut tl cr fr dd pp ac yr (f + 1) (nI (hp_fn g i)) (nI (hp_in g i)) (nI (hp_oc g i)) mc (nI i) g a tr yp sk so sh sy) ∨ (¬ hp_tk g a i ∧ ∀ (f : Nat) (post : Int32 → SY → Prop), post (nI i) (cm, ct, nI n, 0, 0, st, rs, ut, tl, cr, fr, dd, pp, ac, yr, g, a, tr, yp, sk, so, sh, sy) → wY_compile_26 post cm ct (nI n) 0 0 st rs ut tl cr fr dd pp ac yr (f + 1) (nI (hp_fn g i)) (nI (hp_in g i)) (nI (hp_oc g i)) mc (nI i) g a tr yp sk so sh sy)) := by
  obtain ⟨i1, i2⟩ := I
  have b1 : ¬ nI n ≤ nI i := nI_ge hi (by omega)
  have b2 : vp_in (nI i) 32 := vp_in_nI (by omega) (by omega)
  have b3 : (nI i).toNatClampNeg = i := nI_clamp (by omega)
  have c0 : ¬ nI (hp_in g i) = 0 := by rw [hin]; decide
  have ea : a (nI i).toNatClampNeg = a i := by rw [b3]
  have hol := hp_ocle (g := g) i
  rcases Nat.eq_zero_or_pos (hp_oc g i) with z | z
  · rcases k with k | k
    · have eg : g (nI i).toNatClampNeg = 4 := by rw [b3]; exact k
      refine Or.inr ⟨by simp [hp_tk, hin, k, z], fun f post hp => ?_⟩
      rw [z]
      exact br_f b1 ⟨b2, nm_r eg ⟨b2, nm_r ea (br_f c0 (br_f (by decide) (br_f (by decide) (br_f (by decide) (br_t rfl (br_t rfl (br_t rfl hp)))))))⟩⟩
    · have eg : g (nI i).toNatClampNeg = 5 := by rw [b3]; exact k
      refine Or.inr ⟨by simp [hp_tk, hin, k, z], fun f post hp => ?_⟩
      rw [z]
      exact br_f b1 ⟨b2, nm_r eg ⟨b2, nm_r ea (br_f c0 (br_f (by decide) (br_f (by decide) (br_f (by decide) (br_f (by decide) (br_t rfl (br_t rfl (br_t rfl hp))))))))⟩⟩
  · obtain ⟨m, hm⟩ : ∃ m, hp_oc g i = m + 1 := ⟨hp_oc g i - 1, by omega⟩
    have c1 : ¬ nI (hp_oc g i) = 0 := nI_ne0 (by omega) (by omega)
    have c2 : nI (hp_oc g i) - 1 = nI m := by rw [hm]; exact nI_pred m
    have c3 : vp_in (nI (hp_oc g i) - 1) 32 := by rw [c2]; exact vp_in_nI (by omega) (by omega)
    have c4 : (nI (hp_oc g i) - 1).toNatClampNeg = m := by rw [c2]; exact nI_clamp (by omega)
    have hpm := i1 m (by omega)
    have hb := ((hp_H i K).2.2.2.2 m (by omega))
    have h6 := hb.2.2.2.2.2.1
    have h7 := hb.2.2.2.2.2.2.1
    have em : hp_oc g i - 1 = m := by omega
    by_cases e : hp_pt g i m = 3
    · rcases k with k | k
      · have eg : g (nI i).toNatClampNeg = 4 := by rw [b3]; exact k
        exact Or.inr ⟨by simp [hp_tk, hin, k, em, e], fun f post hp => br_f b1 ⟨b2, nm_r eg ⟨b2, nm_r ea (br_f c0 (br_f (by decide) (br_f (by decide) (br_f (by decide) (br_t rfl (br_f c1 ⟨c3, br_t (by rw [c4, hpm, e]; rfl) (br_t rfl hp)⟩))))))⟩⟩⟩
      · have eg : g (nI i).toNatClampNeg = 5 := by rw [b3]; exact k
        exact Or.inr ⟨by simp [hp_tk, hin, k, em, e], fun f post hp => br_f b1 ⟨b2, nm_r eg ⟨b2, nm_r ea (br_f c0 (br_f (by decide) (br_f (by decide) (br_f (by decide) (br_f (by decide) (br_t rfl (br_f c1 ⟨c3, br_t (by rw [c4, hpm, e]; rfl) (br_t rfl hp)⟩)))))))⟩⟩⟩
    · have n2 : ¬ yp (nI (hp_oc g i) - 1).toNatClampNeg = 2 := by
        rw [c4, hpm]
        exact fun h => by have := hp_eq (b := 2) h (by omega) (by omega); omega
      have upI : ∀ q, hp_oc g (i + 1) = hp_oc g i → hp_pt g (i + 1) = hp_u (hp_pt g i) m q → ∀ l, l < hp_oc g (i + 1) → upd yp m (nI (q - 1)) l = nI (hp_pt g (i + 1) l - 1) := fun q h1 h2 l hl => by
        rw [h1] at hl
        rw [h2]
        by_cases el : l = m
        · rw [el, hp_us, hp_uS]
        · rw [hp_un el, hp_uN el]; exact i1 l hl
      rcases k with k | k
      · have eg : g (nI i).toNatClampNeg = 4 := by rw [b3]; exact k
        obtain ⟨e1, e2, e3, e4, e5⟩ := hp_s4 k
        by_cases a1 : a i < 0
        · refine Or.inr ⟨fun h => ?_, fun f post hp => br_f b1 ⟨b2, nm_r eg ⟨b2, nm_r ea (br_f c0 (br_f (by decide) (br_f (by decide) (br_f (by decide) (br_t rfl (br_f c1 ⟨c3, br_f n2 (br_t a1 (br_t rfl hp))⟩))))))⟩⟩⟩
          simp [hp_tk, hin, k] at h
          obtain ⟨-, -, t, t2, t3⟩ := h
          rw [t3] at a1
          exact nI_pos (by omega) a1
        by_cases a2 : 15 < a i
        · refine Or.inr ⟨fun h => ?_, fun f post hp => br_f b1 ⟨b2, nm_r eg ⟨b2, nm_r ea (br_f c0 (br_f (by decide) (br_f (by decide) (br_f (by decide) (br_t rfl (br_f c1 ⟨c3, br_f n2 (br_f a1 (br_f (Int32.not_le.mpr a2) (br_t rfl hp)))⟩))))))⟩⟩⟩
          simp [hp_tk, hin, k] at h
          obtain ⟨-, -, t, t2, t3⟩ := h
          rw [t3] at a2
          exact hp_15 t2 a2
        refine Or.inl ⟨?_, upd yp m 1, mc, ⟨upI 2 e1 (by rw [e3, em]), cy_Mn i2 (by rw [k]; decide)⟩, fun f post hp => ?_⟩
        · simp [hp_tk, hin, k, em]; exact ⟨z, e, hp_r0 a1 a2⟩
        · rw [e1, e4, e5] at hp
          exact br_f b1 ⟨b2, nm_r eg ⟨b2, nm_r ea (br_f c0 (br_f (by decide) (br_f (by decide) (br_f (by decide) (br_t rfl (br_f c1 ⟨c3, br_f n2 (br_f a1 (br_t (Int32.not_lt.mp a2) ⟨c3, nm_r (by rw [c4]) (br_f (by decide) (nm_r (nI_1 i) hp))⟩))⟩))))))⟩⟩
      · have eg : g (nI i).toNatClampNeg = 5 := by rw [b3]; exact k
        obtain ⟨e1, e2, e3, e4, e5⟩ := hp_s5 k
        refine Or.inl ⟨?_, upd yp m 2, mc, ⟨upI 3 e1 (by rw [e3, em]), cy_Mn i2 (by rw [k]; decide)⟩, fun f post hp => ?_⟩
        · simp [hp_tk, hin, k, em]; exact ⟨z, e⟩
        · rw [e1, e4, e5] at hp
          exact br_f b1 ⟨b2, nm_r eg ⟨b2, nm_r ea (br_f c0 (br_f (by decide) (br_f (by decide) (br_f (by decide) (br_f (by decide) (br_t rfl (br_f c1 ⟨c3, br_f n2 ⟨c3, nm_r (by rw [c4]) (br_f (by decide) (nm_r (nI_1 i) hp))⟩⟩)))))))⟩⟩
theorem hp_r3y {x : Int32} {m : Nat} (hm : m < 2 ^ 31) (h1 : ¬ x ≤ nI m) (h2 : x ≤ 3) : ∃ f : Nat, m + 1 ≤ f ∧ f ≤ 3 ∧ x = nI f := by
  have h0 : ¬ x < nI m := fun h => h1 (Int32.le_of_lt h)
  obtain ⟨f, f1, f2, f3⟩ := hp_rng (lo := m) (hi := 3) (L := nI m) (M := 3) (nI_toInt hm) (by decide) h0 h2
  refine ⟨f, ?_, f2, f3⟩
  by_cases e : m = f
  · rw [f3, e] at h1; exact absurd (nI_le (Nat.le_refl _) (by omega)) h1
  · omega
theorem yk_11 (hn : n ≤ 32) (hi : i < n) (K : ow_K g a i) (I : cy_I g a i yp mc) (hin : hp_in g i = 1) (k : g i = 11) : ((hp_tk g a i ∧ ∃ (yp' : Nat → Int32) (mc' : Int32), cy_I g a (i + 1) yp' mc' ∧ ∀ (f : Nat) (post : Int32 → SY → Prop), wY_compile_26 post cm ct (nI n) 0 0 st rs ut tl cr fr dd pp ac yr f (nI (hp_fn g (i + 1))) (nI (hp_in g (i + 1))) (nI (hp_oc g (i + 1))) mc' (nI (i + 1)) g a tr yp' sk so sh sy → wY_compile_26 post cm ct (nI n) 0 0 st rs ut tl cr fr dd pp ac yr (f + 1) (nI (hp_fn g i)) (nI (hp_in g i)) (nI (hp_oc g i)) mc (nI i) g a tr yp sk so sh sy) ∨ (¬ hp_tk g a i ∧ ∀ (f : Nat) (post : Int32 → SY → Prop), post (nI i) (cm, ct, nI n, 0, 0, st, rs, ut, tl, cr, fr, dd, pp, ac, yr, g, a, tr, yp, sk, so, sh, sy) → wY_compile_26 post cm ct (nI n) 0 0 st rs ut tl cr fr dd pp ac yr (f + 1) (nI (hp_fn g i)) (nI (hp_in g i)) (nI (hp_oc g i)) mc (nI i) g a tr yp sk so sh sy)) := by
  obtain ⟨i1, i2⟩ := I
  have b1 : ¬ nI n ≤ nI i := nI_ge hi (by omega)
  have b2 : vp_in (nI i) 32 := vp_in_nI (by omega) (by omega)
  have b3 : (nI i).toNatClampNeg = i := nI_clamp (by omega)
  have c0 : ¬ nI (hp_in g i) = 0 := by rw [hin]; decide
  have ea : a (nI i).toNatClampNeg = a i := by rw [b3]
  have eg : g (nI i).toNatClampNeg = 11 := by rw [b3]; exact k
  have f4 := (hp_H i K).2.1
  have i0 : 0 < i := by
    rcases Nat.eq_zero_or_pos i with z | z
    · subst z; simp [hp_in] at hin
    · exact z
  have f0 := (hp_H i K).2.2.2.1 i0
  obtain ⟨m, hm⟩ : ∃ m, hp_fn g i = m + 1 := ⟨hp_fn g i - 1, by omega⟩
  have c2 : nI (hp_fn g i) - 1 = nI m := by rw [hm]; exact nI_pred m
  obtain ⟨e1, e2, e3, e4, e5⟩ := hp_s6 (g := g) (i := i) (by unfold hp_pl; simp [k])
  by_cases a1 : a i ≤ nI m
  · refine Or.inr ⟨fun h => ?_, fun f post hp => br_f b1 ⟨b2, nm_r eg ⟨b2, nm_r ea (br_f c0 (br_f (by decide) (br_f (by decide) (br_f (by decide) (br_f (by decide) (br_f (by decide) (br_f (by decide) (br_f (by decide) (br_f (by decide) (br_t rfl (br_t (by rw [c2]; exact a1) (br_t rfl hp))))))))))))⟩⟩⟩
    simp [hp_tk, hin, k] at h
    obtain ⟨f, t1, t2, t3⟩ := h
    rw [t3] at a1
    have := (nI_leI (by omega) (by omega)).mp a1
    omega
  by_cases a2 : a i ≤ 3
  · obtain ⟨f, t1, t2, t3⟩ := hp_r3y (by omega) a1 a2
    have tk : hp_tk g a i := by simp [hp_tk, hin, k]; exact ⟨f, by omega, t2, t3⟩
    have a1' : ¬ a i ≤ nI (hp_fn g i) - 1 := by rw [c2]; exact a1
    by_cases a3 : a i ≤ mc
    · refine Or.inl ⟨tk, yp, mc, ⟨by rw [e1, e3]; exact i1, ?_⟩, fun f post hp => ?_⟩
      · rcases i2 with ⟨h1, h2⟩ | ⟨c, d1, d2, d3, j, j1, j2⟩
        · rw [h1, t3] at a3
          exact absurd (Int32.not_lt.mpr a3) (fun h => h (by
            rw [Int32.lt_iff_toInt_lt, nI_toInt (by omega), show (-1 : Int32).toInt = -1 by decide]; omega))
        · refine Or.inr ⟨c, d1, d2, fun j hj hg f' hf' e => ?_, j, by omega, j2⟩
          by_cases ej : j = i
          · rw [ej, t3] at e
            have := hp_eq e (by omega) (by omega)
            rw [d2, t3] at a3
            have := (nI_leI (by omega) (by omega)).mp a3
            omega
          · exact d3 j (by omega) hg f' hf' e
      · rw [e1, e4, e5] at hp
        exact br_f b1 ⟨b2, nm_r eg ⟨b2, nm_r ea (br_f c0 (br_f (by decide) (br_f (by decide) (br_f (by decide) (br_f (by decide) (br_f (by decide) (br_f (by decide) (br_f (by decide) (br_f (by decide) (br_t rfl (br_f a1' (br_t a2 (br_t a3 (br_f (by decide) (nm_r (nI_1 i) hp)))))))))))))))⟩⟩
    · refine Or.inl ⟨tk, yp, a i, ⟨by rw [e1, e3]; exact i1, Or.inr ⟨f, t2, t3, fun j hj hg f' hf' e => ?_, i, by omega, k, t3⟩⟩, fun f post hp => ?_⟩
      · by_cases ej : j = i
        · rw [ej, t3] at e
          have := hp_eq e (by omega) (by omega)
          omega
        · rcases i2 with ⟨h1, h2⟩ | ⟨c, d1, d2, d3, -⟩
          · exact absurd hg (h2 j (by omega))
          · have := d3 j (by omega) hg f' hf' e
            rw [d2, t3] at a3
            have h9 : ¬ f ≤ c := fun h => a3 (nI_le h (by omega))
            omega
      · rw [e1, e4, e5] at hp
        exact br_f b1 ⟨b2, nm_r eg ⟨b2, nm_r ea (br_f c0 (br_f (by decide) (br_f (by decide) (br_f (by decide) (br_f (by decide) (br_f (by decide) (br_f (by decide) (br_f (by decide) (br_f (by decide) (br_t rfl (br_f a1' (br_t a2 (br_f a3 (br_f (by decide) (nm_r (nI_1 i) hp)))))))))))))))⟩⟩
  · refine Or.inr ⟨fun h => ?_, fun f post hp => br_f b1 ⟨b2, nm_r eg ⟨b2, nm_r ea (br_f c0 (br_f (by decide) (br_f (by decide) (br_f (by decide) (br_f (by decide) (br_f (by decide) (br_f (by decide) (br_f (by decide) (br_f (by decide) (br_t rfl (br_f (by rw [c2]; exact a1) (br_f a2 (br_t rfl hp)))))))))))))⟩⟩⟩
    simp [hp_tk, hin, k] at h
    obtain ⟨f, t1, t2, t3⟩ := h
    rw [t3] at a2
    exact a2 (nI_le (b := 3) t2 (by decide))
theorem yk_all (hn : n ≤ 32) (hi : i < n) (K : ow_K g a i) (I : cy_I g a i yp mc) (hk : ck_k (g i)) : ((hp_tk g a i ∧ ∃ (yp' : Nat → Int32) (mc' : Int32), cy_I g a (i + 1) yp' mc' ∧ ∀ (f : Nat) (post : Int32 → SY → Prop), wY_compile_26 post cm ct (nI n) 0 0 st rs ut tl cr fr dd pp ac yr f (nI (hp_fn g (i + 1))) (nI (hp_in g (i + 1))) (nI (hp_oc g (i + 1))) mc' (nI (i + 1)) g a tr yp' sk so sh sy → wY_compile_26 post cm ct (nI n) 0 0 st rs ut tl cr fr dd pp ac yr (f + 1) (nI (hp_fn g i)) (nI (hp_in g i)) (nI (hp_oc g i)) mc (nI i) g a tr yp sk so sh sy) ∨ (¬ hp_tk g a i ∧ ∀ (f : Nat) (post : Int32 → SY → Prop), post (nI i) (cm, ct, nI n, 0, 0, st, rs, ut, tl, cr, fr, dd, pp, ac, yr, g, a, tr, yp, sk, so, sh, sy) → wY_compile_26 post cm ct (nI n) 0 0 st rs ut tl cr fr dd pp ac yr (f + 1) (nI (hp_fn g i)) (nI (hp_in g i)) (nI (hp_oc g i)) mc (nI i) g a tr yp sk so sh sy)) := by
  rcases hp_in01 (g := g) i with hin | hin
  · exact yk_0 hn hi K I hin
  · rcases hk with k | k | k | k | k | k | k | k | k | k | k
    · exact yk_1 hn hi hin k
    · exact yk_2 hn hi K I hin k
    · exact yk_3 hn hi I hin k
    · exact yk_45 hn hi K I hin (Or.inl k)
    · exact yk_45 hn hi K I hin (Or.inr k)
    · exact yk_pl hn hi K I hin (Or.inl k)
    · exact yk_pl hn hi K I hin (Or.inr (Or.inl k))
    · exact yk_pl hn hi K I hin (Or.inr (Or.inr (Or.inl k)))
    · exact yk_pl hn hi K I hin (Or.inr (Or.inr (Or.inr (Or.inl k))))
    · exact yk_pl hn hi K I hin (Or.inr (Or.inr (Or.inr (Or.inr k))))
    · exact yk_11 hn hi K I hin k
theorem cy_wh (hn : n ≤ 32) (K : ow_K g a n) (I : cy_I g a n yp mc) : ow_G g a n ↔ (0 < n ∧ hp_in g n = 0 ∧ mc < nI (hp_fn g n)) := by
  obtain ⟨i1, i2⟩ := I
  have H := hp_H n K
  constructor
  · intro G
    refine ⟨G.2.2.2.1, G.2.2.1, ?_⟩
    rcases i2 with ⟨h1, h2⟩ | ⟨c, d1, d2, d3, j, j1, j2, j3⟩
    · rw [h1, Int32.lt_iff_toInt_lt, nI_toInt (by omega), show (-1 : Int32).toInt = -1 by decide]; omega
    · obtain ⟨f, f1, f2, f3⟩ := G.2.2.2.2 j j1 j2
      rw [j3] at f3
      have := hp_eq f3 (by omega) (by have := H.2.1; omega)
      rw [d2]
      exact nI_lt (by omega) (by omega)
  · intro ⟨h1, h2, h3⟩
    refine ⟨hn, K, h2, h1, fun j hj hg => ?_⟩
    have tk := K j hj
    rcases tk with ⟨t1, t2, -⟩ | ⟨t0, t⟩
    · rw [hg] at t2; exact absurd t2 (by decide)
    · simp [hg] at t
      obtain ⟨f, f1, f2, f3⟩ := t
      rcases i2 with ⟨q1, q2⟩ | ⟨c, d1, d2, d3, -⟩
      · exact absurd hg (q2 j hj)
      · have := d3 j hj hg f f2 f3
        rw [d2] at h3
        have := (nI_ltI (by omega) (by omega)).mp h3
        exact ⟨f, f1, by omega, f3⟩
theorem yk_loop (hn : n ≤ 32) (hk : ∀ j, j < n → ck_k (g j)) (post : Int32 → SY → Prop)
    (ha : ∀ (e : Nat) (yp : Nat → Int32), e < n → ow_K g a e → ¬ hp_tk g a e → post (nI e) (cm, ct, nI n, 0, 0, st, rs, ut, tl, cr, fr, dd, pp, ac, yr, g, a, tr, yp, sk, so, sh, sy))
    (hb : ∀ (yp : Nat → Int32), ow_K g a n → ¬ ow_G g a n → post (nI n) (cm, ct, nI n, 0, 0, st, rs, ut, tl, cr, fr, dd, pp, ac, yr, g, a, tr, yp, sk, so, sh, sy))
    (hcc : ∀ (yp : Nat → Int32), ow_G g a n → post (-1) (cm, ct, nI n, 1, nI (hp_fn g n), st, rs, ut, tl, cr, fr, dd, pp, ac, yr, g, a, tr, yp, sk, so, sh, sy)) :
    ∀ (m i f : Nat) (yp : Nat → Int32) (mc : Int32), i + m = n → m < f → ow_K g a i → cy_I g a i yp mc → wY_compile_26 post cm ct (nI n) 0 0 st rs ut tl cr fr dd pp ac yr f (nI (hp_fn g i)) (nI (hp_in g i)) (nI (hp_oc g i)) mc (nI i) g a tr yp sk so sh sy := by
  intro m
  induction m with
  | zero =>
    intro i f yp mc hi hf K I
    obtain ⟨f, rfl⟩ : ∃ f', f = f' + 1 := ⟨f - 1, by omega⟩
    have : i = n := by omega
    subst this
    have wh := cy_wh hn K I
    refine br_t (nI_le (Nat.le_refl _) (by omega)) ?_
    rcases Nat.eq_zero_or_pos i with z | z
    · exact br_t (hp_z0 z) (hb yp K fun G => by have := wh.mp G; omega)
    · refine br_f (nI_ne0 z (by omega)) ?_
      rcases hp_in01 (g := g) i with hin | hin
      · refine br_t (by rw [hin]; rfl) (br_c (fun h => hcc yp (wh.mpr ⟨z, hin, h⟩)) (fun h => hb yp K fun G => h (wh.mp G).2.2))
      · exact br_f (by rw [hin]; decide) (hb yp K fun G => by have := wh.mp G; omega)
  | succ m ih =>
    intro i f yp mc hi hf K I
    obtain ⟨f, rfl⟩ : ∃ f', f = f' + 1 := ⟨f - 1, by omega⟩
    rcases yk_all (cm := cm) (ct := ct) (dd := dd) (pp := pp) (ac := ac) (tl := tl) (st := st) (rs := rs) (ut := ut) (cr := cr) (fr := fr) (yr := yr) (tr := tr) (sk := sk) (so := so) (sh := sh) (sy := sy) hn (by omega) K I (hk i (by omega)) with ⟨tk, yp', mc', I', w⟩ | ⟨ntk, w⟩
    · refine w f post (ih (i + 1) f yp' mc' (by omega) (by omega) (fun j hj => ?_) I')
      by_cases e : j = i
      · rw [e]; exact tk
      · exact K j (by omega)
    · exact w f post (ha i yp (by omega) K ntk)
theorem yk_w (hn : n ≤ 32) (hk : ∀ j, j < n → ck_k (g j)) (post : Int32 → SY → Prop)
    (ha : ∀ (e : Nat) (yp : Nat → Int32), e < n → ow_K g a e → ¬ hp_tk g a e → post (nI e) (cm, ct, nI n, 0, 0, 0, 0, 0, 0, 0, 0, dd, pp, ac, yr, g, a, tr, yp, sk, so, sh, sy))
    (hb : ∀ (yp : Nat → Int32), ow_K g a n → ¬ ow_G g a n → post (nI n) (cm, ct, nI n, 0, 0, 0, 0, 0, 0, 0, 0, dd, pp, ac, yr, g, a, tr, yp, sk, so, sh, sy))
    (hcc : ∀ (yp : Nat → Int32), ow_G g a n → post (-1) (cm, ct, nI n, 1, nI (hp_fn g n), 0, 0, 0, 0, 0, 0, dd, pp, ac, yr, g, a, tr, yp, sk, so, sh, sy)) : wpY_compile post (cm, ct, nI n, cp, cf, st, rs, ut, tl, cr, fr, dd, pp, ac, yr, g, a, tr, yp, sk, so, sh, sy) := by
  unfold wpY_compile wpY_clearResults
  dsimp only
  refine ⟨n + 1, ?_⟩
  have := yk_loop (cm := cm) (ct := ct) (dd := dd) (pp := pp) (ac := ac) (tl := 0) (st := 0) (rs := 0) (ut := 0) (cr := 0) (fr := 0) (yr := yr) (tr := tr) (sk := sk) (so := so) (sh := sh) (sy := sy) hn hk post ha hb hcc n 0 (n + 1) yp (-1) (by omega) (by omega) (fun j hj => absurd hj (Nat.not_lt_zero _)) ⟨fun l hl => absurd hl (Nat.not_lt_zero _), Or.inl ⟨rfl, fun j hj => absurd hj (Nat.not_lt_zero _)⟩⟩
  exact this
end HYC2
end
section
section HQ
/-! S: the relation, and what is owed -/
def i_Q (mt tc n tl : Nat) (cp cf : Int32) (g a fs tf : Nat → Int32) : Prop := mt ≤ 32 ∧ tc ≤ 32 ∧ n ≤ mt ∧ tl ≤ tc ∧ (∀ j, j < n → ck_k (g j)) ∧ ((cp = 0 ∧ cf = 0) ∨ (cp = 1 ∧ cf = nI (hp_fn g n) ∧ ow_G g a n ∧ (∀ q, q < n → g q = 1 → fs (hp_fn g q) = nI q) ∧ ow_T g tf n))
def i_Rel (k : Nat) (u : SX) (v : SY) : Prop := ∃ (mt tc n tl : Nat) (cp cf st rs ut cr fr : Int32) (g a tr : Nat → Int32) (xo xi xs xh xd xp xa : Int32) (fs tf xot xop ft fp fy : Nat → Int32) (yd yq ya yr : Int32) (yp sk so sh sy : Nat → Int32), u = (nI mt, nI tc, nI n, cp, cf, xo, xi, xs, xh, xd, xp, xa, nI tl, st, rs, ut, cr, fr, g, a, fs, tf, xot, xop, ft, fp, fy, tr) ∧ v = (nI mt, nI tc, nI n, cp, cf, st, rs, ut, nI tl, cr, fr, yd, yq, ya, yr, g, a, tr, yp, sk, so, sh, sy) ∧ i_Q mt tc n tl cp cf g a fs tf
variable {g a fs tf xot xop ft fp fy tr yp sk so sh sy : Nat → Int32} {mt tc n tl k : Nat} {cp cf xo xi xs xh st rs ut cr fr xd xp xa yd yq ya yr : Int32}
theorem i_mk (h : i_Q mt tc n tl cp cf g a fs tf) : i_Rel k (nI mt, nI tc, nI n, cp, cf, xo, xi, xs, xh, xd, xp, xa, nI tl, st, rs, ut, cr, fr, g, a, fs, tf, xot, xop, ft, fp, fy, tr) (nI mt, nI tc, nI n, cp, cf, st, rs, ut, nI tl, cr, fr, yd, yq, ya, yr, g, a, tr, yp, sk, so, sh, sy) :=
  ⟨mt, tc, n, tl, cp, cf, st, rs, ut, cr, fr, g, a, tr, xo, xi, xs, xh, xd, xp, xa, fs, tf, xot, xop, ft, fp, fy, yd, yq, ya, yr, yp, sk, so, sh, sy, rfl, rfl, h⟩
theorem i_up {k : Nat} {u : SX} {v : SY} (h : i_Rel k u v) : i_Rel (k + 3) u v := h
theorem i_c8 (x : Int32) : ∃ m : Nat, m ≤ 32 ∧ ∀ A : Int32 → Prop, A (nI m) → ((8 ≤ x → ((x ≤ 32 → A x) ∧ (¬ x ≤ 32 → A 32))) ∧ (¬ 8 ≤ x → A 8)) := by
  by_cases h1 : 8 ≤ x
  · by_cases h2 : x ≤ 32
    · obtain ⟨m, m1, m2, rfl⟩ := hp_rng (lo := 8) (hi := 32) (L := 8) (M := 32) (by decide) (by decide) (Int32.not_lt.mpr h1) h2
      exact ⟨m, m2, fun A h => br_t h1 (br_t h2 h)⟩
    · exact ⟨32, by omega, fun A h => br_t h1 (br_f h2 h)⟩
  · exact ⟨8, by omega, fun A h => br_f h1 h⟩
theorem i_c1 (x : Int32) : ∃ m : Nat, m ≤ 32 ∧ ∀ A : Int32 → Prop, A (nI m) → ((1 ≤ x → ((x ≤ 32 → A x) ∧ (¬ x ≤ 32 → A 32))) ∧ (¬ 1 ≤ x → A 1)) := by
  by_cases h1 : 1 ≤ x
  · by_cases h2 : x ≤ 32
    · obtain ⟨m, m1, m2, rfl⟩ := hp_rng (lo := 1) (hi := 32) (L := 1) (M := 32) (by decide) (by decide) (Int32.not_lt.mpr h1) h2
      exact ⟨m, m2, fun A h => br_t h1 (br_t h2 h)⟩
    · exact ⟨32, by omega, fun A h => br_t h1 (br_f h2 h)⟩
  · exact ⟨1, by omega, fun A h => br_f h1 h⟩
theorem i_vc0 (k0 : Int32) (k1 : Int32) : wpX_init (fun u => wpY_init (fun v => i_Rel 2 u v) k0 k1) k0 k1 := by
  obtain ⟨mt, m1, hm⟩ := i_c8 k0
  obtain ⟨tc, t1, ht⟩ := i_c1 k1
  have fin : ∀ u v, u = (nI mt, nI tc, (0 : Int32), (0 : Int32), (0 : Int32), (0 : Int32), (0 : Int32), (0 : Int32), (0 : Int32), (0 : Int32), (0 : Int32), (0 : Int32), (0 : Int32), (0 : Int32), (0 : Int32), (0 : Int32), (0 : Int32), (0 : Int32), (fun _ => 0 : Nat → Int32), (fun _ => 0 : Nat → Int32), (fun _ => 0 : Nat → Int32), (fun _ => 0 : Nat → Int32), (fun _ => 0 : Nat → Int32), (fun _ => 0 : Nat → Int32), (fun _ => 0 : Nat → Int32), (fun _ => 0 : Nat → Int32), (fun _ => 0 : Nat → Int32), (fun _ => 0 : Nat → Int32)) → v = (nI mt, nI tc, (0 : Int32), (0 : Int32), (0 : Int32), (0 : Int32), (0 : Int32), (0 : Int32), (0 : Int32), (0 : Int32), (0 : Int32), (0 : Int32), (0 : Int32), (0 : Int32), (0 : Int32), (fun _ => 0 : Nat → Int32), (fun _ => 0 : Nat → Int32), (fun _ => 0 : Nat → Int32), (fun _ => 0 : Nat → Int32), (fun _ => 0 : Nat → Int32), (fun _ => 0 : Nat → Int32), (fun _ => 0 : Nat → Int32), (fun _ => 0 : Nat → Int32)) → i_Rel 2 u v := fun u v eu ev => by
    rw [eu, ev]
    exact i_mk (k := 2) (n := 0) (tl := 0) ⟨m1, t1, Nat.zero_le _, Nat.zero_le _, fun j hj => absurd hj (Nat.not_lt_zero _), Or.inl ⟨rfl, rfl⟩⟩
  refine hm (fun z => wpX_clamp (fun r2 => wpY_init (fun v => i_Rel 2 (z, r2, 0, 0, 0, 0, 0, 0, 0, 0, 0, 0, 0, 0, 0, 0, 0, 0, (fun _ => 0), (fun _ => 0), (fun _ => 0), (fun _ => 0), (fun _ => 0), (fun _ => 0), (fun _ => 0), (fun _ => 0), (fun _ => 0), (fun _ => 0)) v) k0 k1) k1 1 32) ?_
  refine ht (fun z => wpY_init (fun v => i_Rel 2 (nI mt, z, 0, 0, 0, 0, 0, 0, 0, 0, 0, 0, 0, 0, 0, 0, 0, 0, (fun _ => 0), (fun _ => 0), (fun _ => 0), (fun _ => 0), (fun _ => 0), (fun _ => 0), (fun _ => 0), (fun _ => 0), (fun _ => 0), (fun _ => 0)) v) k0 k1) ?_
  refine hm (fun z => wY_init_92 (fun v => i_Rel 2 _ v) k1 z 0 0 0 0 0 0 0 0 0 0 0 0 0 0 0 (fun _ => 0) (fun _ => 0) (fun _ => 0) (fun _ => 0) (fun _ => 0) (fun _ => 0) (fun _ => 0) (fun _ => 0)) ?_
  refine ht (fun z => wY_init_117 (fun v => i_Rel 2 _ v) z (nI mt) 0 0 0 0 0 0 0 0 0 0 0 0 0 0 (fun _ => 0) (fun _ => 0) (fun _ => 0) (fun _ => 0) (fun _ => 0) (fun _ => 0) (fun _ => 0) (fun _ => 0)) ?_
  exact fin _ _ rfl rfl
theorem i_vc_reset {k : Nat} {u : SX} {v : SY} (I : i_Rel k u v) (hk : k + 3 ≤ 1538) : wpX_reset (fun u' => wpY_reset (fun v' => i_Rel (k + 3) u' v') v) u := by
  obtain ⟨mt, tc, n, tl, cp, cf, st, rs, ut, cr, fr, g, a, tr, xo, xi, xs, xh, xd, xp, xa, fs, tf, xot, xop, ft, fp, fy, yd, yq, ya, yr, yp, sk, so, sh, sy, rfl, rfl, h1, h2, h3, h4, h5, h6⟩ := I
  exact i_mk (k := k + 3) (n := 0) (tl := 0) ⟨h1, h2, Nat.zero_le _, Nat.zero_le _, fun j hj => absurd hj (Nat.not_lt_zero _), Or.inl ⟨rfl, rfl⟩⟩
theorem i_vc_addToken {k : Nat} {u : SX} {v : SY} (I : i_Rel k u v) (hk : k + 3 ≤ 1538) (v1 : Int32) (v2 : Int32) : wpX_addToken (fun r u' => wpY_addToken (fun r' v' => r' = r ∧ i_Rel (k + 3) u' v') v v1 v2) u v1 v2 := by
  have I0 := I
  obtain ⟨mt, tc, n, tl, cp, cf, st, rs, ut, cr, fr, g, a, tr, xo, xi, xs, xh, xd, xp, xa, fs, tf, xot, xop, ft, fp, fy, yd, yq, ya, yr, yp, sk, so, sh, sy, rfl, rfl, h1, h2, h3, h4, h5, h6⟩ := I
  rcases Nat.lt_or_ge n mt with z | z
  · have a1 : nI n < nI mt := nI_lt z (by omega)
    have a2 : ¬ nI n = nI mt := fun h => by have := hp_eq h (by omega) (by omega); omega
    by_cases c1 : v1 < 1
    · exact br_t a1 (br_t c1 (br_f a2 (br_t c1 ⟨rfl, i_up I0⟩)))
    by_cases c2 : v1 ≤ 11
    · have b2 : vp_in (nI n) 32 := vp_in_nI (by omega) (by omega)
      have b3 : (nI n).toNatClampNeg = n := nI_clamp (by omega)
      have kk : ck_k v1 := by
        obtain ⟨m, m1, m2, rfl⟩ := hp_rng (lo := 1) (hi := 11) (L := 1) (M := 11) (by decide) (by decide) c1 c2
        have : m = 1 ∨ m = 2 ∨ m = 3 ∨ m = 4 ∨ m = 5 ∨ m = 6 ∨ m = 7 ∨ m = 8 ∨ m = 9 ∨ m = 10 ∨ m = 11 := by omega
        unfold ck_k
        rcases this with rfl | rfl | rfl | rfl | rfl | rfl | rfl | rfl | rfl | rfl | rfl <;> decide
      have Q : i_Q mt tc (n + 1) 0 0 0 (upd g n v1) (upd a n v2) fs tf := by
        refine ⟨h1, h2, z, Nat.zero_le _, fun j hj => ?_, Or.inl ⟨rfl, rfl⟩⟩
        by_cases e : j = n
        · rw [e, hp_us]; exact kk
        · rw [hp_un e]; exact h5 j (by omega)
      exact br_t a1 (br_f c1 (br_t c2 ⟨b2, nm_r (by rw [b3]) ⟨b2, nm_r (by rw [b3]) (nm_r (nI_1 n) (br_f a2 (br_f c1 (br_t c2 ⟨b2, nm_r (by rw [b3]) ⟨b2, nm_r (by rw [b3]) (nm_r (nI_1 n) ⟨rfl, i_mk (k := k + 3) Q⟩)⟩⟩))))⟩⟩))
    · exact br_t a1 (br_f c1 (br_f c2 (br_f a2 (br_f c1 (br_f c2 ⟨rfl, i_up I0⟩)))))
  · have e : n = mt := by omega
    have a1 : ¬ nI n < nI mt := nI_nlt z (by omega)
    exact br_f a1 (br_t (by rw [e]) ⟨rfl, i_up I0⟩)
theorem i_vc_compile {k : Nat} {u : SX} {v : SY} (I : i_Rel k u v) (hk : k + 3 ≤ 1538) : wpX_compile (fun r u' => wpY_compile (fun r' v' => r' = r ∧ i_Rel (k + 3) u' v') v) u := by
  obtain ⟨mt, tc, n, tl, cp, cf, st, rs, ut, cr, fr, g, a, tr, xo, xi, xs, xh, xd, xp, xa, fs, tf, xot, xop, ft, fp, fy, yd, yq, ya, yr, yp, sk, so, sh, sy, rfl, rfl, h1, h2, h3, h4, h5, h6⟩ := I
  have hn : n ≤ 32 := by omega
  refine xk_w hn h5 _ (fun e xo xi xs xh fs tf xot xop e1 e2 e3 => ?_) (fun xo xi xs xh fs tf xot xop e1 e2 => ?_) (fun xo xi xs xh fs tf xot xop e1 e2 e3 => ?_)
  · refine yk_w hn h5 _ (fun e' yp f1 f2 f3 => ⟨?_, ?_⟩) (fun yp f1 f2 => absurd (f1 e e1) e3) (fun yp f1 => absurd (f1.2.1 e e1) e3)
    · rcases Nat.lt_trichotomy e e' with z | z | z
      · exact absurd (f2 e z) e3
      · rw [z]
      · exact absurd (e2 e' z) f3
    · exact i_mk (k := k + 3) (tl := 0) ⟨h1, h2, h3, Nat.zero_le _, h5, Or.inl ⟨rfl, rfl⟩⟩
  · refine yk_w hn h5 _ (fun e' yp f1 f2 f3 => absurd (e1 e' f1) f3) (fun yp f1 f2 => ⟨rfl, ?_⟩) (fun yp f1 => absurd f1 e2)
    exact i_mk (k := k + 3) (tl := 0) ⟨h1, h2, h3, Nat.zero_le _, h5, Or.inl ⟨rfl, rfl⟩⟩
  · refine yk_w hn h5 _ (fun e' yp f1 f2 f3 => absurd (e1.2.1 e' f1) f3) (fun yp f1 f2 => absurd e1 f2) (fun yp f1 => ⟨rfl, ?_⟩)
    exact i_mk (k := k + 3) (tl := 0) ⟨h1, h2, h3, Nat.zero_le _, h5, Or.inr ⟨rfl, rfl, e1, e2, e3⟩⟩
theorem i_vc_run {k : Nat} {u : SX} {v : SY} (I : i_Rel k u v) (hk : k + 3 ≤ 1538) (v1 : Int32) : wpX_run (fun r u' => wpY_run (fun r' v' => r' = r ∧ i_Rel (k + 3) u' v') v v1) u v1 := by
  have I0 := I
  obtain ⟨mt, tc, n, tl, cp, cf, st, rs, ut, cr, fr, g, a, tr, xo, xi, xs, xh, xd, xp, xa, fs, tf, xot, xop, ft, fp, fy, yd, yq, ya, yr, yp, sk, so, sh, sy, rfl, rfl, h1, h2, h3, h4, h5, h6⟩ := I
  rcases h6 with ⟨rfl, q2⟩ | ⟨rfl, q2, G, q4, q5⟩
  · exact br_t rfl (br_t rfl ⟨rfl, i_up I0⟩)
  · have n10 : ¬ (1 : Int32) = 0 := by decide
    obtain ⟨s1, s2, s3⟩ := rn_st G ft fp fy sk so sh sy
    have f0 : fs 0 + 1 = nI 1 := by
      have := q4 0 G.2.2.2.1 s1
      rw [s2] at this
      rw [this]; rfl
    obtain ⟨d', p', tl', st', ut', ac', cr', fr', ft', fp', fy', tr', sk', so', sh', sy', j1, jx, jy⟩ := rn_loop (cm := nI mt) (cp := 1) (cf := cf) (xo := xo) (xi := xi) (xs := xs) (xh := xh) (xot := xot) (xop := xop) (yp := yp) G q5 h2 q4 q2 632028 0 0 1 0 v1 0 0 ft fp fy tr sk so sh sy (by omega) (Nat.zero_le _) s3
    obtain ⟨F, hF⟩ : ∃ F, 632028 < F := ⟨_, Nat.lt_succ_self _⟩
    refine br_f n10 (nm_r f0 ⟨F, jx F _ hF ?_⟩)
    refine br_f n10 (yf_w (f := 0) (p := 0) G.1 G.2.2.2.1 s1 s2 _ ⟨F, jy F _ hF ⟨rfl, ?_⟩⟩)
    exact i_mk (k := k + 3) ⟨h1, h2, h3, j1, h5, Or.inr ⟨rfl, q2, G, q4, q5⟩⟩
theorem i_ix {x : Int32} {n : Nat} (hn : n ≤ 32) (h1 : ¬ x < 0) (h2 : ¬ nI n ≤ x) : vp_in x 32 := by
  obtain ⟨j, hj, rfl⟩ := nI_of h1
  refine vp_in_nI ?_ (by omega)
  rcases Nat.lt_or_ge j n with z | z
  · omega
  · exact absurd (nI_le z (by omega)) h2
theorem i_vc_getTokenCount {k : Nat} {u : SX} {v : SY} (I : i_Rel k u v) (hk : k + 3 ≤ 1538) : wpX_getTokenCount (fun r => wpY_getTokenCount (fun r' => r' = r ∧ i_Rel (k + 3) u v) v) u := by
  have I0 := I
  obtain ⟨mt, tc, n, tl, cp, cf, st, rs, ut, cr, fr, g, a, tr, xo, xi, xs, xh, xd, xp, xa, fs, tf, xot, xop, ft, fp, fy, yd, yq, ya, yr, yp, sk, so, sh, sy, rfl, rfl, h⟩ := I
  exact ⟨rfl, i_up I0⟩
theorem i_vc_getTokenKind {k : Nat} {u : SX} {v : SY} (I : i_Rel k u v) (hk : k + 3 ≤ 1538) (v1 : Int32) : wpX_getTokenKind (fun r => wpY_getTokenKind (fun r' => r' = r ∧ i_Rel (k + 3) u v) v v1) u v1 := by
  have I0 := I
  obtain ⟨mt, tc, n, tl, cp, cf, st, rs, ut, cr, fr, g, a, tr, xo, xi, xs, xh, xd, xp, xa, fs, tf, xot, xop, ft, fp, fy, yd, yq, ya, yr, yp, sk, so, sh, sy, rfl, rfl, h1, h2, h3, h4, h5, h6⟩ := I
  refine br_c (fun c1 => br_t c1 ⟨rfl, i_up I0⟩) (fun c1 => br_c (fun c2 => br_f c1 (br_t c2 ⟨rfl, i_up I0⟩)) (fun c2 => ?_))
  have iv := i_ix (by omega) c1 c2
  exact ⟨iv, br_f c1 (br_f c2 ⟨iv, rfl, i_up I0⟩)⟩
theorem i_vc_getTokenArg {k : Nat} {u : SX} {v : SY} (I : i_Rel k u v) (hk : k + 3 ≤ 1538) (v1 : Int32) : wpX_getTokenArg (fun r => wpY_getTokenArg (fun r' => r' = r ∧ i_Rel (k + 3) u v) v v1) u v1 := by
  have I0 := I
  obtain ⟨mt, tc, n, tl, cp, cf, st, rs, ut, cr, fr, g, a, tr, xo, xi, xs, xh, xd, xp, xa, fs, tf, xot, xop, ft, fp, fy, yd, yq, ya, yr, yp, sk, so, sh, sy, rfl, rfl, h1, h2, h3, h4, h5, h6⟩ := I
  refine br_c (fun c1 => br_t c1 ⟨rfl, i_up I0⟩) (fun c1 => br_c (fun c2 => br_f c1 (br_t c2 ⟨rfl, i_up I0⟩)) (fun c2 => ?_))
  have iv := i_ix (by omega) c1 c2
  exact ⟨iv, br_f c1 (br_f c2 ⟨iv, rfl, i_up I0⟩)⟩
theorem i_vc_isCompiled {k : Nat} {u : SX} {v : SY} (I : i_Rel k u v) (hk : k + 3 ≤ 1538) : wpX_isCompiled (fun r => wpY_isCompiled (fun r' => r' = r ∧ i_Rel (k + 3) u v) v) u := by
  have I0 := I
  obtain ⟨mt, tc, n, tl, cp, cf, st, rs, ut, cr, fr, g, a, tr, xo, xi, xs, xh, xd, xp, xa, fs, tf, xot, xop, ft, fp, fy, yd, yq, ya, yr, yp, sk, so, sh, sy, rfl, rfl, h1, h2, h3, h4, h5, h6⟩ := I
  have hb : narrow .boolean (.int cp) = .int cp := by
    rcases h6 with ⟨rfl, -⟩ | ⟨rfl, -⟩
    · exact hp_nb0
    · exact hp_nb1
  exact ⟨hb, hb, rfl, i_up I0⟩
theorem i_vc_getFunctionCount {k : Nat} {u : SX} {v : SY} (I : i_Rel k u v) (hk : k + 3 ≤ 1538) : wpX_getFunctionCount (fun r => wpY_getFunctionCount (fun r' => r' = r ∧ i_Rel (k + 3) u v) v) u := by
  have I0 := I
  obtain ⟨mt, tc, n, tl, cp, cf, st, rs, ut, cr, fr, g, a, tr, xo, xi, xs, xh, xd, xp, xa, fs, tf, xot, xop, ft, fp, fy, yd, yq, ya, yr, yp, sk, so, sh, sy, rfl, rfl, h1, h2, h3, h4, h5, h6⟩ := I
  rcases h6 with ⟨q1, q2⟩ | ⟨q1, -⟩
  · exact br_t q1 ⟨q2.symm, i_up I0⟩
  · exact br_f (by rw [q1]; decide) ⟨rfl, i_up I0⟩
theorem i_vc_getStatus {k : Nat} {u : SX} {v : SY} (I : i_Rel k u v) (hk : k + 3 ≤ 1538) : wpX_getStatus (fun r => wpY_getStatus (fun r' => r' = r ∧ i_Rel (k + 3) u v) v) u := by
  have I0 := I
  obtain ⟨mt, tc, n, tl, cp, cf, st, rs, ut, cr, fr, g, a, tr, xo, xi, xs, xh, xd, xp, xa, fs, tf, xot, xop, ft, fp, fy, yd, yq, ya, yr, yp, sk, so, sh, sy, rfl, rfl, h⟩ := I
  exact ⟨rfl, i_up I0⟩
theorem i_vc_getResult {k : Nat} {u : SX} {v : SY} (I : i_Rel k u v) (hk : k + 3 ≤ 1538) : wpX_getResult (fun r => wpY_getResult (fun r' => r' = r ∧ i_Rel (k + 3) u v) v) u := by
  have I0 := I
  obtain ⟨mt, tc, n, tl, cp, cf, st, rs, ut, cr, fr, g, a, tr, xo, xi, xs, xh, xd, xp, xa, fs, tf, xot, xop, ft, fp, fy, yd, yq, ya, yr, yp, sk, so, sh, sy, rfl, rfl, h⟩ := I
  exact ⟨rfl, i_up I0⟩
theorem i_vc_getUncaughtType {k : Nat} {u : SX} {v : SY} (I : i_Rel k u v) (hk : k + 3 ≤ 1538) : wpX_getUncaughtType (fun r => wpY_getUncaughtType (fun r' => r' = r ∧ i_Rel (k + 3) u v) v) u := by
  have I0 := I
  obtain ⟨mt, tc, n, tl, cp, cf, st, rs, ut, cr, fr, g, a, tr, xo, xi, xs, xh, xd, xp, xa, fs, tf, xot, xop, ft, fp, fy, yd, yq, ya, yr, yp, sk, so, sh, sy, rfl, rfl, h⟩ := I
  exact ⟨rfl, i_up I0⟩
theorem i_vc_getTraceLength {k : Nat} {u : SX} {v : SY} (I : i_Rel k u v) (hk : k + 3 ≤ 1538) : wpX_getTraceLength (fun r => wpY_getTraceLength (fun r' => r' = r ∧ i_Rel (k + 3) u v) v) u := by
  have I0 := I
  obtain ⟨mt, tc, n, tl, cp, cf, st, rs, ut, cr, fr, g, a, tr, xo, xi, xs, xh, xd, xp, xa, fs, tf, xot, xop, ft, fp, fy, yd, yq, ya, yr, yp, sk, so, sh, sy, rfl, rfl, h⟩ := I
  exact ⟨rfl, i_up I0⟩
theorem i_vc_getTrace {k : Nat} {u : SX} {v : SY} (I : i_Rel k u v) (hk : k + 3 ≤ 1538) (v1 : Int32) : wpX_getTrace (fun r => wpY_getTrace (fun r' => r' = r ∧ i_Rel (k + 3) u v) v v1) u v1 := by
  have I0 := I
  obtain ⟨mt, tc, n, tl, cp, cf, st, rs, ut, cr, fr, g, a, tr, xo, xi, xs, xh, xd, xp, xa, fs, tf, xot, xop, ft, fp, fy, yd, yq, ya, yr, yp, sk, so, sh, sy, rfl, rfl, h1, h2, h3, h4, h5, h6⟩ := I
  refine br_c (fun c1 => br_t c1 ⟨rfl, i_up I0⟩) (fun c1 => br_c (fun c2 => br_f c1 (br_t c2 ⟨rfl, i_up I0⟩)) (fun c2 => ?_))
  have iv := i_ix (by omega) c1 c2
  exact ⟨iv, br_f c1 (br_f c2 ⟨iv, rfl, i_up I0⟩)⟩
theorem i_vc_getCatchRuns {k : Nat} {u : SX} {v : SY} (I : i_Rel k u v) (hk : k + 3 ≤ 1538) : wpX_getCatchRuns (fun r => wpY_getCatchRuns (fun r' => r' = r ∧ i_Rel (k + 3) u v) v) u := by
  have I0 := I
  obtain ⟨mt, tc, n, tl, cp, cf, st, rs, ut, cr, fr, g, a, tr, xo, xi, xs, xh, xd, xp, xa, fs, tf, xot, xop, ft, fp, fy, yd, yq, ya, yr, yp, sk, so, sh, sy, rfl, rfl, h⟩ := I
  exact ⟨rfl, i_up I0⟩
theorem i_vc_getFinallyRuns {k : Nat} {u : SX} {v : SY} (I : i_Rel k u v) (hk : k + 3 ≤ 1538) : wpX_getFinallyRuns (fun r => wpY_getFinallyRuns (fun r' => r' = r ∧ i_Rel (k + 3) u v) v) u := by
  have I0 := I
  obtain ⟨mt, tc, n, tl, cp, cf, st, rs, ut, cr, fr, g, a, tr, xo, xi, xs, xh, xd, xp, xa, fs, tf, xot, xop, ft, fp, fy, yd, yq, ya, yr, yp, sk, so, sh, sy, rfl, rfl, h⟩ := I
  exact ⟨rfl, i_up I0⟩
end HQ
end
