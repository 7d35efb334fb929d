section
section HP
/-! A: numbers, stores -/
theorem hp_us {f : Nat → Int32} {k : Nat} {x : Int32} : upd f k x k = x := if_pos rfl
theorem hp_un {f : Nat → Int32} {k j : Nat} {x : Int32} (h : j ≠ k) : upd f k x j = f j := if_neg h
theorem hp_m1 (n : Nat) : nI (n + 1) + (-1) = nI n := by
  rw [← nI_1, Int32.add_assoc, show (1 : Int32) + (-1) = 0 from rfl, Int32.add_zero]
theorem hp_ne1 {a : Nat} (h : a < 2 ^ 31) : ¬ nI a = -1 := by
  intro e
  have := nI_pos (n := a) h
  rw [e] at this
  exact this (by decide)
theorem hp_eq {a b : Nat} (h : nI a = nI b) (ha : a < 2 ^ 31) (hb : b < 2 ^ 31) : a = b := (nI_eq ha hb).mp h
theorem hp_le {a b : Nat} {A B : Prop} (ha : a < 2 ^ 31) (hb : b < 2 ^ 31) (f : a ≤ b → A) (g : b < a → B) : (nI a ≤ nI b → A) ∧ (¬ nI a ≤ nI b → B) :=
  ⟨fun h => f ((nI_leI ha hb).mp h), fun h => g (Nat.lt_of_not_le fun q => h ((nI_leI ha hb).mpr q))⟩
theorem hp_c0 : (0 : Int32).toNatClampNeg = 0 := by decide
theorem hp_nb0 : narrow .boolean (.int 0) = .int 0 := by rfl
theorem hp_nb1 : narrow .boolean (.int 1) = .int 1 := by rfl
/-- a small number of Int32 is a natural one -/
theorem hp_rng {x : Int32} {lo hi : Nat} {L M : Int32} (hL : L.toInt = lo) (hM : M.toInt = hi) (h1 : ¬ x < L) (h2 : x ≤ M) : ∃ k : Nat, lo ≤ k ∧ k ≤ hi ∧ x = nI k := by
  have h0 : ¬ x < 0 := by
    intro h
    rw [Int32.lt_iff_toInt_lt] at h h1
    rw [hL] at h1
    rw [Int32.toInt_zero] at h
    omega
  obtain ⟨k, hk, rfl⟩ := nI_of2 hM h0 h2
  refine ⟨k, ?_, hk, rfl⟩
  rw [Int32.lt_iff_toInt_lt, hL] at h1
  have hb := M.toInt_lt
  rw [nI_toInt (by omega)] at h1
  omega

/-! B: the history of a parse, of the kinds alone -/
def hp_u (f : Nat → Nat) (k v : Nat) : Nat → Nat := fun j => if j = k then v else f j
theorem hp_uS {f : Nat → Nat} {k v : Nat} : hp_u f k v k = v := if_pos rfl
theorem hp_uN {f : Nat → Nat} {k v j : Nat} (h : j ≠ k) : hp_u f k v j = f j := if_neg h
/-- open TRYs before token i -/
def hp_oc (g : Nat → Int32) : Nat → Nat
  | 0 => 0
  | i + 1 => if g i = 3 then hp_oc g i + 1 else if g i = 2 then hp_oc g i - 1 else hp_oc g i
/-- their tokens, by level -/
def hp_ot (g : Nat → Int32) : Nat → Nat → Nat
  | 0 => fun _ => 0
  | i + 1 => if g i = 3 then hp_u (hp_ot g i) (hp_oc g i) i else hp_ot g i
/-- the part (1 try, 2 catch, 3 finally) in which token i lies, by level -/
def hp_pt (g : Nat → Int32) : Nat → Nat → Nat
  | 0 => fun _ => 0
  | i + 1 => if g i = 3 then hp_u (hp_pt g i) (hp_oc g i) 1 else if g i = 4 then hp_u (hp_pt g i) (hp_oc g i - 1) 2 else if g i = 5 then hp_u (hp_pt g i) (hp_oc g i - 1) 3 else hp_pt g i
/-- functions begun before token i -/
def hp_fn (g : Nat → Int32) : Nat → Nat
  | 0 => 0
  | i + 1 => if g i = 1 then hp_fn g i + 1 else hp_fn g i
/-- 1: token i lies in a function -/
def hp_in (g : Nat → Int32) : Nat → Nat
  | 0 => 0
  | i + 1 => if g i = 1 then 1 else if g i = 2 then (if hp_oc g i = 0 then 0 else hp_in g i) else hp_in g i

variable {g a : Nat → Int32} {i : Nat}
theorem hp_s1 (h : g i = 1) : hp_oc g (i + 1) = hp_oc g i ∧ hp_ot g (i + 1) = hp_ot g i ∧ hp_pt g (i + 1) = hp_pt g i ∧ hp_fn g (i + 1) = hp_fn g i + 1 ∧ hp_in g (i + 1) = 1 := by
  simp [hp_oc, hp_ot, hp_pt, hp_fn, hp_in, h]
theorem hp_s2a (h : g i = 2) (z : hp_oc g i = 0) : hp_oc g (i + 1) = 0 ∧ hp_ot g (i + 1) = hp_ot g i ∧ hp_pt g (i + 1) = hp_pt g i ∧ hp_fn g (i + 1) = hp_fn g i ∧ hp_in g (i + 1) = 0 := by
  simp [hp_oc, hp_ot, hp_pt, hp_fn, hp_in, h, z]
theorem hp_s2b (h : g i = 2) (z : 0 < hp_oc g i) : hp_oc g (i + 1) = hp_oc g i - 1 ∧ hp_ot g (i + 1) = hp_ot g i ∧ hp_pt g (i + 1) = hp_pt g i ∧ hp_fn g (i + 1) = hp_fn g i ∧ hp_in g (i + 1) = hp_in g i := by
  have z' : ¬ hp_oc g i = 0 := by omega
  simp [hp_oc, hp_ot, hp_pt, hp_fn, hp_in, h, z']
theorem hp_s3 (h : g i = 3) : hp_oc g (i + 1) = hp_oc g i + 1 ∧ hp_ot g (i + 1) = hp_u (hp_ot g i) (hp_oc g i) i ∧ hp_pt g (i + 1) = hp_u (hp_pt g i) (hp_oc g i) 1 ∧ hp_fn g (i + 1) = hp_fn g i ∧ hp_in g (i + 1) = hp_in g i := by
  simp [hp_oc, hp_ot, hp_pt, hp_fn, hp_in, h]
theorem hp_s4 (h : g i = 4) : hp_oc g (i + 1) = hp_oc g i ∧ hp_ot g (i + 1) = hp_ot g i ∧ hp_pt g (i + 1) = hp_u (hp_pt g i) (hp_oc g i - 1) 2 ∧ hp_fn g (i + 1) = hp_fn g i ∧ hp_in g (i + 1) = hp_in g i := by
  simp [hp_oc, hp_ot, hp_pt, hp_fn, hp_in, h]
theorem hp_s5 (h : g i = 5) : hp_oc g (i + 1) = hp_oc g i ∧ hp_ot g (i + 1) = hp_ot g i ∧ hp_pt g (i + 1) = hp_u (hp_pt g i) (hp_oc g i - 1) 3 ∧ hp_fn g (i + 1) = hp_fn g i ∧ hp_in g (i + 1) = hp_in g i := by
  simp [hp_oc, hp_ot, hp_pt, hp_fn, hp_in, h]
/-- a token that opens and closes nothing -/
def hp_pl (x : Int32) : Prop := x = 6 ∨ x = 7 ∨ x = 8 ∨ x = 9 ∨ x = 10 ∨ x = 11
theorem hp_s6 (h : hp_pl (g i)) : hp_oc g (i + 1) = hp_oc g i ∧ hp_ot g (i + 1) = hp_ot g i ∧ hp_pt g (i + 1) = hp_pt g i ∧ hp_fn g (i + 1) = hp_fn g i ∧ hp_in g (i + 1) = hp_in g i := by
  rcases h with h | h | h | h | h | h <;> simp [hp_oc, hp_ot, hp_pt, hp_fn, hp_in, h]

/-- token i is one with which a valid program can go on -/
def hp_tk (g a : Nat → Int32) (i : Nat) : Prop :=
  (hp_in g i = 0 ∧ g i = 1 ∧ hp_fn g i < 4) ∨
  (hp_in g i = 1 ∧
    ((g i = 2 ∧ hp_oc g i = 0) ∨
     (g i = 2 ∧ 0 < hp_oc g i ∧ hp_pt g i (hp_oc g i - 1) ≠ 1) ∨
     g i = 3 ∨
     (g i = 4 ∧ 0 < hp_oc g i ∧ hp_pt g i (hp_oc g i - 1) ≠ 3 ∧ ∃ t : Nat, t ≤ 15 ∧ a i = nI t) ∨
     (g i = 5 ∧ 0 < hp_oc g i ∧ hp_pt g i (hp_oc g i - 1) ≠ 3) ∨
     g i = 6 ∨ g i = 7 ∨
     ((g i = 8 ∨ g i = 9) ∧ ∃ t : Nat, 1 ≤ t ∧ t ≤ 15 ∧ a i = nI t) ∨
     (g i = 10 ∧ ∃ l, l < hp_oc g i ∧ hp_pt g i l = 2) ∨
     (g i = 11 ∧ ∃ f : Nat, hp_fn g i ≤ f ∧ f ≤ 3 ∧ a i = nI f)))
/-- the same, as cases of what happens -/
theorem hp_tc (h : hp_tk g a i) :
    (hp_in g i = 0 ∧ g i = 1 ∧ hp_fn g i < 4) ∨ (hp_in g i = 1 ∧ g i = 2 ∧ hp_oc g i = 0) ∨ (hp_in g i = 1 ∧ g i = 2 ∧ 0 < hp_oc g i ∧ hp_pt g i (hp_oc g i - 1) ≠ 1) ∨ (hp_in g i = 1 ∧ g i = 3) ∨ (hp_in g i = 1 ∧ g i = 4 ∧ 0 < hp_oc g i ∧ hp_pt g i (hp_oc g i - 1) ≠ 3) ∨ (hp_in g i = 1 ∧ g i = 5 ∧ 0 < hp_oc g i ∧ hp_pt g i (hp_oc g i - 1) ≠ 3) ∨ (hp_in g i = 1 ∧ hp_pl (g i)) := by
  unfold hp_pl
  rcases h with ⟨h1, h2, h3⟩ | ⟨h0, ⟨h1, h2⟩ | ⟨h1, h2, h3⟩ | h1 | ⟨h1, h2, h3, -⟩ | ⟨h1, h2, h3⟩ | h1 | h1 | ⟨h1 | h1, -⟩ | ⟨h1, -⟩ | ⟨h1, -⟩⟩
  · exact Or.inl ⟨h1, h2, h3⟩
  · exact Or.inr (Or.inl ⟨h0, h1, h2⟩)
  · exact Or.inr (Or.inr (Or.inl ⟨h0, h1, h2, h3⟩))
  · exact Or.inr (Or.inr (Or.inr (Or.inl ⟨h0, h1⟩)))
  · exact Or.inr (Or.inr (Or.inr (Or.inr (Or.inl ⟨h0, h1, h2, h3⟩))))
  · exact Or.inr (Or.inr (Or.inr (Or.inr (Or.inr (Or.inl ⟨h0, h1, h2, h3⟩)))))
  all_goals exact Or.inr (Or.inr (Or.inr (Or.inr (Or.inr (Or.inr ⟨h0, by simp [h1]⟩)))))

theorem hp_in01 : ∀ i, hp_in g i = 0 ∨ hp_in g i = 1
  | 0 => Or.inl rfl
  | i + 1 => by
    have := hp_in01 i
    simp only [hp_in]
    split
    · exact Or.inr rfl
    · split
      · split
        · exact Or.inl rfl
        · exact this
      · exact this
theorem hp_ocle : ∀ i, hp_oc g i ≤ i
  | 0 => Nat.le_refl _
  | i + 1 => by
    have := hp_ocle i
    simp only [hp_oc]
    split
    · omega
    · split <;> omega
theorem hp_fnS (i : Nat) : hp_fn g i ≤ hp_fn g (i + 1) := by
  simp only [hp_fn]; split <;> omega
theorem hp_fnM {i : Nat} : ∀ j, i ≤ j → hp_fn g i ≤ hp_fn g j
  | 0, h => by have : i = 0 := by omega
               rw [this]; exact Nat.le_refl _
  | j + 1, h => by
    by_cases e : i = j + 1
    · rw [e]; exact Nat.le_refl _
    · exact Nat.le_trans (hp_fnM j (by omega)) (hp_fnS j)
theorem hp_fnL {i j : Nat} (h : hp_fn g i < hp_fn g j) : i < j := by
  rcases Nat.lt_or_ge i j with z | z
  · exact z
  · have := hp_fnM (g := g) i z
    omega
/-- a FUNC token is known by its number -/
theorem hp_fnU {i j : Nat} (hi : g i = 1) (hj : g j = 1) (h : hp_fn g i = hp_fn g j) : i = j := by
  have a1 := (hp_s1 hi).2.2.2.1
  have a2 := (hp_s1 hj).2.2.2.1
  rcases Nat.lt_trichotomy i j with z | z | z
  · have := hp_fnM (g := g) j (show i + 1 ≤ j from z); omega
  · exact z
  · have := hp_fnM (g := g) i (show j + 1 ≤ i from z); omega
theorem hp_fnE {f : Nat} : ∀ n, f < hp_fn g n → ∃ p, p < n ∧ g p = 1 ∧ hp_fn g p = f
  | 0, h => absurd h (Nat.not_lt_zero _)
  | n + 1, h => by
    by_cases e : f < hp_fn g n
    · obtain ⟨p, h1, h2⟩ := hp_fnE n e
      exact ⟨p, by omega, h2⟩
    · simp only [hp_fn] at h
      split at h
      · exact ⟨n, by omega, by assumption, by omega⟩
      · exact absurd h e
/-- what an accepted beginning holds: counts, and every open TRY by level -/
theorem hp_H : ∀ i, (∀ j, j < i → hp_tk g a j) → (hp_in g i = 0 → hp_oc g i = 0) ∧ hp_fn g i ≤ 4 ∧ 2 * hp_fn g i ≤ i + hp_in g i ∧ (0 < i → 0 < hp_fn g i) ∧
    ∀ l, l < hp_oc g i → hp_ot g i l < i ∧ g (hp_ot g i l) = 3 ∧ hp_oc g (hp_ot g i l) = l ∧ hp_in g (hp_ot g i l) = 1 ∧ hp_fn g (hp_ot g i l) = hp_fn g i ∧ 1 ≤ hp_pt g i l ∧ hp_pt g i l ≤ 3 ∧ ∀ m, m < l → hp_ot g (hp_ot g i l) m = hp_ot g i m ∧ hp_pt g (hp_ot g i l) m = hp_pt g i m := by
  intro i
  induction i with
  | zero => intro _; exact ⟨fun _ => rfl, Nat.zero_le _, Nat.zero_le _, fun h => h, fun l h => absurd h (Nat.not_lt_zero _)⟩
  | succ i ih =>
  intro K
  obtain ⟨b1, b2, b3, b4, b5⟩ := ih fun j hj => K j (by omega)
  rcases hp_tc (K i (by omega)) with ⟨h1, h2, h3⟩ | ⟨h0, h1, h2⟩ | ⟨h0, h1, h2, h3⟩ | ⟨h0, h1⟩ | ⟨h0, h1, h2, h3⟩ | ⟨h0, h1, h2, h3⟩ | ⟨h0, h1⟩
  · obtain ⟨e1, e2, e3, e4, e5⟩ := hp_s1 h2
    have z := b1 h1
    rw [e1, e2, e3, e4, e5]
    exact ⟨fun h => absurd h (by decide), by omega, by omega, fun _ => by omega, fun l hl => by omega⟩
  · obtain ⟨e1, e2, e3, e4, e5⟩ := hp_s2a h1 h2
    rw [e1, e2, e3, e4, e5]
    refine ⟨fun _ => rfl, b2, by omega, fun _ => ?_, fun l hl => absurd hl (Nat.not_lt_zero _)⟩
    rcases Nat.eq_zero_or_pos i with z | z
    · subst z; simp [hp_in] at h0
    · exact b4 z
  all_goals
    have ip : 0 < i := by
      rcases Nat.eq_zero_or_pos i with z | z
      · subst z; simp [hp_in] at h0
      · exact z
  · obtain ⟨e1, e2, e3, e4, e5⟩ := hp_s2b h1 h2
    rw [e1, e2, e3, e4, e5]
    refine ⟨fun h => by omega, b2, by omega, fun _ => b4 ip, fun l hl => ?_⟩
    obtain ⟨c1, c2⟩ := b5 l (by omega)
    exact ⟨by omega, c2⟩
  · obtain ⟨e1, e2, e3, e4, e5⟩ := hp_s3 h1
    rw [e1, e2, e3, e4, e5]
    refine ⟨fun h => by omega, b2, by omega, fun _ => b4 ip, fun l hl => ?_⟩
    by_cases e : l = hp_oc g i
    · subst e
      rw [hp_uS, hp_uS]
      refine ⟨by omega, h1, rfl, h0, rfl, by omega, by omega, fun m hm => ?_⟩
      rw [hp_uN (by omega), hp_uN (by omega)]
      exact ⟨rfl, rfl⟩
    · rw [hp_uN e, hp_uN e]
      obtain ⟨c1, c2, c3, c4, c5, c6, c7, c8⟩ := b5 l (by omega)
      refine ⟨by omega, c2, c3, c4, c5, c6, c7, fun m hm => ?_⟩
      rw [hp_uN (by omega), hp_uN (by omega)]
      exact c8 m hm
  · obtain ⟨e1, e2, e3, e4, e5⟩ := hp_s4 h1
    rw [e1, e2, e3, e4, e5]
    refine ⟨fun h => by omega, b2, by omega, fun _ => b4 ip, fun l hl => ?_⟩
    obtain ⟨c1, c2, c3, c4, c5, c6, c7, c8⟩ := b5 l hl
    refine ⟨by omega, c2, c3, c4, c5, ?_, ?_, fun m hm => ?_⟩
    · by_cases e : l = hp_oc g i - 1
      · rw [e, hp_uS]; omega
      · rw [hp_uN e]; exact c6
    · by_cases e : l = hp_oc g i - 1
      · rw [e, hp_uS]; omega
      · rw [hp_uN e]; exact c7
    · rw [hp_uN (by omega)]
      exact c8 m hm
  · obtain ⟨e1, e2, e3, e4, e5⟩ := hp_s5 h1
    rw [e1, e2, e3, e4, e5]
    refine ⟨fun h => by omega, b2, by omega, fun _ => b4 ip, fun l hl => ?_⟩
    obtain ⟨c1, c2, c3, c4, c5, c6, c7, c8⟩ := b5 l hl
    refine ⟨by omega, c2, c3, c4, c5, ?_, ?_, fun m hm => ?_⟩
    · by_cases e : l = hp_oc g i - 1
      · rw [e, hp_uS]; omega
      · rw [hp_uN e]; exact c6
    · by_cases e : l = hp_oc g i - 1
      · rw [e, hp_uS]; omega
      · rw [hp_uN e]; exact c7
    · rw [hp_uN (by omega)]
      exact c8 m hm
  · obtain ⟨e1, e2, e3, e4, e5⟩ := hp_s6 h1
    rw [e1, e2, e3, e4, e5]
    refine ⟨fun h => by omega, b2, by omega, fun _ => b4 ip, fun l hl => ?_⟩
    obtain ⟨c1, c2⟩ := b5 l hl
    exact ⟨by omega, c2⟩
end HP
end
section
section HC
variable {g a : Nat → Int32} {n : Nat}
/-! C: which TRY a clause belongs to -/
/-- token x is a CATCH, FINALLY or END of the TRY t -/
def ow_O (g : Nat → Int32) (t x : Nat) : Prop := (g x = 2 ∨ g x = 4 ∨ g x = 5) ∧ 0 < hp_oc g x ∧ hp_ot g x (hp_oc g x - 1) = t
/-- TRY t is open at q -/
def ow_P (g : Nat → Int32) (t q : Nat) : Prop := hp_oc g t < hp_oc g q ∧ hp_ot g q (hp_oc g t) = t
/-- tokens below i are accepted -/
def ow_K (g a : Nat → Int32) (i : Nat) : Prop := ∀ j, j < i → hp_tk g a j
theorem ow_Kl {i j : Nat} (h : ow_K g a j) (hi : i ≤ j) : ow_K g a i := fun k hk => h k (by omega)
/-- an owner: a TRY before, one level up, and open here -/
theorem ow_1 {t x : Nat} (K : ow_K g a x) (h : ow_O g t x) : t < x ∧ g t = 3 ∧ hp_oc g t = hp_oc g x - 1 ∧ hp_fn g t = hp_fn g x ∧ hp_in g t = 1 ∧ ow_P g t x := by
  obtain ⟨h1, h2, h3⟩ := h
  obtain ⟨c1, c2, c3, c4, c5, c6, c7, c8⟩ := (hp_H x K).2.2.2.2 (hp_oc g x - 1) (by omega)
  rw [h3] at c1 c2 c3 c4 c5
  refine ⟨c1, c2, c3, c5, c4, ?_, ?_⟩
  · omega
  · rw [c3]; exact h3
/-- an open TRY: what it is -/
theorem ow_2 {t q : Nat} (K : ow_K g a q) (h : ow_P g t q) : t < q ∧ g t = 3 ∧ hp_fn g t = hp_fn g q ∧ hp_in g t = 1 ∧ 1 ≤ hp_pt g q (hp_oc g t) ∧ hp_pt g q (hp_oc g t) ≤ 3 ∧ ∀ m, m < hp_oc g t → hp_ot g t m = hp_ot g q m ∧ hp_pt g t m = hp_pt g q m := by
  obtain ⟨h1, h2⟩ := h
  obtain ⟨c1, c2, c3, c4, c5, c6, c7, c8⟩ := (hp_H q K).2.2.2.2 (hp_oc g t) h1
  rw [h2] at c1 c2 c4 c5 c8
  exact ⟨c1, c2, c5, c4, c6, c7, c8⟩
/-- the parent of a place inside a TRY -/
theorem ow_3 {q : Nat} (K : ow_K g a q) (h : 0 < hp_oc g q) : ow_P g (hp_ot g q (hp_oc g q - 1)) q ∧ hp_oc g (hp_ot g q (hp_oc g q - 1)) = hp_oc g q - 1 := by
  obtain ⟨c1, c2, c3, c4, c5, c6, c7, c8⟩ := (hp_H q K).2.2.2.2 (hp_oc g q - 1) (by omega)
  refine ⟨⟨?_, ?_⟩, c3⟩
  · rw [c3]; omega
  · rw [c3]
theorem ow_in {q : Nat} (K : ow_K g a q) (h : 0 < hp_oc g q) : hp_in g q = 1 := by
  rcases hp_in01 (g := g) q with z | z
  · have := (hp_H q K).1 z; omega
  · exact z
/-- an open TRY stays open but for its own END -/
theorem ow_4 {t q : Nat} (K : ow_K g a (q + 1)) (h : ow_P g t q) (hn : ¬ (g q = 2 ∧ hp_oc g q = hp_oc g t + 1)) : ow_P g t (q + 1) := by
  obtain ⟨h1, h2⟩ := h
  rcases hp_tc (K q (by omega)) with ⟨i1, i2, i3⟩ | ⟨i0, i1, i2⟩ | ⟨i0, i1, i2, i3⟩ | ⟨i0, i1⟩ | ⟨i0, i1, i2, i3⟩ | ⟨i0, i1, i2, i3⟩ | ⟨i0, i1⟩
  · have := (hp_H q (ow_Kl K (by omega))).1 i1; omega
  · omega
  · obtain ⟨e1, e2, e3, e4, e5⟩ := hp_s2b i1 i2
    have : ¬ hp_oc g q = hp_oc g t + 1 := fun e => hn ⟨i1, e⟩
    unfold ow_P; rw [e1, e2]; exact ⟨by omega, h2⟩
  · obtain ⟨e1, e2, e3, e4, e5⟩ := hp_s3 i1
    unfold ow_P; rw [e1, e2, hp_uN (by omega)]; exact ⟨by omega, h2⟩
  · obtain ⟨e1, e2, e3, e4, e5⟩ := hp_s4 i1
    unfold ow_P; rw [e1, e2]; exact ⟨h1, h2⟩
  · obtain ⟨e1, e2, e3, e4, e5⟩ := hp_s5 i1
    unfold ow_P; rw [e1, e2]; exact ⟨h1, h2⟩
  · obtain ⟨e1, e2, e3, e4, e5⟩ := hp_s6 i1
    unfold ow_P; rw [e1, e2]; exact ⟨h1, h2⟩
/-- and backwards: what is open at q + 1 and older than q was open at q, with its part kept but for a clause of its own at q -/
theorem ow_5 {t q : Nat} (K : ow_K g a (q + 1)) (h : ow_P g t (q + 1)) (htq : t ≠ q) : ow_P g t q ∧ (hp_pt g (q + 1) (hp_oc g t) = hp_pt g q (hp_oc g t) ∨ (g q = 4 ∧ ow_O g t q ∧ hp_pt g q (hp_oc g t) ≠ 3 ∧ hp_pt g (q + 1) (hp_oc g t) = 2) ∨ (g q = 5 ∧ ow_O g t q ∧ hp_pt g q (hp_oc g t) ≠ 3 ∧ hp_pt g (q + 1) (hp_oc g t) = 3)) := by
  obtain ⟨h1, h2⟩ := h
  rcases hp_tc (K q (by omega)) with ⟨i1, i2, i3⟩ | ⟨i0, i1, i2⟩ | ⟨i0, i1, i2, i3⟩ | ⟨i0, i1⟩ | ⟨i0, i1, i2, i3⟩ | ⟨i0, i1, i2, i3⟩ | ⟨i0, i1⟩
  · have z := (hp_H q (ow_Kl K (by omega))).1 i1
    rw [(hp_s1 i2).1] at h1; omega
  · rw [(hp_s2a i1 i2).1] at h1; omega
  · obtain ⟨e1, e2, e3, e4, e5⟩ := hp_s2b i1 i2
    rw [e1] at h1; rw [e2] at h2; rw [e3]
    exact ⟨⟨by omega, h2⟩, Or.inl rfl⟩
  · obtain ⟨e1, e2, e3, e4, e5⟩ := hp_s3 i1
    rw [e1] at h1; rw [e2] at h2; rw [e3]
    by_cases e : hp_oc g t = hp_oc g q
    · rw [e, hp_uS] at h2; exact absurd h2.symm htq
    · rw [hp_uN e] at h2; rw [hp_uN e]
      exact ⟨⟨by omega, h2⟩, Or.inl rfl⟩
  · obtain ⟨e1, e2, e3, e4, e5⟩ := hp_s4 i1
    rw [e1] at h1; rw [e2] at h2; rw [e3]
    refine ⟨⟨h1, h2⟩, ?_⟩
    by_cases e : hp_oc g t = hp_oc g q - 1
    · right; left
      rw [e, hp_uS]
      exact ⟨i1, ⟨Or.inr (Or.inl i1), i2, by rw [← e]; exact h2⟩, i3, rfl⟩
    · left; rw [hp_uN e]
  · obtain ⟨e1, e2, e3, e4, e5⟩ := hp_s5 i1
    rw [e1] at h1; rw [e2] at h2; rw [e3]
    refine ⟨⟨h1, h2⟩, ?_⟩
    by_cases e : hp_oc g t = hp_oc g q - 1
    · right; right
      rw [e, hp_uS]
      exact ⟨i1, ⟨Or.inr (Or.inr i1), i2, by rw [← e]; exact h2⟩, i3, rfl⟩
    · left; rw [hp_uN e]
  · obtain ⟨e1, e2, e3, e4, e5⟩ := hp_s6 i1
    rw [e1] at h1; rw [e2] at h2; rw [e3]
    exact ⟨⟨h1, h2⟩, Or.inl rfl⟩
/-- the place behind a clause lies in it -/
theorem ow_6 {t x : Nat} (K : ow_K g a (x + 1)) (h : ow_O g t x) : (g x = 2 → hp_oc g (x + 1) = hp_oc g t ∧ hp_in g (x + 1) = 1 ∧ hp_fn g (x + 1) = hp_fn g t ∧ (∀ m, m < hp_oc g t → hp_ot g (x + 1) m = hp_ot g t m ∧ hp_pt g (x + 1) m = hp_pt g t m)) ∧
    (g x = 4 ∨ g x = 5 → hp_oc g (x + 1) = hp_oc g t + 1 ∧ hp_ot g (x + 1) (hp_oc g t) = t ∧ hp_in g (x + 1) = 1 ∧ hp_fn g (x + 1) = hp_fn g t) ∧ (g x = 4 → hp_pt g (x + 1) (hp_oc g t) = 2) ∧ (g x = 5 → hp_pt g (x + 1) (hp_oc g t) = 3) := by
  have Kx := ow_Kl K (show x ≤ x + 1 by omega)
  obtain ⟨c1, c2, c3, c4, c5, c6⟩ := ow_1 Kx h
  obtain ⟨h1, h2, h3⟩ := h
  have hin := ow_in Kx h2
  obtain ⟨d1, d2, d3, d4, d5, d6, d7⟩ := ow_2 Kx c6
  refine ⟨fun e => ?_, fun e => ?_, fun e => ?_, fun e => ?_⟩
  · obtain ⟨e1, e2, e3, e4, e5⟩ := hp_s2b e h2
    rw [e1, e2, e3, e4, e5]
    exact ⟨c3.symm, hin, c4.symm, fun m hm => ⟨(d7 m hm).1.symm, (d7 m hm).2.symm⟩⟩
  · rcases e with e | e
    · obtain ⟨e1, e2, e3, e4, e5⟩ := hp_s4 e
      rw [e1, e2, e4, e5]
      exact ⟨by omega, c6.2, hin, c4.symm⟩
    · obtain ⟨e1, e2, e3, e4, e5⟩ := hp_s5 e
      rw [e1, e2, e4, e5]
      exact ⟨by omega, c6.2, hin, c4.symm⟩
  · rw [(hp_s4 e).2.2.1, c3, hp_uS]
  · rw [(hp_s5 e).2.2.1, c3, hp_uS]
/-- behind a clause: an END closes for ever, a FINALLY is the last part -/
theorem ow_7 {t x : Nat} (hx : ow_O g t x) : ∀ q, ow_K g a q → x < q → (g x = 2 → ¬ ow_P g t q) ∧ (ow_P g t q → 2 ≤ hp_pt g q (hp_oc g t)) ∧ (g x = 5 → ow_P g t q → hp_pt g q (hp_oc g t) = 3) := by
  intro q
  induction q with
  | zero => intro _ h; omega
  | succ q ih =>
  intro K hq
  by_cases e : x = q
  · subst e
    obtain ⟨c1, c2, c3, c4⟩ := ow_6 K hx
    refine ⟨fun e h => ?_, fun h => ?_, fun e _ => c4 e⟩
    · have := h.1; rw [(c1 e).1] at this; omega
    · rcases hx.1 with e | e | e
      · have := h.1; rw [(c1 e).1] at this; omega
      · rw [c3 e]; omega
      · rw [c4 e]; omega
  · obtain ⟨i1, i2, i3⟩ := ih (ow_Kl K (by omega)) (by omega)
    have htx := (ow_1 (ow_Kl K (by omega)) hx).1
    refine ⟨fun e h => i1 e (ow_5 K h (by omega)).1, fun h => ?_, fun e h => ?_⟩
    · obtain ⟨o, s | ⟨-, -, -, s⟩ | ⟨-, -, -, s⟩⟩ := ow_5 K h (by omega)
      · rw [s]; exact i2 o
      · rw [s]; omega
      · rw [s]; omega
    · obtain ⟨o, s | ⟨-, -, s, -⟩ | ⟨-, -, s, -⟩⟩ := ow_5 K h (by omega)
      · rw [s]; exact i3 e o
      · exact absurd (i3 e o) s
      · exact absurd (i3 e o) s
/-- nothing of t behind its END; no CATCH and no FINALLY behind its FINALLY -/
theorem ow_8 {t x y : Nat} (K : ow_K g a (y + 1)) (hx : ow_O g t x) (hy : ow_O g t y) (h : x < y) : g x ≠ 2 ∧ (g x = 5 → g y = 2) := by
  have Ky := ow_Kl K (show y ≤ y + 1 by omega)
  obtain ⟨c1, c2, c3⟩ := ow_7 hx y Ky h
  obtain ⟨d1, d2, d3, d4, d5, d6⟩ := ow_1 Ky hy
  refine ⟨fun e => c1 e d6, fun e => ?_⟩
  have p3 := c3 e d6
  rcases hp_tc (K y (by omega)) with ⟨i1, i2, i3⟩ | ⟨i0, i1, i2⟩ | ⟨i0, i1, i2, i3⟩ | ⟨i0, i1⟩ | ⟨i0, i1, i2, i3⟩ | ⟨i0, i1, i2, i3⟩ | ⟨i0, i1⟩
  · rcases hy.1 with z | z | z <;> rw [i2] at z <;> exact absurd z (by decide)
  · exact i1
  · exact i1
  · rcases hy.1 with z | z | z <;> rw [i1] at z <;> exact absurd z (by decide)
  · rw [← d3] at i3; exact absurd p3 i3
  · rw [← d3] at i3; exact absurd p3 i3
  · rcases hy.1 with z | z | z <;> rw [z] at i1 <;> exact absurd i1 (by unfold hp_pl; decide)
/-- in its try body no clause has come yet; before its FINALLY none -/
theorem ow_9 {t x q : Nat} (K : ow_K g a q) (hq : ow_P g t q) (hx : ow_O g t x) (h : hp_pt g q (hp_oc g t) = 1 ∨ (hp_pt g q (hp_oc g t) ≠ 3 ∧ g x = 5)) : q ≤ x := by
  rcases Nat.lt_or_ge x q with z | z
  · obtain ⟨c1, c2, c3⟩ := ow_7 hx q K z
    rcases h with h | ⟨h, e⟩
    · have := c2 hq; omega
    · exact absurd (c3 e hq) h
  · exact z

/-! D: a search for a clause -/
/-- the compiled program -/
def ow_G (g a : Nat → Int32) (n : Nat) : Prop := n ≤ 32 ∧ ow_K g a n ∧ hp_in g n = 0 ∧ 0 < n ∧ ∀ i, i < n → g i = 11 → ∃ f : Nat, hp_fn g i ≤ f ∧ f < hp_fn g n ∧ a i = nI f
/-- r is the least token below n with P, or -1 -/
def ow_L (n : Nat) (P : Nat → Prop) (r : Int32) : Prop := (∃ x, x < n ∧ r = nI x ∧ P x ∧ ∀ y, y < x → ¬ P y) ∨ (r = -1 ∧ ∀ y, y < n → ¬ P y)
theorem ow_Le (n : Nat) (P : Nat → Prop) : ∃ r, ow_L n P r := by
  induction n with
  | zero => exact ⟨-1, Or.inr ⟨rfl, fun y h => absurd h (Nat.not_lt_zero _)⟩⟩
  | succ n ih =>
  obtain ⟨r, ⟨x, h1, h2⟩ | ⟨h1, h2⟩⟩ := ih
  · exact ⟨r, Or.inl ⟨x, by omega, h2⟩⟩
  · rcases Classical.em (P n) with z | z
    · exact ⟨nI n, Or.inl ⟨n, by omega, rfl, z, h2⟩⟩
    · refine ⟨-1, Or.inr ⟨rfl, fun y hy => ?_⟩⟩
      by_cases e : y = n
      · rw [e]; exact z
      · exact h2 y (by omega)
/-- at a first P the answer is known -/
theorem ow_Lh {P : Nat → Prop} {r : Int32} {x : Nat} (h : ow_L n P r) (hx : x < n) (hP : P x) (hl : ∀ y, y < x → ¬ P y) : r = nI x := by
  rcases h with ⟨x', h1, h2, h3, h4⟩ | ⟨h1, h2⟩
  · rcases Nat.lt_trichotomy x x' with z | z | z
    · exact absurd hP (h4 x z)
    · rw [h2, z]
    · exact absurd h3 (hl x' z)
  · exact absurd hP (h2 x hx)
theorem ow_Ln {P : Nat → Prop} {r : Int32} (h : ow_L n P r) (hl : ∀ y, y < n → ¬ P y) : r = -1 := by
  rcases h with ⟨x', h1, h2, h3, h4⟩ | ⟨h1, h2⟩
  · exact absurd h3 (hl x' h1)
  · exact h1
/-- c is the next clause of t behind q -/
def ow_N (g : Nat → Int32) (n t q c : Nat) : Prop := q < c ∧ c < n ∧ ow_O g t c ∧ ∀ y, q < y → y < c → ¬ ow_O g t y
/-- a place of t from which a next clause is looked for -/
def ow_S (g : Nat → Int32) (t q : Nat) : Prop := (q = t ∧ g t = 3) ∨ (ow_O g t q ∧ g q ≠ 2)
theorem ow_Sp {t q : Nat} (K : ow_K g a (q + 1)) (h : ow_S g t q) : ow_P g t (q + 1) ∧ hp_oc g (q + 1) = hp_oc g t + 1 := by
  rcases h with ⟨rfl, h⟩ | ⟨h, e⟩
  · obtain ⟨e1, e2, e3, e4, e5⟩ := hp_s3 h
    unfold ow_P
    rw [e1, e2, hp_uS]
    exact ⟨⟨by omega, rfl⟩, rfl⟩
  · have := (ow_6 K h).2.1 (by rcases h.1 with z | z | z; exact absurd z e; exact Or.inl z; exact Or.inr z)
    unfold ow_P
    rw [this.1, this.2.1]
    exact ⟨⟨by omega, rfl⟩, rfl⟩
/-- a program's end has nothing open -/
theorem ow_Ge (G : ow_G g a n) : hp_oc g n = 0 := (hp_H n G.2.1).1 G.2.2.1
theorem ow_Gn (G : ow_G g a n) {t q : Nat} (h : ow_P g t q) (hq : q ≤ n) : q < n := by
  rcases Nat.lt_or_ge q n with z | z
  · exact z
  · have : q = n := by omega
    subst this
    have := h.1; rw [ow_Ge G] at this; omega
/-- an own clause of the top TRY -/
theorem ow_Ot {t q : Nat} (hq : ow_P g t q) (hc : hp_oc g q = hp_oc g t + 1) (hg : g q = 2 ∨ g q = 4 ∨ g q = 5) : ow_O g t q :=
  ⟨hg, by omega, by rw [hc]; exact hq.2⟩
theorem ow_On {t q : Nat} (K : ow_K g a q) (hc : hp_oc g q ≠ hp_oc g t + 1) : ¬ ow_O g t q := fun h => by
  have := (ow_1 K h).2.2.1
  have := h.2.1
  omega
end HC
end
