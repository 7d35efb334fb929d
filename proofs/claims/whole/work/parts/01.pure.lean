section HP
/-! A: numbers, stores -/
theorem hp_us {f : Nat → Int32} {k : Nat} {x : Int32} : upd f k x k = x := if_pos rfl
theorem hp_un {f : Nat → Int32} {k j : Nat} {x : Int32} (h : j ≠ k) : upd f k x j = f j := if_neg h
theorem hp_m1 (n : Nat) : nI (n + 1) + (-1) = nI n := by
  rw [← nI_1, Int32.add_assoc, show (1 : Int32) + (-1) = 0 from rfl, Int32.add_zero]
theorem hp_ne1 {a : Nat} (h : a < 2 ^ 31) : ¬ nI a = -1 := by
  intro e
  have := nI_pos (n := a) h
  rw [e] at this
  exact this (by decide)
theorem hp_eq {a b : Nat} (h : nI a = nI b) (ha : a < 2 ^ 31) (hb : b < 2 ^ 31) : a = b := (nI_eq ha hb).mp h
theorem hp_le {a b : Nat} {A B : Prop} (ha : a < 2 ^ 31) (hb : b < 2 ^ 31) (f : a ≤ b → A) (g : b < a → B) : (nI a ≤ nI b → A) ∧ (¬ nI a ≤ nI b → B) :=
  ⟨fun h => f ((nI_leI ha hb).mp h), fun h => g (Nat.lt_of_not_le fun q => h ((nI_leI ha hb).mpr q))⟩
theorem hp_c0 : (0 : Int32).toNatClampNeg = 0 := by decide
theorem hp_nb0 : narrow .boolean (.int 0) = .int 0 := by rfl
theorem hp_nb1 : narrow .boolean (.int 1) = .int 1 := by rfl
/-- a small number of Int32 is a natural one -/
theorem hp_rng {x : Int32} {lo hi : Nat} {L M : Int32} (hL : L.toInt = lo) (hM : M.toInt = hi) (h1 : ¬ x < L) (h2 : x ≤ M) : ∃ k : Nat, lo ≤ k ∧ k ≤ hi ∧ x = nI k := by
  have h0 : ¬ x < 0 := by
    intro h
    rw [Int32.lt_iff_toInt_lt] at h h1
    rw [hL] at h1
    rw [Int32.toInt_zero] at h
    omega
  obtain ⟨k, hk, rfl⟩ := nI_of2 hM h0 h2
  refine ⟨k, ?_, hk, rfl⟩
  rw [Int32.lt_iff_toInt_lt, hL] at h1
  have hb := M.toInt_lt
  rw [nI_toInt (by omega)] at h1
  omega

/-! B: the history of a parse, of the kinds alone -/
def hp_u (f : Nat → Nat) (k v : Nat) : Nat → Nat := fun j => if j = k then v else f j
theorem hp_uS {f : Nat → Nat} {k v : Nat} : hp_u f k v k = v := if_pos rfl
theorem hp_uN {f : Nat → Nat} {k v j : Nat} (h : j ≠ k) : hp_u f k v j = f j := if_neg h
/-- unclosed TRYs before token i -/
def hp_oc (g : Nat → Int32) : Nat → Nat
  | 0 => 0
  | i + 1 => if g i = 3 then hp_oc g i + 1 else if g i = 2 then hp_oc g i - 1 else hp_oc g i
/-- their tokens, by level -/
def hp_ot (g : Nat → Int32) : Nat → Nat → Nat
  | 0 => fun _ => 0
  | i + 1 => if g i = 3 then hp_u (hp_ot g i) (hp_oc g i) i else hp_ot g i
/-- the part (1 try, 2 catch, 3 finally) in which token i lies, by level -/
def hp_pt (g : Nat → Int32) : Nat → Nat → Nat
  | 0 => fun _ => 0
  | i + 1 => if g i = 3 then hp_u (hp_pt g i) (hp_oc g i) 1 else if g i = 4 then hp_u (hp_pt g i) (hp_oc g i - 1) 2 else if g i = 5 then hp_u (hp_pt g i) (hp_oc g i - 1) 3 else hp_pt g i
/-- functions begun before token i -/
def hp_fn (g : Nat → Int32) : Nat → Nat
  | 0 => 0
  | i + 1 => if g i = 1 then hp_fn g i + 1 else hp_fn g i
/-- 1: token i lies in a function -/
def hp_in (g : Nat → Int32) : Nat → Nat
  | 0 => 0
  | i + 1 => if g i = 1 then 1 else if g i = 2 then (if hp_oc g i = 0 then 0 else hp_in g i) else hp_in g i

variable {g a : Nat → Int32} {i : Nat}
theorem hp_s1 (h : g i = 1) : hp_oc g (i + 1) = hp_oc g i ∧ hp_ot g (i + 1) = hp_ot g i ∧ hp_pt g (i + 1) = hp_pt g i ∧ hp_fn g (i + 1) = hp_fn g i + 1 ∧ hp_in g (i + 1) = 1 := by
  simp [hp_oc, hp_ot, hp_pt, hp_fn, hp_in, h]
theorem hp_s2a (h : g i = 2) (z : hp_oc g i = 0) : hp_oc g (i + 1) = 0 ∧ hp_ot g (i + 1) = hp_ot g i ∧ hp_pt g (i + 1) = hp_pt g i ∧ hp_fn g (i + 1) = hp_fn g i ∧ hp_in g (i + 1) = 0 := by
  simp [hp_oc, hp_ot, hp_pt, hp_fn, hp_in, h, z]
theorem hp_s2b (h : g i = 2) (z : 0 < hp_oc g i) : hp_oc g (i + 1) = hp_oc g i - 1 ∧ hp_ot g (i + 1) = hp_ot g i ∧ hp_pt g (i + 1) = hp_pt g i ∧ hp_fn g (i + 1) = hp_fn g i ∧ hp_in g (i + 1) = hp_in g i := by
  have z' : ¬ hp_oc g i = 0 := by omega
  simp [hp_oc, hp_ot, hp_pt, hp_fn, hp_in, h, z']
theorem hp_s3 (h : g i = 3) : hp_oc g (i + 1) = hp_oc g i + 1 ∧ hp_ot g (i + 1) = hp_u (hp_ot g i) (hp_oc g i) i ∧ hp_pt g (i + 1) = hp_u (hp_pt g i) (hp_oc g i) 1 ∧ hp_fn g (i + 1) = hp_fn g i ∧ hp_in g (i + 1) = hp_in g i := by
  simp [hp_oc, hp_ot, hp_pt, hp_fn, hp_in, h]
theorem hp_s4 (h : g i = 4) : hp_oc g (i + 1) = hp_oc g i ∧ hp_ot g (i + 1) = hp_ot g i ∧ hp_pt g (i + 1) = hp_u (hp_pt g i) (hp_oc g i - 1) 2 ∧ hp_fn g (i + 1) = hp_fn g i ∧ hp_in g (i + 1) = hp_in g i := by
  simp [hp_oc, hp_ot, hp_pt, hp_fn, hp_in, h]
theorem hp_s5 (h : g i = 5) : hp_oc g (i + 1) = hp_oc g i ∧ hp_ot g (i + 1) = hp_ot g i ∧ hp_pt g (i + 1) = hp_u (hp_pt g i) (hp_oc g i - 1) 3 ∧ hp_fn g (i + 1) = hp_fn g i ∧ hp_in g (i + 1) = hp_in g i := by
  simp [hp_oc, hp_ot, hp_pt, hp_fn, hp_in, h]
/-- a token that opens and closes nothing -/
def hp_pl (x : Int32) : Prop := x = 6 ∨ x = 7 ∨ x = 8 ∨ x = 9 ∨ x = 10 ∨ x = 11
theorem hp_s6 (h : hp_pl (g i)) : hp_oc g (i + 1) = hp_oc g i ∧ hp_ot g (i + 1) = hp_ot g i ∧ hp_pt g (i + 1) = hp_pt g i ∧ hp_fn g (i + 1) = hp_fn g i ∧ hp_in g (i + 1) = hp_in g i := by
  rcases h with h | h | h | h | h | h <;> simp [hp_oc, hp_ot, hp_pt, hp_fn, hp_in, h]

/-- token i is one with which a valid program can go on -/
def hp_tk (g a : Nat → Int32) (i : Nat) : Prop :=
  (hp_in g i = 0 ∧ g i = 1 ∧ hp_fn g i < 4) ∨
  (hp_in g i = 1 ∧
    ((g i = 2 ∧ hp_oc g i = 0) ∨
     (g i = 2 ∧ 0 < hp_oc g i ∧ hp_pt g i (hp_oc g i - 1) ≠ 1) ∨
     g i = 3 ∨
     (g i = 4 ∧ 0 < hp_oc g i ∧ hp_pt g i (hp_oc g i - 1) ≠ 3 ∧ ∃ t : Nat, t ≤ 15 ∧ a i = nI t) ∨
     (g i = 5 ∧ 0 < hp_oc g i ∧ hp_pt g i (hp_oc g i - 1) ≠ 3) ∨
     g i = 6 ∨ g i = 7 ∨
     ((g i = 8 ∨ g i = 9) ∧ ∃ t : Nat, 1 ≤ t ∧ t ≤ 15 ∧ a i = nI t) ∨
     (g i = 10 ∧ ∃ l, l < hp_oc g i ∧ hp_pt g i l = 2) ∨
     (g i = 11 ∧ ∃ f : Nat, hp_fn g i ≤ f ∧ f ≤ 3 ∧ a i = nI f)))
/-- the same, as cases of what happens -/
theorem hp_tc (h : hp_tk g a i) :
    (hp_in g i = 0 ∧ g i = 1 ∧ hp_fn g i < 4) ∨ (hp_in g i = 1 ∧ g i = 2 ∧ hp_oc g i = 0) ∨ (hp_in g i = 1 ∧ g i = 2 ∧ 0 < hp_oc g i ∧ hp_pt g i (hp_oc g i - 1) ≠ 1) ∨ (hp_in g i = 1 ∧ g i = 3) ∨ (hp_in g i = 1 ∧ g i = 4 ∧ 0 < hp_oc g i ∧ hp_pt g i (hp_oc g i - 1) ≠ 3) ∨ (hp_in g i = 1 ∧ g i = 5 ∧ 0 < hp_oc g i ∧ hp_pt g i (hp_oc g i - 1) ≠ 3) ∨ (hp_in g i = 1 ∧ hp_pl (g i)) := by
  unfold hp_pl
  rcases h with ⟨h1, h2, h3⟩ | ⟨h0, ⟨h1, h2⟩ | ⟨h1, h2, h3⟩ | h1 | ⟨h1, h2, h3, -⟩ | ⟨h1, h2, h3⟩ | h1 | h1 | ⟨h1 | h1, -⟩ | ⟨h1, -⟩ | ⟨h1, -⟩⟩
  · exact Or.inl ⟨h1, h2, h3⟩
  · exact Or.inr (Or.inl ⟨h0, h1, h2⟩)
  · exact Or.inr (Or.inr (Or.inl ⟨h0, h1, h2, h3⟩))
  · exact Or.inr (Or.inr (Or.inr (Or.inl ⟨h0, h1⟩)))
  · exact Or.inr (Or.inr (Or.inr (Or.inr (Or.inl ⟨h0, h1, h2, h3⟩))))
  · exact Or.inr (Or.inr (Or.inr (Or.inr (Or.inr (Or.inl ⟨h0, h1, h2, h3⟩)))))
  all_goals exact Or.inr (Or.inr (Or.inr (Or.inr (Or.inr (Or.inr ⟨h0, by simp [h1]⟩)))))

theorem hp_in01 : ∀ i, hp_in g i = 0 ∨ hp_in g i = 1
  | 0 => Or.inl rfl
  | i + 1 => by
    have := hp_in01 i
    simp only [hp_in]
    split
    · exact Or.inr rfl
    · split
      · split
        · exact Or.inl rfl
        · exact this
      · exact this
theorem hp_ocle : ∀ i, hp_oc g i ≤ i
  | 0 => Nat.le_refl _
  | i + 1 => by
    have := hp_ocle i
    simp only [hp_oc]
    split
    · omega
    · split <;> omega
theorem hp_fnS (i : Nat) : hp_fn g i ≤ hp_fn g (i + 1) := by
  simp only [hp_fn]; split <;> omega
theorem hp_fnM {i : Nat} : ∀ j, i ≤ j → hp_fn g i ≤ hp_fn g j
  | 0, h => by have : i = 0 := by omega
               rw [this]; exact Nat.le_refl _
  | j + 1, h => by
    by_cases e : i = j + 1
    · rw [e]; exact Nat.le_refl _
    · exact Nat.le_trans (hp_fnM j (by omega)) (hp_fnS j)
theorem hp_fnL {i j : Nat} (h : hp_fn g i < hp_fn g j) : i < j := by
  rcases Nat.lt_or_ge i j with z | z
  · exact z
  · have := hp_fnM (g := g) i z
    omega
/-- a FUNC token is known by its number -/
theorem hp_fnU {i j : Nat} (hi : g i = 1) (hj : g j = 1) (h : hp_fn g i = hp_fn g j) : i = j := by
  have a1 := (hp_s1 hi).2.2.2.1
  have a2 := (hp_s1 hj).2.2.2.1
  rcases Nat.lt_trichotomy i j with z | z | z
  · have := hp_fnM (g := g) j (show i + 1 ≤ j from z); omega
  · exact z
  · have := hp_fnM (g := g) i (show j + 1 ≤ i from z); omega
theorem hp_fnE {f : Nat} : ∀ n, f < hp_fn g n → ∃ p, p < n ∧ g p = 1 ∧ hp_fn g p = f
  | 0, h => absurd h (Nat.not_lt_zero _)
  | n + 1, h => by
    by_cases e : f < hp_fn g n
    · obtain ⟨p, h1, h2⟩ := hp_fnE n e
      exact ⟨p, by omega, h2⟩
    · simp only [hp_fn] at h
      split at h
      · exact ⟨n, by omega, by assumption, by omega⟩
      · exact absurd h e
/-- what an accepted beginning holds: counts, and every unclosed TRY by level -/
theorem hp_H : ∀ i, (∀ j, j < i → hp_tk g a j) → (hp_in g i = 0 → hp_oc g i = 0) ∧ hp_fn g i ≤ 4 ∧ 2 * hp_fn g i ≤ i + hp_in g i ∧ (0 < i → 0 < hp_fn g i) ∧
    ∀ l, l < hp_oc g i → hp_ot g i l < i ∧ g (hp_ot g i l) = 3 ∧ hp_oc g (hp_ot g i l) = l ∧ hp_in g (hp_ot g i l) = 1 ∧ hp_fn g (hp_ot g i l) = hp_fn g i ∧ 1 ≤ hp_pt g i l ∧ hp_pt g i l ≤ 3 ∧ ∀ m, m < l → hp_ot g (hp_ot g i l) m = hp_ot g i m ∧ hp_pt g (hp_ot g i l) m = hp_pt g i m := by
  intro i
  induction i with
  | zero => intro _; exact ⟨fun _ => rfl, Nat.zero_le _, Nat.zero_le _, fun h => h, fun l h => absurd h (Nat.not_lt_zero _)⟩
  | succ i ih =>
  intro K
  obtain ⟨b1, b2, b3, b4, b5⟩ := ih fun j hj => K j (by omega)
  rcases hp_tc (K i (by omega)) with ⟨h1, h2, h3⟩ | ⟨h0, h1, h2⟩ | ⟨h0, h1, h2, h3⟩ | ⟨h0, h1⟩ | ⟨h0, h1, h2, h3⟩ | ⟨h0, h1, h2, h3⟩ | ⟨h0, h1⟩
  · obtain ⟨e1, e2, e3, e4, e5⟩ := hp_s1 h2
    have z := b1 h1
    rw [e1, e2, e3, e4, e5]
    exact ⟨fun h => absurd h (by decide), by omega, by omega, fun _ => by omega, fun l hl => by omega⟩
  · obtain ⟨e1, e2, e3, e4, e5⟩ := hp_s2a h1 h2
    rw [e1, e2, e3, e4, e5]
    refine ⟨fun _ => rfl, b2, by omega, fun _ => ?_, fun l hl => absurd hl (Nat.not_lt_zero _)⟩
    rcases Nat.eq_zero_or_pos i with z | z
    · subst z; simp [hp_in] at h0
    · exact b4 z
  all_goals
    have ip : 0 < i := by
      rcases Nat.eq_zero_or_pos i with z | z
      · subst z; simp [hp_in] at h0
      · exact z
  · obtain ⟨e1, e2, e3, e4, e5⟩ := hp_s2b h1 h2
    rw [e1, e2, e3, e4, e5]
    refine ⟨fun h => by omega, b2, by omega, fun _ => b4 ip, fun l hl => ?_⟩
    obtain ⟨c1, c2⟩ := b5 l (by omega)
    exact ⟨by omega, c2⟩
  · obtain ⟨e1, e2, e3, e4, e5⟩ := hp_s3 h1
    rw [e1, e2, e3, e4, e5]
    refine ⟨fun h => by omega, b2, by omega, fun _ => b4 ip, fun l hl => ?_⟩
    by_cases e : l = hp_oc g i
    · subst e
      rw [hp_uS, hp_uS]
      refine ⟨by omega, h1, rfl, h0, rfl, by omega, by omega, fun m hm => ?_⟩
      rw [hp_uN (by omega), hp_uN (by omega)]
      exact ⟨rfl, rfl⟩
    · rw [hp_uN e, hp_uN e]
      obtain ⟨c1, c2, c3, c4, c5, c6, c7, c8⟩ := b5 l (by omega)
      refine ⟨by omega, c2, c3, c4, c5, c6, c7, fun m hm => ?_⟩
      rw [hp_uN (by omega), hp_uN (by omega)]
      exact c8 m hm
  · obtain ⟨e1, e2, e3, e4, e5⟩ := hp_s4 h1
    rw [e1, e2, e3, e4, e5]
    refine ⟨fun h => by omega, b2, by omega, fun _ => b4 ip, fun l hl => ?_⟩
    obtain ⟨c1, c2, c3, c4, c5, c6, c7, c8⟩ := b5 l hl
    refine ⟨by omega, c2, c3, c4, c5, ?_, ?_, fun m hm => ?_⟩
    · by_cases e : l = hp_oc g i - 1
      · rw [e, hp_uS]; omega
      · rw [hp_uN e]; exact c6
    · by_cases e : l = hp_oc g i - 1
      · rw [e, hp_uS]; omega
      · rw [hp_uN e]; exact c7
    · rw [hp_uN (by omega)]
      exact c8 m hm
  · obtain ⟨e1, e2, e3, e4, e5⟩ := hp_s5 h1
    rw [e1, e2, e3, e4, e5]
    refine ⟨fun h => by omega, b2, by omega, fun _ => b4 ip, fun l hl => ?_⟩
    obtain ⟨c1, c2, c3, c4, c5, c6, c7, c8⟩ := b5 l hl
    refine ⟨by omega, c2, c3, c4, c5, ?_, ?_, fun m hm => ?_⟩
    · by_cases e : l = hp_oc g i - 1
      · rw [e, hp_uS]; omega
      · rw [hp_uN e]; exact c6
    · by_cases e : l = hp_oc g i - 1
      · rw [e, hp_uS]; omega
      · rw [hp_uN e]; exact c7
    · rw [hp_uN (by omega)]
      exact c8 m hm
  · obtain ⟨e1, e2, e3, e4, e5⟩ := hp_s6 h1
    rw [e1, e2, e3, e4, e5]
    refine ⟨fun h => by omega, b2, by omega, fun _ => b4 ip, fun l hl => ?_⟩
    obtain ⟨c1, c2⟩ := b5 l hl
    exact ⟨by omega, c2⟩
end HP
