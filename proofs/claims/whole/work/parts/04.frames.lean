section HF
variable {g a : Nat → Int32} {n : Nat} {T P : Nat → Nat} {d p : Nat}
/-! G: frames as the program's text has them -/
/-- the place that follows frame j - 1 -/
def rt_x (T : Nat → Nat) (d p j : Nat) : Nat := if j < d then T j else p
theorem rt_xl {j : Nat} (h : j < d) : rt_x T d p j = T j := if_pos h
theorem rt_xg {j : Nat} (h : d ≤ j) : rt_x T d p j = p := if_neg (by omega)
/-- a frame of token t in part pr hangs on the place q behind it -/
def rt_k (g : Nat → Int32) (t pr q : Nat) : Prop := (0 < hp_oc g q ∧ t = hp_ot g q (hp_oc g q - 1) ∧ pr = hp_pt g q (hp_oc g q - 1)) ∨ (hp_oc g q = 0 ∧ pr = 0 ∧ g t = 11 ∧ hp_fn g t < hp_fn g q)
def rt_K (g : Nat → Int32) (n : Nat) (T P : Nat → Nat) (d p : Nat) : Prop := p < n ∧ hp_in g p = 1 ∧ hp_oc g (rt_x T d p 0) = 0 ∧ ∀ j, j < d → T j < n ∧ hp_in g (T j) = 1 ∧ rt_k g (T j) (P j) (rt_x T d p (j + 1))
theorem rt_xn (R : rt_K g n T P d p) (j : Nat) : rt_x T d p j < n := by
  by_cases h : j < d
  · rw [rt_xl h]; exact (R.2.2.2 j h).1
  · rw [rt_xg (by omega)]; exact R.1
/-- a frame's token lies before the place behind it -/
theorem rt_lt (G : ow_G g a n) {t pr q : Nat} (hq : q < n) (h : rt_k g t pr q) : t < q := by
  rcases h with ⟨h1, h2, h3⟩ | ⟨h1, h2, h3, h4⟩
  · have := (ow_2 (ow_Kl G.2.1 (show q ≤ n by omega)) (ow_3 (ow_Kl G.2.1 (show q ≤ n by omega)) h1).1).1
    omega
  · exact hp_fnL h4
theorem rt_dj (G : ow_G g a n) (R : rt_K g n T P d p) : ∀ j, j ≤ d → j ≤ rt_x T d p j
  | 0, _ => Nat.zero_le _
  | j + 1, h => by
    have h1 := rt_dj G R j (by omega)
    rw [rt_xl (show j < d by omega)] at h1
    have := rt_lt G (rt_xn R (j + 1)) (R.2.2.2 j (by omega)).2.2
    omega
theorem rt_dp (G : ow_G g a n) (R : rt_K g n T P d p) : d ≤ p := by
  have := rt_dj G R d (Nat.le_refl _)
  rw [rt_xg (Nat.le_refl _)] at this
  exact this
/-- a try frame: its token and part -/
theorem rt_try (G : ow_G g a n) (R : rt_K g n T P d p) {j : Nat} (hj : j < d) (hP : P j ≠ 0) : 0 < hp_oc g (rt_x T d p (j + 1)) ∧ T j = hp_ot g (rt_x T d p (j + 1)) (hp_oc g (rt_x T d p (j + 1)) - 1) ∧ P j = hp_pt g (rt_x T d p (j + 1)) (hp_oc g (rt_x T d p (j + 1)) - 1) ∧ ow_P g (T j) (rt_x T d p (j + 1)) ∧ hp_oc g (T j) = hp_oc g (rt_x T d p (j + 1)) - 1 ∧ g (T j) = 3 := by
  have hq := rt_xn R (j + 1)
  have Kq := ow_Kl G.2.1 (show rt_x T d p (j + 1) ≤ n by omega)
  rcases (R.2.2.2 j hj).2.2 with ⟨h1, h2, h3⟩ | ⟨h1, h2, h3, h4⟩
  · obtain ⟨o1, o2⟩ := ow_3 Kq h1
    rw [← h2] at o1 o2
    exact ⟨h1, h2, h3, o1, o2, (ow_2 Kq o1).2.1⟩
  · exact absurd h2 hP
/-- a new frame at p -/
theorem rt_psh (R : rt_K g n T P d p) {p' pr : Nat} (hp : p' < n) (hi : hp_in g p' = 1) (hk : rt_k g p pr p') : rt_K g n (hp_u T d p) (hp_u P d pr) (d + 1) p' := by
  have ex : ∀ j, j ≤ d → rt_x (hp_u T d p) (d + 1) p' j = rt_x T d p j := fun j hj => by
    rw [rt_xl (by omega)]
    by_cases e : j = d
    · rw [e, hp_uS, rt_xg (Nat.le_refl _)]
    · rw [hp_uN e, rt_xl (by omega)]
  refine ⟨hp, hi, by rw [ex 0 (Nat.zero_le _)]; exact R.2.2.1, fun j hj => ?_⟩
  by_cases e : j = d
  · subst e
    rw [hp_uS, hp_uS, rt_xg (Nat.le_refl _)]
    exact ⟨R.1, R.2.1, hk⟩
  · rw [hp_uN e, hp_uN e, ex (j + 1) (by omega)]
    exact R.2.2.2 j (by omega)
/-- frames from j on left, at a place that hangs as the one there did -/
theorem rt_cut (R : rt_K g n T P d p) {j p' : Nat} (hj : j ≤ d) (hp : p' < n) (hi : hp_in g p' = 1) (h1 : hp_oc g p' = hp_oc g (rt_x T d p j)) (h2 : hp_fn g p' = hp_fn g (rt_x T d p j)) (h3 : ∀ m, m < hp_oc g (rt_x T d p j) → hp_ot g p' m = hp_ot g (rt_x T d p j) m ∧ hp_pt g p' m = hp_pt g (rt_x T d p j) m) : rt_K g n T P j p' := by
  have ex : ∀ i, i < j → rt_x T j p' i = rt_x T d p i := fun i h => by rw [rt_xl h, rt_xl (by omega)]
  refine ⟨hp, hi, ?_, fun i h => ?_⟩
  · rcases Nat.eq_zero_or_pos j with z | z
    · subst z; rw [rt_xg (Nat.le_refl _), h1]; exact R.2.2.1
    · rw [ex 0 z]; exact R.2.2.1
  · obtain ⟨c1, c2, c3⟩ := R.2.2.2 i (by omega)
    refine ⟨c1, c2, ?_⟩
    by_cases e : i + 1 < j
    · rw [ex _ e]; exact c3
    · have e' : i + 1 = j := by omega
      rw [e'] at c3 ⊢
      rw [rt_xg (Nat.le_refl _)]
      unfold rt_k
      rw [h1, h2]
      rcases c3 with ⟨k1, k2, k3⟩ | k
      · obtain ⟨m1, m2⟩ := h3 (hp_oc g (rt_x T d p j) - 1) (by omega)
        rw [m1, m2]
        exact Or.inl ⟨k1, k2, k3⟩
      · exact Or.inr k
/-- frames above j left, and j in another part -/
theorem rt_set (R : rt_K g n T P d p) {j p' pr : Nat} (hj : j < d) (hp : p' < n) (hi : hp_in g p' = 1) (hk : rt_k g (T j) pr p') : rt_K g n T (hp_u P j pr) (j + 1) p' := by
  have ex : ∀ i, i ≤ j → rt_x T (j + 1) p' i = rt_x T d p i := fun i h => by rw [rt_xl (by omega), rt_xl (by omega)]
  refine ⟨hp, hi, by rw [ex 0 (Nat.zero_le _)]; exact R.2.2.1, fun i h => ?_⟩
  obtain ⟨c1, c2, c3⟩ := R.2.2.2 i (by omega)
  refine ⟨c1, c2, ?_⟩
  by_cases e : i = j
  · subst e
    rw [hp_uS, rt_xg (Nat.le_refl _)]; exact hk
  · rw [hp_uN e, ex (i + 1) (by omega)]; exact c3
/-! H: how many steps are left -/
def rt_w (f : Nat) : Nat := if f ≤ 1 then 20388 else if f = 2 then 703 else if f = 3 then 26 else 1
def rt_R (g : Nat → Int32) (q : Nat) : Nat := (32 - q) * rt_w (hp_fn g q)
def rt_s (g : Nat → Int32) (T P : Nat → Nat) : Nat → Nat
  | 0 => 0
  | j + 1 => rt_s g T P j + if P j = 0 then rt_R g (T j + 1) else 0
theorem rt_w1 (f : Nat) : 1 ≤ rt_w f := by
  unfold rt_w
  split
  · omega
  · split
    · omega
    · split <;> omega
theorem rt_Rl {q q' : Nat} (hf : hp_fn g q' = hp_fn g q) (h : q < q') (hq : q < 32) : rt_R g q' + 1 ≤ rt_R g q := by
  unfold rt_R
  rw [hf]
  have h1 := rt_w1 (hp_fn g q)
  have h2 := Nat.mul_le_mul_right (rt_w (hp_fn g q)) (show 32 - q' + 1 ≤ 32 - q by omega)
  rw [Nat.add_mul, Nat.one_mul] at h2
  omega
theorem rt_Rc {c q : Nat} (hc : c < 32) (hg : hp_fn g (c + 1) = hp_fn g c) (h1 : 1 ≤ hp_fn g c) (hf : hp_fn g c < hp_fn g q) (h4 : hp_fn g q ≤ 4) (h2 : 2 * hp_fn g q ≤ q + 1) : rt_R g (c + 1) + rt_R g q + 1 ≤ rt_R g c := by
  have key : rt_R g q + 1 ≤ rt_w (hp_fn g c) := by
    unfold rt_R
    generalize hp_fn g c = x at *
    generalize hp_fn g q = y at *
    unfold rt_w
    have hy : y = 2 ∨ y = 3 ∨ y = 4 := by omega
    have hx : x = 1 ∨ x = 2 ∨ x = 3 := by omega
    rcases hy with rfl | rfl | rfl <;> rcases hx with rfl | rfl | rfl <;> simp <;> omega
  have e : rt_R g c = rt_R g (c + 1) + rt_w (hp_fn g c) := by
    unfold rt_R
    rw [hg, show 32 - c = (32 - (c + 1)) + 1 by omega, Nat.add_mul, Nat.one_mul]
  omega
theorem rt_sE {T' P' : Nat → Nat} : ∀ j, (∀ i, i < j → T' i = T i ∧ P' i = P i) → rt_s g T' P' j = rt_s g T P j
  | 0, _ => rfl
  | j + 1, h => by
    simp only [rt_s]
    rw [rt_sE j (fun i hi => h i (by omega)), (h j (by omega)).1, (h j (by omega)).2]
theorem rt_sM {i : Nat} : ∀ j, i ≤ j → rt_s g T P i ≤ rt_s g T P j
  | 0, h => by have : i = 0 := by omega
               rw [this]; exact Nat.le_refl _
  | j + 1, h => by
    by_cases e : i = j + 1
    · rw [e]; exact Nat.le_refl _
    · have := rt_sM (i := i) j (by omega)
      simp only [rt_s]; omega
/-- the place in the frame's own function from which control comes, and what it has left -/
theorem rt_cur (G : ow_G g a n) (R : rt_K g n T P d p) : ∀ m i, i + m = d → ∃ c M, c < n ∧ rt_s g T P i + M ≤ rt_s g T P d + rt_R g p ∧ (∀ x, c ≤ x → x < n → (g x = 4 ∨ g x = 5) → hp_fn g (x + 1) = hp_fn g c → rt_R g (x + 1) + 1 ≤ M) ∧ (rt_x T d p i = c ∨ ow_P g (rt_x T d p i) c) := by
  intro m
  have hn := G.1
  induction m with
  | zero =>
    intro i hi
    have : i = d := by omega
    subst this
    refine ⟨p, rt_R g p, R.1, Nat.le_refl _, fun x h1 h2 h3 h4 => rt_Rl h4 (by omega) (by have := R.1; omega), Or.inl (rt_xg (Nat.le_refl _))⟩
  | succ m ih =>
    intro i hi
    obtain ⟨c, M, c1, c2, c3, c4⟩ := ih (i + 1) (by omega)
    have hid : i < d := by omega
    by_cases hP : P i = 0
    · obtain ⟨t1, t2, t3⟩ := R.2.2.2 i hid
      have g11 : g (T i) = 11 := by
        rcases t3 with ⟨k1, k2, k3⟩ | ⟨k1, k2, k3, k4⟩
        · have := (ow_2 (ow_Kl G.2.1 (show rt_x T d p (i + 1) ≤ n from Nat.le_of_lt (rt_xn R (i + 1)))) (ow_3 (ow_Kl G.2.1 (show rt_x T d p (i + 1) ≤ n from Nat.le_of_lt (rt_xn R (i + 1)))) k1).1)
          have p1 := ((hp_H _ (ow_Kl G.2.1 (show rt_x T d p (i + 1) ≤ n from Nat.le_of_lt (rt_xn R (i + 1))))).2.2.2.2 (hp_oc g (rt_x T d p (i + 1)) - 1) (by omega)).2.2.2.2.2.1
          omega
        · exact k3
      have fe : hp_fn g (T i + 1) = hp_fn g (T i) := (hp_s6 (by unfold hp_pl; simp [g11])).2.2.2.1
      refine ⟨T i, rt_R g (T i + 1), t1, ?_, fun x h1 h2 h3 h4 => ?_, Or.inl (rt_xl hid)⟩
      · simp only [rt_s, if_pos hP] at c2
        omega
      · have : x ≠ T i := fun e => by rw [e, g11] at h3; rcases h3 with z | z <;> exact absurd z (by decide)
        exact rt_Rl (by rw [h4, fe]) (by omega) (by omega)
    · obtain ⟨r1, r2, r3, r4, r5, r6⟩ := rt_try G R hid hP
      refine ⟨c, M, c1, ?_, c3, Or.inr ?_⟩
      · simp only [rt_s, if_neg hP] at c2
        omega
      · rw [rt_xl hid]
        rcases c4 with e | o
        · rw [← e]; exact r4
        · have := (ow_2 (ow_Kl G.2.1 (show c ≤ n by omega)) o).2.2.2.2.2.2
          have ho := o.1
          have hm := this (hp_oc g (T i)) (by omega)
          exact ⟨by omega, by rw [← hm.1]; exact r4.2⟩
/-- a clause that the unwinding, or a body's end, goes to lies ahead -/
theorem rt_dec (G : ow_G g a n) (R : rt_K g n T P d p) {j x : Nat} (hj : j < d) (hx : x < n) (hO : ow_O g (T j) x) (h : (P j = 1 ∧ (g x = 4 ∨ g x = 5)) ∨ (P j = 2 ∧ g x = 5)) : rt_s g T P j + rt_R g (x + 1) + 1 ≤ rt_s g T P d + rt_R g p := by
  obtain ⟨c, M, c1, c2, c3, c4⟩ := rt_cur G R (d - (j + 1)) (j + 1) (by omega)
  have hP : P j ≠ 0 := by rcases h with h | h <;> omega
  have hg : g x = 4 ∨ g x = 5 := by rcases h with h | h; exact h.2; exact Or.inr h.2
  obtain ⟨r1, r2, r3, r4, r5, r6⟩ := rt_try G R hj hP
  have Kc := ow_Kl G.2.1 (show c ≤ n by omega)
  have hoc : ow_P g (T j) c ∧ hp_pt g c (hp_oc g (T j)) = P j := by
    rw [r3, ← r5]
    rcases c4 with e | o
    · rw [← e]; exact ⟨r4, rfl⟩
    · have := (ow_2 Kc o).2.2.2.2.2.2
      have ho := o.1
      have hm := this (hp_oc g (T j)) (by omega)
      exact ⟨⟨by omega, by rw [← hm.1]; exact r4.2⟩, hm.2.symm⟩
  have cx : c ≤ x := ow_9 Kc hoc.1 hO (by
    rw [hoc.2]
    rcases h with h | h
    · exact Or.inl h.1
    · exact Or.inr ⟨by omega, h.2⟩)
  have fx := ((ow_6 (ow_Kl G.2.1 (show x + 1 ≤ n by omega)) hO).2.1 hg).2.2.2
  have := c3 x cx hx hg (by rw [fx, (ow_2 Kc hoc.1).2.2.1])
  simp only [rt_s, if_neg hP] at c2
  omega
/-! I: what a throw does -/
/-- frame e has a clause for ty -/
def rt_h (g a : Nat → Int32) (n : Nat) (T P : Nat → Nat) (ty : Int32) (e : Nat) : Prop := P e = 1 ∧ ∃ x, x < n ∧ ow_H g a (T e) ty x
/-- frame i is passed by -/
def rt_p (g a : Nat → Int32) (n : Nat) (T P : Nat → Nat) (ty : Int32) (i : Nat) : Prop := (P i = 1 → ∀ y, y < n → ¬ ow_H g a (T i) ty y) ∧ (P i ≠ 3 → ∀ y, y < n → ¬ (ow_O g (T i) y ∧ g y = 5))
/-- at frame j the unwinding stops, at clause x, in part k -/
def rt_q (g a : Nat → Int32) (n : Nat) (T P : Nat → Nat) (ty : Int32) (j x k : Nat) : Prop := x < n ∧ ((k = 2 ∧ P j = 1 ∧ ow_L n (ow_H g a (T j) ty) (nI x) ∧ ow_H g a (T j) ty x) ∨ (k = 3 ∧ (P j = 1 ∨ P j = 2) ∧ (P j = 1 → ∀ y, y < n → ¬ ow_H g a (T j) ty y) ∧ ow_L n (fun x => ow_O g (T j) x ∧ g x = 5) (nI x) ∧ ow_O g (T j) x ∧ g x = 5 ∧ ∃ e, e < j ∧ rt_h g a n T P ty e))
theorem ow_Lx {Q : Nat → Prop} (h : ∃ x, x < n ∧ Q x) : ∃ x, x < n ∧ Q x ∧ ow_L n Q (nI x) := by
  obtain ⟨r, ⟨x, h1, h2, h3, h4⟩ | ⟨h1, h2⟩⟩ := ow_Le n Q
  · exact ⟨x, h1, h3, Or.inl ⟨x, h1, rfl, h3, h4⟩⟩
  · obtain ⟨x, h3, h4⟩ := h
    exact absurd h4 (h2 x h3)
theorem rt_ex (G : ow_G g a n) (R : rt_K g n T P d p) {ty : Int32} : ∀ i, i ≤ d → (∃ e, e < i ∧ rt_h g a n T P ty e) → ∃ j x k, j < i ∧ rt_q g a n T P ty j x k ∧ ∀ m, j < m → m < i → rt_p g a n T P ty m := by
  intro i
  induction i with
  | zero => intro _ h; obtain ⟨e, h, -⟩ := h; omega
  | succ i ih =>
  intro hi he
  by_cases h1 : rt_h g a n T P ty i
  · obtain ⟨p1, hx⟩ := h1
    obtain ⟨x, x1, x2, x3⟩ := ow_Lx hx
    exact ⟨i, x, 2, by omega, ⟨x1, Or.inl ⟨rfl, p1, x3, x2⟩⟩, fun m h1 h2 => by omega⟩
  · have no : P i = 1 → ∀ y, y < n → ¬ ow_H g a (T i) ty y := fun p1 y hy hh => h1 ⟨p1, y, hy, hh⟩
    have he' : ∃ e, e < i ∧ rt_h g a n T P ty e := by
      obtain ⟨e, e1, e2⟩ := he
      by_cases ee : e = i
      · rw [ee] at e2; exact absurd e2 h1
      · exact ⟨e, by omega, e2⟩
    by_cases h2 : (P i = 1 ∨ P i = 2) ∧ ∃ x, x < n ∧ (ow_O g (T i) x ∧ g x = 5)
    · obtain ⟨x, x1, x2, x3⟩ := ow_Lx h2.2
      exact ⟨i, x, 3, by omega, ⟨x1, Or.inr ⟨rfl, h2.1, no, x3, x2.1, x2.2, he'⟩⟩, fun m h1 h2 => by omega⟩
    · obtain ⟨j, x, k, j1, j2, j3⟩ := ih (by omega) he'
      refine ⟨j, x, k, by omega, j2, fun m m1 m2 => ?_⟩
      by_cases em : m = i
      · subst em
        refine ⟨no, fun p3 y hy ho => ?_⟩
        have pc : P m = 0 ∨ P m = 1 ∨ P m = 2 := by
          by_cases p0 : P m = 0
          · exact Or.inl p0
          · obtain ⟨r1, r2, r3, r4, r5, r6⟩ := rt_try G R (by omega) p0
            have := ow_2 (ow_Kl G.2.1 (Nat.le_of_lt (rt_xn R (m + 1)))) r4
            rw [r5, ← r3] at this
            omega
        rcases pc with p0 | p12
        · rcases (R.2.2.2 m (by omega)).2.2 with ⟨k1, k2, k3⟩ | ⟨k1, k2, k3, k4⟩
          · have p1 := ((hp_H _ (ow_Kl G.2.1 (show rt_x T d p (m + 1) ≤ n from Nat.le_of_lt (rt_xn R (m + 1))))).2.2.2.2 (hp_oc g (rt_x T d p (m + 1)) - 1) (by omega)).2.2.2.2.2.1
            omega
          · have := (ow_1 (ow_Kl G.2.1 (show y ≤ n by omega)) ho.1).2.1
            rw [k3] at this; exact absurd this (by decide)
        · exact h2 ⟨p12, y, hy, ho⟩
      · exact j3 m m1 (by omega)
theorem rt_gr {Q : Nat → Prop} : ∀ i, (∃ e, e < i ∧ Q e) → ∃ e, e < i ∧ Q e ∧ ∀ m, e < m → m < i → ¬ Q m
  | 0, h => by obtain ⟨e, h, -⟩ := h; omega
  | i + 1, h => by
    rcases Classical.em (Q i) with z | z
    · exact ⟨i, by omega, z, fun m h1 h2 => by omega⟩
    · obtain ⟨e, e1, e2⟩ := h
      have : e ≠ i := fun ee => z (ee ▸ e2)
      obtain ⟨e', f1, f2, f3⟩ := rt_gr (Q := Q) i ⟨e, by omega, e2⟩
      refine ⟨e', by omega, f2, fun m m1 m2 => ?_⟩
      by_cases em : m = i
      · rw [em]; exact z
      · exact f3 m m1 (by omega)
end HF
