section HT
variable {g a fs tf xot xop ft fp fy tr yp sk so sh sy : Nat → Int32} {n d p : Nat} {T P : Nat → Nat} {cm ct cp cf xo xi xs xh dd pp ac tl st rs ut cr fr yr : Int32}
/-! J: throws, on both sides -/
def rt_m : Nat → Int32
  | 0 => -1
  | i + 1 => nI i
theorem rt_m1 (i : Nat) : nI i - 1 = rt_m i := by
  cases i with
  | zero => rfl
  | succ i => exact nI_pred i
theorem rt_m2 (i : Nat) : nI i + (-1) = rt_m i := by
  cases i with
  | zero => rfl
  | succ i => exact hp_m1 i
/-- the component's frames -/
def rt_X (T P : Nat → Nat) (ft fp : Nat → Int32) (d : Nat) : Prop := ∀ j, j < d → ft j = nI (T j) ∧ fp j = nI (P j) ∧ P j ≤ 3
/-- the reference's -/
def rt_Y (T P : Nat → Nat) (fy sk so sh sy : Nat → Int32) (d : Nat) : Prop := ∀ j, j < d → (P j = 0 ∧ sk j = 0 ∧ so j = nI (T j + 1)) ∨ (1 ≤ P j ∧ P j ≤ 3 ∧ sk j = 1 ∧ so j = nI (T j) ∧ sh j = nI (P j - 1) ∧ (2 ≤ P j → sy j = fy j ∧ ∃ ty : Nat, ty ≤ 15 ∧ fy j = nI ty ∧ (P j = 2 → 1 ≤ ty)))
theorem rt_fp {j k : Nat} (hX : rt_X T P ft fp d) (hj : j < d) (hk : k ≤ 3) : fp j = nI k ↔ P j = k := by
  obtain ⟨h1, h2, h3⟩ := hX j hj
  rw [h2, nI_eq (by omega) (by omega)]
theorem xh_7 (G : ow_G g a n) (hT : ow_T g tf n) (R : rt_K g n T P d p) (hd : d ≤ 32) (hX : rt_X T P ft fp d) {ty r : Int32} (hr : (r = 1 ∧ ∃ e, e < d ∧ rt_h g a n T P ty e) ∨ (r = 0 ∧ ∀ e, e < d → ¬ rt_h g a n T P ty e)) (post : Int32 → Prop) (hp : post r) : ∀ i f, i ≤ d → i < f → (∀ e, i ≤ e → e < d → ¬ rt_h g a n T P ty e) → wX_hasHandler_7 post ty cm ct (nI n) cp cf xo xi xs xh dd pp ac tl st rs ut cr fr g a fs tf xot xop ft fp fy tr f (rt_m i) := by
  have hn := G.1
  intro i
  induction i with
  | zero =>
    intro f _ hf hno
    obtain ⟨f, rfl⟩ : ∃ f', f = f' + 1 := ⟨f - 1, by omega⟩
    have : r = 0 := by
      rcases hr with ⟨h1, e, h2, h3⟩ | h
      · exact absurd h3 (hno e (by omega) h2)
      · exact h.1
    rw [this] at hp
    exact br_t (by decide) hp
  | succ i ih =>
    intro f hi hf hno
    obtain ⟨f, rfl⟩ : ∃ f', f = f' + 1 := ⟨f - 1, by omega⟩
    have hid : i < d := by omega
    have hTi := (R.2.2.2 i hid).1
    rw [show rt_m (i + 1) = nI i from rfl]
    have go : ¬ rt_h g a n T P ty i → wX_hasHandler_7 post ty cm ct (nI n) cp cf xo xi xs xh dd pp ac tl st rs ut cr fr g a fs tf xot xop ft fp fy tr f (rt_m i) := fun h => ih f (by omega) (by omega) (fun e h1 h2 => by
      by_cases ee : e = i
      · rw [ee]; exact h
      · exact hno e (by omega) h2)
    by_cases hP : P i = 1
    · obtain ⟨r', hr'⟩ := ow_Le n (ow_H g a (T i) ty)
      refine br_f (nI_pos (by omega)) (xa_w hn hT (by omega) (by omega) (hX i hid).1 ((rt_fp hX hid (k := 1) (by omega)).mpr hP) hr' _ ?_)
      rcases hr' with ⟨x, x1, x2, x3, x4⟩ | ⟨x1, x2⟩
      · have : r = 1 := by
          rcases hr with h | ⟨h1, h2⟩
          · exact h.1
          · exact absurd ⟨hP, x, x1, x3⟩ (h2 i hid)
        rw [this] at hp
        exact br_f (by rw [x2]; exact hp_ne1 (by omega)) hp
      · exact br_t x1 (nm_r (rt_m2 i) (go fun h => by obtain ⟨-, x, y1, y2⟩ := h; exact x2 x y1 y2))
    · refine br_f (nI_pos (by omega)) (xa_n (by omega) (fun h => hP ((rt_fp hX hid (k := 1) (by omega)).mp h)) _ ?_)
      exact br_t rfl (nm_r (rt_m2 i) (go fun h => hP h.1))
theorem xs_f {j x : Nat} {ty : Int32} (hj : j < 32) (post : SX → Prop) (hp : post (cm, ct, nI n, cp, cf, xo, xi, xs, xh, dd, nI (x + 1), ac, tl, st, rs, ut, cr, fr + 1, g, a, fs, tf, xot, xop, ft, upd fp j 3, upd fy j ty, tr)) : wpX_startFinally post (cm, ct, nI n, cp, cf, xo, xi, xs, xh, dd, pp, ac, tl, st, rs, ut, cr, fr, g, a, fs, tf, xot, xop, ft, fp, fy, tr) (nI j) (nI x) ty := by
  have c3 : (nI j).toNatClampNeg = j := nI_clamp (by omega)
  exact ⟨vp_in_nI hj (by omega), nm_r (by rw [c3]) ⟨vp_in_nI hj (by omega), nm_r (by rw [c3]) (nm_e (nm_r (nI_1 x) hp))⟩⟩
theorem xs_c {j x : Nat} {ty : Int32} (hj : j < 32) (post : SX → Prop) (hp : post (cm, ct, nI n, cp, cf, xo, xi, xs, xh, dd, nI (x + 1), ac, tl, st, rs, ut, cr + 1, fr, g, a, fs, tf, xot, xop, ft, upd fp j 2, upd fy j ty, tr)) : wpX_startCatch post (cm, ct, nI n, cp, cf, xo, xi, xs, xh, dd, pp, ac, tl, st, rs, ut, cr, fr, g, a, fs, tf, xot, xop, ft, fp, fy, tr) (nI j) (nI x) ty := by
  have c3 : (nI j).toNatClampNeg = j := nI_clamp (by omega)
  exact ⟨vp_in_nI hj (by omega), nm_r (by rw [c3]) ⟨vp_in_nI hj (by omega), nm_r (by rw [c3]) (nm_e (nm_r (nI_1 x) hp))⟩⟩
theorem xu_7 (G : ow_G g a n) (hT : ow_T g tf n) (R : rt_K g n T P d p) (hd : d ≤ 32) (hX : rt_X T P ft fp d) {ty : Int32} {j x k : Nat} (hq : rt_q g a n T P ty j x k) (post : SX → Prop)
    (h2 : k = 2 → post (cm, ct, nI n, cp, cf, xo, xi, xs, xh, nI (j + 1), nI (x + 1), ac, tl, st, rs, ut, cr + 1, fr, g, a, fs, tf, xot, xop, ft, upd fp j 2, upd fy j ty, tr))
    (h3 : k = 3 → post (cm, ct, nI n, cp, cf, xo, xi, xs, xh, nI (j + 1), nI (x + 1), ac, tl, st, rs, ut, cr, fr + 1, g, a, fs, tf, xot, xop, ft, upd fp j 3, upd fy j ty, tr)) :
    ∀ f i dd, j ≤ i → i < d → i < f → (∀ m, j < m → m ≤ i → rt_p g a n T P ty m) → wX_unwind_7 post ty cm ct (nI n) cp cf xo xi xs xh pp ac tl st rs ut cr fr g a fs tf xot xop ft fp fy tr f (nI i) dd := by
  have hn := G.1
  intro f
  induction f with
  | zero => intro i dd _ _ h; omega
  | succ f ih =>
  intro i dd hji hid hf hps
  have hTi := (R.2.2.2 i hid).1
  have pos : ¬ nI i < 0 := nI_pos (by omega)
  have f3 := rt_fp hX hid (k := 3) (by omega)
  have f1 := rt_fp hX hid (k := 1) (by omega)
  by_cases e : i = j
  · subst e
    obtain ⟨hx, ⟨k2, p1, l1, l2⟩ | ⟨k3, p12, no, l1, l2, l3, -⟩⟩ := hq
    · refine br_f pos (nm_r (nI_1 i) (xa_w hn hT (by omega) (by omega) (hX i hid).1 (f1.mpr p1) l1 _ (br_f (hp_ne1 (by omega)) ?_)))
      exact xs_c (by omega) _ (h2 k2)
    · have fin : (wpX_owedFinally (fun r => ((r = (-1) → (∀ x2 : Int32, x2 = nI i + (-1) → wX_unwind_7 post ty cm ct (nI n) cp cf xo xi xs xh pp ac tl st rs ut cr fr g a fs tf xot xop ft fp fy tr f x2 (nI (i + 1)))) ∧ (¬ r = (-1) → (wpX_startFinally (fun u => match u with | (z1, z2, z3, z4, z5, z6, z7, z8, z9, z10, z11, z12, z13, z14, z15, z16, z17, z18, z19, z20, z21, z22, z23, z24, z25, z26, z27, z28) => post (z1, z2, z3, z4, z5, z6, z7, z8, z9, z10, z11, z12, z13, z14, z15, z16, z17, z18, z19, z20, z21, z22, z23, z24, z25, z26, z27, z28)) (cm, ct, nI n, cp, cf, xo, xi, xs, xh, nI (i + 1), pp, ac, tl, st, rs, ut, cr, fr, g, a, fs, tf, xot, xop, ft, fp, fy, tr) (nI i) r ty)))) (cm, ct, nI n, cp, cf, xo, xi, xs, xh, nI (i + 1), pp, ac, tl, st, rs, ut, cr, fr, g, a, fs, tf, xot, xop, ft, fp, fy, tr) (nI i)) :=
        xo_w hn hT (by omega) (by omega) (hX i hid).1 (fun h => by have := f3.mp h; omega) l1 _ (br_f (hp_ne1 (by omega)) (xs_f (by omega) _ (h3 k3)))
      by_cases p1 : P i = 1
      · exact br_f pos (nm_r (nI_1 i) (xa_w hn hT (by omega) (by omega) (hX i hid).1 (f1.mpr p1) (Or.inr ⟨rfl, no p1⟩) _ (br_t rfl fin)))
      · exact br_f pos (nm_r (nI_1 i) (xa_n (by omega) (fun h => p1 (f1.mp h)) _ (br_t rfl fin)))
  · obtain ⟨i', rfl⟩ : ∃ i', i = i' + 1 := ⟨i - 1, by omega⟩
    obtain ⟨q1, q2⟩ := hps (i' + 1) (by omega) (Nat.le_refl _)
    have rc := ih i' (nI (i' + 1 + 1)) (by omega) (by omega) (by omega) (fun m m1 m2 => hps m m1 (by omega))
    have fin : (wpX_owedFinally (fun r => ((r = (-1) → (∀ x2 : Int32, x2 = nI (i' + 1) + (-1) → wX_unwind_7 post ty cm ct (nI n) cp cf xo xi xs xh pp ac tl st rs ut cr fr g a fs tf xot xop ft fp fy tr f x2 (nI (i' + 1 + 1)))) ∧ (¬ r = (-1) → (wpX_startFinally (fun u => match u with | (z1, z2, z3, z4, z5, z6, z7, z8, z9, z10, z11, z12, z13, z14, z15, z16, z17, z18, z19, z20, z21, z22, z23, z24, z25, z26, z27, z28) => post (z1, z2, z3, z4, z5, z6, z7, z8, z9, z10, z11, z12, z13, z14, z15, z16, z17, z18, z19, z20, z21, z22, z23, z24, z25, z26, z27, z28)) (cm, ct, nI n, cp, cf, xo, xi, xs, xh, nI (i' + 1 + 1), pp, ac, tl, st, rs, ut, cr, fr, g, a, fs, tf, xot, xop, ft, fp, fy, tr) (nI (i' + 1)) r ty)))) (cm, ct, nI n, cp, cf, xo, xi, xs, xh, nI (i' + 1 + 1), pp, ac, tl, st, rs, ut, cr, fr, g, a, fs, tf, xot, xop, ft, fp, fy, tr) (nI (i' + 1))) := by
      by_cases p3 : P (i' + 1) = 3
      · exact xo_3 (by omega) (f3.mpr p3) _ (br_t rfl (nm_r (hp_m1 i') rc))
      · exact xo_w hn hT (by omega) (by omega) (hX _ hid).1 (fun h => p3 (f3.mp h)) (Or.inr ⟨rfl, q2 p3⟩) _ (br_t rfl (nm_r (hp_m1 i') rc))
    by_cases p1 : P (i' + 1) = 1
    · exact br_f pos (nm_r (nI_1 _) (xa_w hn hT (by omega) (by omega) (hX _ hid).1 (f1.mpr p1) (Or.inr ⟨rfl, q1 p1⟩) _ (br_t rfl fin)))
    · exact br_f pos (nm_r (nI_1 _) (xa_n (by omega) (fun h => p1 (f1.mp h)) _ (br_t rfl fin)))
/-- the component's unwind -/
theorem xu_w (G : ow_G g a n) (hT : ow_T g tf n) (R : rt_K g n T P d p) (hd : d ≤ 32) (hX : rt_X T P ft fp d) {ty : Int32} {j x k : Nat} (hj : j < d) (hps : ∀ m, j < m → m < d → rt_p g a n T P ty m) (hq : rt_q g a n T P ty j x k) (post : SX → Prop)
    (h2 : k = 2 → post (cm, ct, nI n, cp, cf, xo, xi, xs, xh, nI (j + 1), nI (x + 1), ac, tl, st, rs, ut, cr + 1, fr, g, a, fs, tf, xot, xop, ft, upd fp j 2, upd fy j ty, tr))
    (h3 : k = 3 → post (cm, ct, nI n, cp, cf, xo, xi, xs, xh, nI (j + 1), nI (x + 1), ac, tl, st, rs, ut, cr, fr + 1, g, a, fs, tf, xot, xop, ft, upd fp j 3, upd fy j ty, tr)) : wpX_unwind post (cm, ct, nI n, cp, cf, xo, xi, xs, xh, nI d, pp, ac, tl, st, rs, ut, cr, fr, g, a, fs, tf, xot, xop, ft, fp, fy, tr) ty := by
  obtain ⟨d', rfl⟩ : ∃ d', d = d' + 1 := ⟨d - 1, by omega⟩
  exact nm_r (nI_pred d') ⟨d' + 1, xu_7 G hT R hd hX hq post h2 h3 (d' + 1) d' (nI (d' + 1)) (by omega) (by omega) (by omega) (fun m m1 m2 => hps m m1 (by omega))⟩
theorem xr_w (G : ow_G g a n) (hT : ow_T g tf n) (R : rt_K g n T P d p) (hd : d ≤ 32) (hX : rt_X T P ft fp d) {ty : Int32} {j x k : Nat} (hj : j < d) (hps : ∀ m, j < m → m < d → rt_p g a n T P ty m) (hq : rt_q g a n T P ty j x k) (hh : ∃ e, e < d ∧ rt_h g a n T P ty e) (post : SX → Prop)
    (h2 : k = 2 → post (cm, ct, nI n, cp, cf, xo, xi, xs, xh, nI (j + 1), nI (x + 1), ac, tl, st, rs, ut, cr + 1, fr, g, a, fs, tf, xot, xop, ft, upd fp j 2, upd fy j ty, tr))
    (h3 : k = 3 → post (cm, ct, nI n, cp, cf, xo, xi, xs, xh, nI (j + 1), nI (x + 1), ac, tl, st, rs, ut, cr, fr + 1, g, a, fs, tf, xot, xop, ft, upd fp j 3, upd fy j ty, tr)) : wpX_raise post (cm, ct, nI n, cp, cf, xo, xi, xs, xh, nI d, pp, ac, tl, st, rs, ut, cr, fr, g, a, fs, tf, xot, xop, ft, fp, fy, tr) ty := by
  unfold wpX_raise
  dsimp only
  refine nm_r (rt_m1 d) ⟨d + 1, xh_7 G hT R hd hX (r := 1) (Or.inl ⟨rfl, hh⟩) _ ?_ d (d + 1) (Nat.le_refl _) (by omega) (fun e h1 h2 => by omega)⟩
  exact br_f (by decide) (xu_w G hT R hd hX hj hps hq _ h2 h3)
theorem xr_n (G : ow_G g a n) (hT : ow_T g tf n) (R : rt_K g n T P d p) (hd : d ≤ 32) (hX : rt_X T P ft fp d) {ty : Int32} (hh : ∀ e, e < d → ¬ rt_h g a n T P ty e) (post : SX → Prop)
    (hp : post (cm, ct, nI n, cp, cf, xo, xi, xs, xh, nI d, pp, ac, tl, 2, ac, ty, cr, fr, g, a, fs, tf, xot, xop, ft, fp, fy, tr)) : wpX_raise post (cm, ct, nI n, cp, cf, xo, xi, xs, xh, nI d, pp, ac, tl, st, rs, ut, cr, fr, g, a, fs, tf, xot, xop, ft, fp, fy, tr) ty := by
  unfold wpX_raise
  dsimp only
  refine nm_r (rt_m1 d) ⟨d + 1, xh_7 G hT R hd hX (r := 0) (Or.inr ⟨rfl, hh⟩) _ ?_ d (d + 1) (Nat.le_refl _) (by omega) (fun e h1 h2 => by omega)⟩
  exact br_t rfl hp
end HT
