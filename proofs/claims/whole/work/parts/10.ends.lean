section HE
variable {g a fs tf xot xop ft fp fy tr yp sk so sh sy : Nat → Int32} {n d p tl tc M : Nat} {T P : Nat → Nat} {cm cp cf xo xi xs xh ac cr fr : Int32}
/-! O: the ends of bodies -/
theorem ow_end (G : ow_G g a n) {t : Nat} : ∀ m q, q + m = n → ow_P g t q → ∃ x, q ≤ x ∧ x < n ∧ ow_O g t x ∧ g x = 2 := by
  intro m
  induction m with
  | zero =>
    intro q hq h
    have := ow_Gn G h (by omega)
    omega
  | succ m ih =>
    intro q hq h
    by_cases e : g q = 2 ∧ hp_oc g q = hp_oc g t + 1
    · exact ⟨q, Nat.le_refl _, by omega, ow_Ot h e.2 (Or.inl e.1), e.1⟩
    · obtain ⟨x, x1, x2⟩ := ih (q + 1) (by omega) (ow_4 (ow_Kl G.2.1 (by omega)) h e)
      exact ⟨x, by omega, x2⟩
/-- the END of t is the only one -/
theorem ow_e1 (G : ow_G g a n) {t x : Nat} (hx : x < n) (hO : ow_O g t x) (h2 : g x = 2) : ow_L n (fun x => ow_O g t x ∧ g x = 2) (nI x) :=
  Or.inl ⟨x, hx, rfl, ⟨hO, h2⟩, fun y hy h => (ow_8 (ow_Kl G.2.1 (by omega)) h.1 hO hy).1 h.2⟩
/-- the top frame at a place inside a TRY -/
theorem rn_top (G : ow_G g a n) (J : rn_J g a n (M + 1) T P d p ft fp fy sk so sh sy) (h : 0 < hp_oc g p) : ∃ d', d = d' + 1 ∧ P d' ≠ 0 ∧ T d' = hp_ot g p (hp_oc g p - 1) ∧ P d' = hp_pt g p (hp_oc g p - 1) ∧ ow_P g (T d') p ∧ hp_oc g (T d') = hp_oc g p - 1 ∧ g (T d') = 3 := by
  obtain ⟨R, -⟩ := J
  rcases Nat.eq_zero_or_pos d with z | z
  · subst z
    have := R.2.2.1
    rw [rt_xg (Nat.le_refl _)] at this
    omega
  · obtain ⟨d', rfl⟩ : ∃ d', d = d' + 1 := ⟨d - 1, by omega⟩
    have hk := (R.2.2.2 d' (by omega)).2.2
    have Kp := ow_Kl G.2.1 (show p ≤ n from Nat.le_of_lt R.1)
    rw [rt_xg (Nat.le_refl _)] at hk
    have hP : P d' ≠ 0 := by
      rcases hk with ⟨k1, k2, k3⟩ | ⟨k1, -⟩
      · have p1 := ((hp_H _ Kp).2.2.2.2 (hp_oc g p - 1) (by omega)).2.2.2.2.2.1
        omega
      · omega
    obtain ⟨r1, r2, r3, r4, r5, r6⟩ := rt_try G R (show d' < d' + 1 by omega) hP
    rw [rt_xg (Nat.le_refl _)] at r1 r2 r3 r4 r5
    exact ⟨d', rfl, hP, r2, r3, r4, r5, r6⟩
/-- the TRY is left behind its END x -/
theorem rn_out (G : ow_G g a n) (J : rn_J g a n (M + 1) T P (d + 1) p ft fp fy sk so sh sy) (hP : P d ≠ 0) {x : Nat} (hx : x < n) (hpx : p ≤ x) (hO : ow_O g (T d) x) (h2 : g x = 2) (hf : hp_fn g (T d) = hp_fn g p) : rn_I g a n M d (x + 1) ft fp fy sk so sh sy := by
  have hn := G.1
  obtain ⟨w1, -⟩ := ow_6 (ow_Kl G.2.1 (show x + 1 ≤ n by omega)) hO
  obtain ⟨v1, v2, v3, v4⟩ := w1 h2
  have ex : rt_x T (d + 1) p d = T d := rt_xl (by omega)
  refine rn_cut G J (by omega) (by omega) v2 (by rw [ex]; exact v1) (by rw [ex]; exact v3) (by rw [ex]; exact v4) ?_
  have := rt_Rl (g := g) (q := p) (q' := x + 1) (by rw [v3, hf]) (by omega) (by omega)
  simp only [rt_s, if_neg hP]
  omega
theorem st_45 (G : ow_G g a n) (hT : ow_T g tf n) (htl : tl ≤ tc) (J : rn_J g a n (M + 1) T P d p ft fp fy sk so sh sy) (k : g p = 4 ∨ g p = 5) (hoc : 0 < hp_oc g p) (h3 : hp_pt g p (hp_oc g p - 1) ≠ 3) : ((∃ (d' p' tl' : Nat) (ac' cr' fr' : Int32) (ft' fp' fy' tr' sk' so' sh' sy' : Nat → Int32), rn_I g a n M d' p' ft' fp' fy' sk' so' sh' sy' ∧ tl' ≤ tc ∧ (∀ post : SX → Prop, post (cm, nI tc, nI n, cp, cf, xo, xi, xs, xh, nI d', nI p', ac', nI tl', 0, 0, 0, cr', fr', g, a, fs, tf, xot, xop, ft', fp', fy', tr') → wpX_executeToken post (cm, nI tc, nI n, cp, cf, xo, xi, xs, xh, nI d, nI p, ac, nI tl, 0, 0, 0, cr, fr, g, a, fs, tf, xot, xop, ft, fp, fy, tr)) ∧ (∀ post : SY → Prop, post (cm, nI tc, nI n, cp, cf, 0, 0, 0, nI tl', cr', fr', nI d', nI p', ac', 1, g, a, tr', yp, sk', so', sh', sy') → wpY_step post (cm, nI tc, nI n, cp, cf, 0, 0, 0, nI tl, cr, fr, nI d, nI p, ac, 1, g, a, tr, yp, sk, so, sh, sy))) ∨ (∃ st' ut' : Int32, ¬ st' = 0 ∧ (st' = 2 ∨ ut' = 0) ∧ (∀ post : SX → Prop, post (cm, nI tc, nI n, cp, cf, xo, xi, xs, xh, nI d, nI p, ac, nI tl, st', ac, ut', cr, fr, g, a, fs, tf, xot, xop, ft, fp, fy, tr) → wpX_executeToken post (cm, nI tc, nI n, cp, cf, xo, xi, xs, xh, nI d, nI p, ac, nI tl, 0, 0, 0, cr, fr, g, a, fs, tf, xot, xop, ft, fp, fy, tr)) ∧ (∀ post : SY → Prop, post (cm, nI tc, nI n, cp, cf, st', 0, ut', nI tl, cr, fr, nI d, nI p, ac, 0, g, a, tr, yp, sk, so, sh, sy) → wpY_step post (cm, nI tc, nI n, cp, cf, 0, 0, 0, nI tl, cr, fr, nI d, nI p, ac, 1, g, a, tr, yp, sk, so, sh, sy)))) := by
  obtain ⟨z1, z2, z3, z4, K0, K1, b2, b3, b4, b5⟩ := rn_b G J
  obtain ⟨d, rfl, hP, r2, r3, r4, r5, r6⟩ := rn_top G J hoc
  have J0 := J
  obtain ⟨R, hX, hY, E, hM⟩ := J0
  have hdd : d < d + 1 := by omega
  have hTn := (R.2.2.2 d hdd).1
  have hOp : ow_O g (T d) p := ⟨Or.inr k, hoc, r2.symm⟩
  obtain ⟨u1, u2, u3, u4, u5, u6, -⟩ := ow_2 K0 r4
  have hpt : hp_pt g p (hp_oc g (T d)) = P d := by rw [r5, r3]
  have P12 : P d = 1 ∨ P d = 2 := by rw [← r3] at h3; omega
  have f0 : ¬ fp d = 0 := fun h => hP ((rt_fp hX hdd (k := 0) (by omega)).mp h)
  have f3 : ¬ fp d = 3 := fun h => by have := (rt_fp hX hdd (k := 3) (by omega)).mp h; omega
  have ea : a (nI p).toNatClampNeg = a p := by rw [b3]
  rcases hY d hdd with ⟨p0, -⟩ | ⟨p1, p3, k1, s1, s2, -⟩
  · exact absurd p0 hP
  have fin : ∀ (d' p' : Nat) (fr' : Int32) (fp' fy' sh' sy' : Nat → Int32), rn_I g a n M d' p' ft fp' fy' sk so sh' sy' → (∀ post : SX → Prop, post (cm, nI tc, nI n, cp, cf, xo, xi, xs, xh, nI d', nI p', ac, nI tl, 0, 0, 0, cr, fr', g, a, fs, tf, xot, xop, ft, fp', fy', tr) → wpX_finishBody post (cm, nI tc, nI n, cp, cf, xo, xi, xs, xh, nI (d + 1), nI p, ac, nI tl, 0, 0, 0, cr, fr, g, a, fs, tf, xot, xop, ft, fp, fy, tr)) → (∀ post : SY → Prop, post (cm, nI tc, nI n, cp, cf, 0, 0, 0, nI tl, cr, fr', nI d', nI p', ac, 1, g, a, tr, yp, sk, so, sh', sy') → wpY_completeBody post (cm, nI tc, nI n, cp, cf, 0, 0, 0, nI tl, cr, fr, nI (d + 1), nI p, ac, 1, g, a, tr, yp, sk, so, sh, sy)) → (∃ (d' p' tl' : Nat) (ac' cr' fr' : Int32) (ft' fp' fy' tr' sk' so' sh' sy' : Nat → Int32), rn_I g a n M d' p' ft' fp' fy' sk' so' sh' sy' ∧ tl' ≤ tc ∧ (∀ post : SX → Prop, post (cm, nI tc, nI n, cp, cf, xo, xi, xs, xh, nI d', nI p', ac', nI tl', 0, 0, 0, cr', fr', g, a, fs, tf, xot, xop, ft', fp', fy', tr') → wpX_executeToken post (cm, nI tc, nI n, cp, cf, xo, xi, xs, xh, nI (d + 1), nI p, ac, nI tl, 0, 0, 0, cr, fr, g, a, fs, tf, xot, xop, ft, fp, fy, tr)) ∧ (∀ post : SY → Prop, post (cm, nI tc, nI n, cp, cf, 0, 0, 0, nI tl', cr', fr', nI d', nI p', ac', 1, g, a, tr', yp, sk', so', sh', sy') → wpY_step post (cm, nI tc, nI n, cp, cf, 0, 0, 0, nI tl, cr, fr, nI (d + 1), nI p, ac, 1, g, a, tr, yp, sk, so, sh, sy))) := fun d' p' fr' fp' fy' sh' sy' I' wx wy => by
    rcases k with k | k
    · have eg : g (nI p).toNatClampNeg = 4 := by rw [b3]; exact k
      exact ⟨d', p', tl, ac, cr, fr', ft, fp', fy', tr, sk, so, sh', sy', I', htl,
        fun post hp => ⟨b2, nm_r ea ⟨b2, nm_r eg (br_f (by decide) (br_f (by decide) (br_f (by decide) (br_t rfl (wx _ hp)))))⟩⟩,
        fun post hp => br_f b4 (br_t b5 ⟨b2, nm_r eg ⟨b2, nm_r ea (br_f (by decide) (br_f (by decide) (br_f (by decide) (br_f (by decide) (br_f (by decide) (br_f (by decide) (br_f (by decide) (br_t rfl (wy _ hp)))))))))⟩⟩)⟩
    · have eg : g (nI p).toNatClampNeg = 5 := by rw [b3]; exact k
      exact ⟨d', p', tl, ac, cr, fr', ft, fp', fy', tr, sk, so, sh', sy', I', htl,
        fun post hp => ⟨b2, nm_r ea ⟨b2, nm_r eg (br_f (by decide) (br_f (by decide) (br_f (by decide) (br_f (by decide) (br_t rfl (wx _ hp))))))⟩⟩,
        fun post hp => br_f b4 (br_t b5 ⟨b2, nm_r eg ⟨b2, nm_r ea (br_f (by decide) (br_f (by decide) (br_f (by decide) (br_f (by decide) (br_f (by decide) (br_f (by decide) (br_f (by decide) (br_f (by decide) (br_t rfl (wy _ hp))))))))))⟩⟩)⟩
  by_cases hf : ∃ x, x < n ∧ (ow_O g (T d) x ∧ g x = 5)
  · obtain ⟨x, x1, x2, x3⟩ := ow_Lx hf
    exact Or.inl (fin (d + 1) (x + 1) (fr + 1) (upd fp d 3) (upd fy d 0) (upd sh d 2) (upd sy d 0) (rn_set (k := 3) (ty := 0) G J hdd x1 x2.1 (Or.inr ⟨rfl, x2.2, P12⟩) (by omega) (fun _ h => by omega))
      (fun post hp => xb_f z2 hT (by omega) x1 (by omega) (hX d hdd).1 f0 f3 x3 post hp) (fun post hp => yb_f G r6 hTn x1 (by omega) k1 s1 x3 post hp))
  · obtain ⟨x, x1, x2, x3, x4⟩ := ow_end G (n - p) p (by omega) r4
    have hl5 : ow_L n (fun x => ow_O g (T d) x ∧ g x = 5) (-1) := Or.inr ⟨rfl, fun y hy h => hf ⟨y, hy, h⟩⟩
    have hl2 := ow_e1 G x2 x3 x4
    exact Or.inl (fin d (x + 1) fr fp fy sh sy (rn_out G J hP x2 x1 x3 x4 u3)
      (fun post hp => xb_e z2 hT (by omega) (by omega) (hX d hdd).1 f0 (Or.inr ⟨f3, hl5⟩) (fun h => absurd h f3) hl2 post hp) (fun post hp => yb_e G r6 hTn x2 (by omega) k1 s1 hl5 hl2 post hp))
theorem st_2a (G : ow_G g a n) (hT : ow_T g tf n) (htl : tl ≤ tc) (J : rn_J g a n (M + 1) T P d p ft fp fy sk so sh sy) (k : g p = 2) (hoc : hp_oc g p = 0) : ((∃ (d' p' tl' : Nat) (ac' cr' fr' : Int32) (ft' fp' fy' tr' sk' so' sh' sy' : Nat → Int32), rn_I g a n M d' p' ft' fp' fy' sk' so' sh' sy' ∧ tl' ≤ tc ∧ (∀ post : SX → Prop, post (cm, nI tc, nI n, cp, cf, xo, xi, xs, xh, nI d', nI p', ac', nI tl', 0, 0, 0, cr', fr', g, a, fs, tf, xot, xop, ft', fp', fy', tr') → wpX_executeToken post (cm, nI tc, nI n, cp, cf, xo, xi, xs, xh, nI d, nI p, ac, nI tl, 0, 0, 0, cr, fr, g, a, fs, tf, xot, xop, ft, fp, fy, tr)) ∧ (∀ post : SY → Prop, post (cm, nI tc, nI n, cp, cf, 0, 0, 0, nI tl', cr', fr', nI d', nI p', ac', 1, g, a, tr', yp, sk', so', sh', sy') → wpY_step post (cm, nI tc, nI n, cp, cf, 0, 0, 0, nI tl, cr, fr, nI d, nI p, ac, 1, g, a, tr, yp, sk, so, sh, sy))) ∨ (∃ st' ut' : Int32, ¬ st' = 0 ∧ (st' = 2 ∨ ut' = 0) ∧ (∀ post : SX → Prop, post (cm, nI tc, nI n, cp, cf, xo, xi, xs, xh, nI d, nI p, ac, nI tl, st', ac, ut', cr, fr, g, a, fs, tf, xot, xop, ft, fp, fy, tr) → wpX_executeToken post (cm, nI tc, nI n, cp, cf, xo, xi, xs, xh, nI d, nI p, ac, nI tl, 0, 0, 0, cr, fr, g, a, fs, tf, xot, xop, ft, fp, fy, tr)) ∧ (∀ post : SY → Prop, post (cm, nI tc, nI n, cp, cf, st', 0, ut', nI tl, cr, fr, nI d, nI p, ac, 0, g, a, tr, yp, sk, so, sh, sy) → wpY_step post (cm, nI tc, nI n, cp, cf, 0, 0, 0, nI tl, cr, fr, nI d, nI p, ac, 1, g, a, tr, yp, sk, so, sh, sy)))) := by
  obtain ⟨z1, z2, z3, z4, K0, K1, b2, b3, b4, b5⟩ := rn_b G J
  have J0 := J
  obtain ⟨R, hX, hY, E, hM⟩ := J0
  have eg : g (nI p).toNatClampNeg = 2 := by rw [b3]; exact k
  have ea : a (nI p).toNatClampNeg = a p := by rw [b3]
  rcases Nat.eq_zero_or_pos d with z | z
  · subst z
    exact Or.inr ⟨1, 0, by decide, Or.inr rfl,
      fun post hp => ⟨b2, nm_r ea ⟨b2, nm_r eg (br_t (by decide) (br_t rfl hp))⟩⟩,
      fun post hp => br_f b4 (br_t b5 ⟨b2, nm_r eg ⟨b2, nm_r ea (br_f (by decide) (br_f (by decide) (br_f (by decide) (br_f (by decide) (br_f (by decide) (br_f (by decide) (br_f (by decide) (br_f (by decide) (br_f (by decide) (br_t rfl (br_t rfl hp)))))))))))⟩⟩)⟩
  · obtain ⟨d, rfl⟩ : ∃ d', d = d' + 1 := ⟨d - 1, by omega⟩
    have hdd : d < d + 1 := by omega
    obtain ⟨t1, t2, t3⟩ := R.2.2.2 d hdd
    rw [rt_xg (Nat.le_refl _)] at t3
    rcases t3 with ⟨k1, -⟩ | ⟨-, k2, k3, k4⟩
    · omega
    obtain ⟨n1, n2, n3, n4, n5⟩ := hp_s6 (g := g) (i := T d) (by unfold hp_pl; simp [k3])
    have ex : rt_x T (d + 1) p d = T d := rt_xl (by omega)
    have I' : rn_I g a n M d (T d + 1) ft fp fy sk so sh sy := by
      refine rn_cut G J (by omega) (by omega) (by rw [n5]; exact t2) (by rw [ex]; exact n1) (by rw [ex]; exact n4) (by rw [ex, n2, n3]; exact fun m _ => ⟨rfl, rfl⟩) ?_
      have : 1 ≤ rt_R g p := by
        have h1 := rt_w1 (hp_fn g p)
        have := Nat.mul_le_mul (show 1 ≤ 32 - p by omega) h1
        unfold rt_R; omega
      simp only [rt_s, if_pos k2]
      omega
    have f0 : fp d = 0 := (rt_fp hX hdd (k := 0) (by omega)).mpr k2
    rcases hY d hdd with ⟨p0, q1, q2⟩ | ⟨p1, -⟩
    · exact Or.inl ⟨d, T d + 1, tl, ac, cr, fr, ft, fp, fy, tr, sk, so, sh, sy, I', htl,
        fun post hp => ⟨b2, nm_r ea ⟨b2, nm_r eg (br_t (by decide) (xb_c z2 hT (by omega) (by omega) (hX d hdd).1 f0 _ hp))⟩⟩,
        fun post hp => br_f b4 (br_t b5 ⟨b2, nm_r eg ⟨b2, nm_r ea (br_f (by decide) (br_f (by decide) (br_f (by decide) (br_f (by decide) (br_f (by decide) (br_f (by decide) (br_f (by decide) (br_f (by decide) (br_f (by decide) (br_t rfl (ye_c (by omega) q1 q2 _ hp)))))))))))⟩⟩)⟩
    · omega
theorem st_2b (G : ow_G g a n) (hT : ow_T g tf n) (htl : tl ≤ tc) (J : rn_J g a n (M + 1) T P d p ft fp fy sk so sh sy) (k : g p = 2) (hoc : 0 < hp_oc g p) (hpt1 : hp_pt g p (hp_oc g p - 1) ≠ 1) : ((∃ (d' p' tl' : Nat) (ac' cr' fr' : Int32) (ft' fp' fy' tr' sk' so' sh' sy' : Nat → Int32), rn_I g a n M d' p' ft' fp' fy' sk' so' sh' sy' ∧ tl' ≤ tc ∧ (∀ post : SX → Prop, post (cm, nI tc, nI n, cp, cf, xo, xi, xs, xh, nI d', nI p', ac', nI tl', 0, 0, 0, cr', fr', g, a, fs, tf, xot, xop, ft', fp', fy', tr') → wpX_executeToken post (cm, nI tc, nI n, cp, cf, xo, xi, xs, xh, nI d, nI p, ac, nI tl, 0, 0, 0, cr, fr, g, a, fs, tf, xot, xop, ft, fp, fy, tr)) ∧ (∀ post : SY → Prop, post (cm, nI tc, nI n, cp, cf, 0, 0, 0, nI tl', cr', fr', nI d', nI p', ac', 1, g, a, tr', yp, sk', so', sh', sy') → wpY_step post (cm, nI tc, nI n, cp, cf, 0, 0, 0, nI tl, cr, fr, nI d, nI p, ac, 1, g, a, tr, yp, sk, so, sh, sy))) ∨ (∃ st' ut' : Int32, ¬ st' = 0 ∧ (st' = 2 ∨ ut' = 0) ∧ (∀ post : SX → Prop, post (cm, nI tc, nI n, cp, cf, xo, xi, xs, xh, nI d, nI p, ac, nI tl, st', ac, ut', cr, fr, g, a, fs, tf, xot, xop, ft, fp, fy, tr) → wpX_executeToken post (cm, nI tc, nI n, cp, cf, xo, xi, xs, xh, nI d, nI p, ac, nI tl, 0, 0, 0, cr, fr, g, a, fs, tf, xot, xop, ft, fp, fy, tr)) ∧ (∀ post : SY → Prop, post (cm, nI tc, nI n, cp, cf, st', 0, ut', nI tl, cr, fr, nI d, nI p, ac, 0, g, a, tr, yp, sk, so, sh, sy) → wpY_step post (cm, nI tc, nI n, cp, cf, 0, 0, 0, nI tl, cr, fr, nI d, nI p, ac, 1, g, a, tr, yp, sk, so, sh, sy)))) := by
  obtain ⟨z1, z2, z3, z4, K0, K1, b2, b3, b4, b5⟩ := rn_b G J
  obtain ⟨d, rfl, hP, r2, r3, r4, r5, r6⟩ := rn_top G J hoc
  have J0 := J
  obtain ⟨R, hX, hY, E, hM⟩ := J0
  have hdd : d < d + 1 := by omega
  have hTn := (R.2.2.2 d hdd).1
  have hOp : ow_O g (T d) p := ⟨Or.inl k, hoc, r2.symm⟩
  obtain ⟨u1, u2, u3, u4, u5, u6, -⟩ := ow_2 K0 r4
  have hpt : hp_pt g p (hp_oc g (T d)) = P d := by rw [r5, r3]
  have f0 : ¬ fp d = 0 := fun h => hP ((rt_fp hX hdd (k := 0) (by omega)).mp h)
  have f3 := rt_fp hX hdd (k := 3) (by omega)
  have eg : g (nI p).toNatClampNeg = 2 := by rw [b3]; exact k
  have ea : a (nI p).toNatClampNeg = a p := by rw [b3]
  have hl2 := ow_e1 G z1 hOp k
  rcases hY d hdd with ⟨p0, -⟩ | ⟨p1, p3, k1, s1, s2, s3⟩
  · exact absurd p0 hP
  have P23 : P d = 2 ∨ P d = 3 := by
    rw [← r3] at hpt1
    clear s3
    omega
  obtain ⟨t1, ty, t2, t3, t4⟩ := s3 (by clear s3; omega)
  clear s3
  have ho : xo_R g n (T d) (fp d) (-1) := by
    by_cases h3 : P d = 3
    · exact Or.inl ⟨f3.mpr h3, rfl⟩
    · refine Or.inr ⟨fun h => h3 (f3.mp h), Or.inr ⟨rfl, fun y hy h => ?_⟩⟩
      rcases Nat.lt_trichotomy y p with z | z | z
      · have := (ow_7 h.1 p K0 z).2.2 h.2 r4
        omega
      · rw [z, k] at h; exact absurd h.2 (by decide)
      · exact (ow_8 (ow_Kl G.2.1 (show y + 1 ≤ n by omega)) hOp h.1 z).1 k
  by_cases hpd : P d = 3 ∧ ty ≠ 0
  · obtain ⟨h3, h0⟩ := hpd
    have hy0 : ¬ nI ty = 0 := nI_ne0 (by omega) (by omega)
    obtain hE := E d hdd h3 (by rw [t3]; exact hy0)
    rw [t3] at hE
    have sh2 : sh d = 2 := by rw [s2, h3]; rfl
    obtain ⟨j, x, kk, j1, j2, j3⟩ := rt_ex G R d (by omega) hE
    have j5 : ∀ m, j < m → m < d + 1 → rt_p g a n T P (nI ty) m := fun m m1 m2 => by
      by_cases em : m = d
      · rw [em]; exact ⟨fun h => by omega, fun h => absurd h3 h⟩
      · exact j3 m m1 (by omega)
    have j4 := j2
    obtain ⟨hx, ⟨k2, q1, l1, l2⟩ | ⟨k3, p12, no, l1, l2, l3, he⟩⟩ := j4
    · exact Or.inl ⟨j + 1, x + 1, tl, ac, cr + 1, fr, ft, upd fp j 2, upd fy j (nI ty), tr, sk, so, upd sh j 1, upd sy j (nI ty), rn_set (k := 2) G J (by omega) hx l2.1 (Or.inl ⟨rfl, l2.2.1, q1, by omega⟩) t2 (fun h => by omega), htl,
        fun post hp => ⟨b2, nm_r ea ⟨b2, nm_r eg (br_t (by decide) (xb_u z2 hT (by omega) (by omega) (hX d hdd).1 (f3.mpr h3) t3 hy0 (fun post hp => xu_w G hT R (by omega) hX (by omega) j5 j2 post (fun _ => hp) (fun h => by omega)) _ hp))⟩⟩,
        fun post hp => br_f b4 (br_t b5 ⟨b2, nm_r eg ⟨b2, nm_r ea (br_f (by decide) (br_f (by decide) (br_f (by decide) (br_f (by decide) (br_f (by decide) (br_f (by decide) (br_f (by decide) (br_f (by decide) (br_f (by decide) (br_t rfl (ye_u (by omega) k1 sh2 (by rw [t1]; exact t3) (by omega) t2 (fun post hp => yr_w G R (by omega) hY (by omega) j1 j3 j2 post (fun _ => hp) (fun h => by omega)) _ hp)))))))))))⟩⟩)⟩
    · exact Or.inl ⟨j + 1, x + 1, tl, ac, cr, fr + 1, ft, upd fp j 3, upd fy j (nI ty), tr, sk, so, upd sh j 2, upd sy j (nI ty), rn_set (k := 3) G J (by omega) hx l2 (Or.inr ⟨rfl, l3, p12⟩) t2 (fun _ _ => he), htl,
        fun post hp => ⟨b2, nm_r ea ⟨b2, nm_r eg (br_t (by decide) (xb_u z2 hT (by omega) (by omega) (hX d hdd).1 (f3.mpr h3) t3 hy0 (fun post hp => xu_w G hT R (by omega) hX (by omega) j5 j2 post (fun h => by omega) (fun _ => hp)) _ hp))⟩⟩,
        fun post hp => br_f b4 (br_t b5 ⟨b2, nm_r eg ⟨b2, nm_r ea (br_f (by decide) (br_f (by decide) (br_f (by decide) (br_f (by decide) (br_f (by decide) (br_f (by decide) (br_f (by decide) (br_f (by decide) (br_f (by decide) (br_t rfl (ye_u (by omega) k1 sh2 (by rw [t1]; exact t3) (by omega) t2 (fun post hp => yr_w G R (by omega) hY (by omega) j1 j3 j2 post (fun h => by omega) (fun _ => hp)) _ hp)))))))))))⟩⟩)⟩
  · have hz : P d = 3 → fy d = 0 := fun h => by
      have : ty = 0 := by
        rcases Nat.eq_zero_or_pos ty with z | z
        · exact z
        · exact absurd ⟨h, by omega⟩ hpd
      rw [t3, this]; rfl
    exact Or.inl ⟨d, p + 1, tl, ac, cr, fr, ft, fp, fy, tr, sk, so, sh, sy, rn_out G J hP z1 (Nat.le_refl _) hOp k u3, htl,
      fun post hp => ⟨b2, nm_r ea ⟨b2, nm_r eg (br_t (by decide) (xb_e z2 hT (by omega) (by omega) (hX d hdd).1 f0 ho (fun h => hz (f3.mp h)) hl2 _ hp))⟩⟩,
      fun post hp => br_f b4 (br_t b5 ⟨b2, nm_r eg ⟨b2, nm_r ea (br_f (by decide) (br_f (by decide) (br_f (by decide) (br_f (by decide) (br_f (by decide) (br_f (by decide) (br_f (by decide) (br_f (by decide) (br_f (by decide) (br_t rfl (ye_e (by omega) k1 (fun h => by
        rw [t1]
        refine hz ?_
        rw [s2] at h
        have := hp_eq (b := 2) h (by omega) (by omega)
        omega) _ hp)))))))))))⟩⟩)⟩
/-- one step -/
theorem rn_step (G : ow_G g a n) (hT : ow_T g tf n) (htl : tl ≤ tc) (J : rn_J g a n (M + 1) T P d p ft fp fy sk so sh sy) (htc : tc ≤ 32) (hfs : ∀ q, q < n → g q = 1 → fs (hp_fn g q) = nI q) (hcf : cf = nI (hp_fn g n)) : ((∃ (d' p' tl' : Nat) (ac' cr' fr' : Int32) (ft' fp' fy' tr' sk' so' sh' sy' : Nat → Int32), rn_I g a n M d' p' ft' fp' fy' sk' so' sh' sy' ∧ tl' ≤ tc ∧ (∀ post : SX → Prop, post (cm, nI tc, nI n, cp, cf, xo, xi, xs, xh, nI d', nI p', ac', nI tl', 0, 0, 0, cr', fr', g, a, fs, tf, xot, xop, ft', fp', fy', tr') → wpX_executeToken post (cm, nI tc, nI n, cp, cf, xo, xi, xs, xh, nI d, nI p, ac, nI tl, 0, 0, 0, cr, fr, g, a, fs, tf, xot, xop, ft, fp, fy, tr)) ∧ (∀ post : SY → Prop, post (cm, nI tc, nI n, cp, cf, 0, 0, 0, nI tl', cr', fr', nI d', nI p', ac', 1, g, a, tr', yp, sk', so', sh', sy') → wpY_step post (cm, nI tc, nI n, cp, cf, 0, 0, 0, nI tl, cr, fr, nI d, nI p, ac, 1, g, a, tr, yp, sk, so, sh, sy))) ∨ (∃ st' ut' : Int32, ¬ st' = 0 ∧ (st' = 2 ∨ ut' = 0) ∧ (∀ post : SX → Prop, post (cm, nI tc, nI n, cp, cf, xo, xi, xs, xh, nI d, nI p, ac, nI tl, st', ac, ut', cr, fr, g, a, fs, tf, xot, xop, ft, fp, fy, tr) → wpX_executeToken post (cm, nI tc, nI n, cp, cf, xo, xi, xs, xh, nI d, nI p, ac, nI tl, 0, 0, 0, cr, fr, g, a, fs, tf, xot, xop, ft, fp, fy, tr)) ∧ (∀ post : SY → Prop, post (cm, nI tc, nI n, cp, cf, st', 0, ut', nI tl, cr, fr, nI d, nI p, ac, 0, g, a, tr, yp, sk, so, sh, sy) → wpY_step post (cm, nI tc, nI n, cp, cf, 0, 0, 0, nI tl, cr, fr, nI d, nI p, ac, 1, g, a, tr, yp, sk, so, sh, sy)))) := by
  have z4 := J.1.2.1
  rcases G.2.1 p J.1.1 with ⟨h1, h2, h3⟩ | ⟨h0, ⟨h1, h2⟩ | ⟨h1, h2, h3⟩ | h1 | ⟨h1, h2, h3, -⟩ | ⟨h1, h2, h3⟩ | h1 | h1 | ⟨h1 | h1, ty, t1, t2, t3⟩ | ⟨h1, h2⟩ | ⟨h1, -⟩⟩
  · omega
  · exact st_2a G hT htl J h1 h2
  · exact st_2b G hT htl J h1 h2 h3
  · exact st_3 G hT htl J h1
  · exact st_45 G hT htl J (Or.inl h1) h2 h3
  · exact st_45 G hT htl J (Or.inr h1) h2 h3
  · exact st_6 G hT htl J h1
  · exact st_7 G hT htl J htc h1
  · exact st_8 G hT htl J h1 t1 t2 t3
  · exact st_9 G hT htl J h1 t1 t2 t3
  · exact st_10 G hT htl J h1 h2
  · exact st_11 G hT htl J hfs hcf h1
end HE
