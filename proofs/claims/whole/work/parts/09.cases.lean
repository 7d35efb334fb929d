section HK
variable {g a fs tf xot xop ft fp fy tr yp sk so sh sy : Nat → Int32} {n d p tl tc M : Nat} {T P : Nat → Nat} {cm cp cf xo xi xs xh ac cr fr : Int32}
/-! N: a step, by token -/
theorem rn_b (G : ow_G g a n) (J : rn_J g a n (M + 1) T P d p ft fp fy sk so sh sy) : p < n ∧ n ≤ 32 ∧ d ≤ p ∧ hp_in g p = 1 ∧ ow_K g a p ∧ ow_K g a (p + 1) ∧ vp_in (nI p) 32 ∧ (nI p).toNatClampNeg = p ∧ ¬ nI p < 0 ∧ nI p < nI n := by
  have h1 := J.1.1
  have h2 := G.1
  exact ⟨h1, h2, rt_dp G J.1, J.1.2.1, ow_Kl G.2.1 (by omega), ow_Kl G.2.1 (by omega), vp_in_nI (by omega) (by omega), nI_clamp (by omega), nI_pos (by omega), nI_lt h1 (by omega)⟩
theorem rn_nx (G : ow_G g a n) (J : rn_J g a n (M + 1) T P d p ft fp fy sk so sh sy) (k : hp_pl (g p)) : rn_I g a n M d (p + 1) ft fp fy sk so sh sy := by
  obtain ⟨z1, z2, z3, z4, -⟩ := rn_b G J
  obtain ⟨e1, e2, e3, e4, e5⟩ := hp_s6 k
  refine rn_cut G J (Nat.le_refl _) (by omega) (by rw [e5]; exact z4) ?_ ?_ ?_ ?_
  · rw [rt_xg (Nat.le_refl _), e1]
  · rw [rt_xg (Nat.le_refl _), e4]
  · rw [rt_xg (Nat.le_refl _), e2, e3]; exact fun m _ => ⟨rfl, rfl⟩
  · have := rt_Rl (g := g) e4 (show p < p + 1 by omega) (by omega)
    omega
theorem st_6 (G : ow_G g a n) (hT : ow_T g tf n) (htl : tl ≤ tc) (J : rn_J g a n (M + 1) T P d p ft fp fy sk so sh sy) (k : g p = 6) : ((∃ (d' p' tl' : Nat) (ac' cr' fr' : Int32) (ft' fp' fy' tr' sk' so' sh' sy' : Nat → Int32), rn_I g a n M d' p' ft' fp' fy' sk' so' sh' sy' ∧ tl' ≤ tc ∧ (∀ post : SX → Prop, post (cm, nI tc, nI n, cp, cf, xo, xi, xs, xh, nI d', nI p', ac', nI tl', 0, 0, 0, cr', fr', g, a, fs, tf, xot, xop, ft', fp', fy', tr') → wpX_executeToken post (cm, nI tc, nI n, cp, cf, xo, xi, xs, xh, nI d, nI p, ac, nI tl, 0, 0, 0, cr, fr, g, a, fs, tf, xot, xop, ft, fp, fy, tr)) ∧ (∀ post : SY → Prop, post (cm, nI tc, nI n, cp, cf, 0, 0, 0, nI tl', cr', fr', nI d', nI p', ac', 1, g, a, tr', yp, sk', so', sh', sy') → wpY_step post (cm, nI tc, nI n, cp, cf, 0, 0, 0, nI tl, cr, fr, nI d, nI p, ac, 1, g, a, tr, yp, sk, so, sh, sy))) ∨ (∃ st' ut' : Int32, ¬ st' = 0 ∧ (st' = 2 ∨ ut' = 0) ∧ (∀ post : SX → Prop, post (cm, nI tc, nI n, cp, cf, xo, xi, xs, xh, nI d, nI p, ac, nI tl, st', ac, ut', cr, fr, g, a, fs, tf, xot, xop, ft, fp, fy, tr) → wpX_executeToken post (cm, nI tc, nI n, cp, cf, xo, xi, xs, xh, nI d, nI p, ac, nI tl, 0, 0, 0, cr, fr, g, a, fs, tf, xot, xop, ft, fp, fy, tr)) ∧ (∀ post : SY → Prop, post (cm, nI tc, nI n, cp, cf, st', 0, ut', nI tl, cr, fr, nI d, nI p, ac, 0, g, a, tr, yp, sk, so, sh, sy) → wpY_step post (cm, nI tc, nI n, cp, cf, 0, 0, 0, nI tl, cr, fr, nI d, nI p, ac, 1, g, a, tr, yp, sk, so, sh, sy)))) := by
  obtain ⟨z1, z2, z3, z4, K0, K1, b2, b3, b4, b5⟩ := rn_b G J
  have eg : g (nI p).toNatClampNeg = 6 := by rw [b3]; exact k
  have ea : a (nI p).toNatClampNeg = a p := by rw [b3]
  exact Or.inl ⟨d, p + 1, tl, ac + a p, cr, fr, ft, fp, fy, tr, sk, so, sh, sy, rn_nx G J (Or.inl k), htl,
    fun post hp => ⟨b2, nm_r ea ⟨b2, nm_r eg (br_f (by decide) (br_f (by decide) (br_f (by decide) (br_f (by decide) (br_f (by decide) (br_t rfl (nm_e (nm_r (nI_1 p) hp))))))))⟩⟩,
    fun post hp => br_f b4 (br_t b5 ⟨b2, nm_r eg ⟨b2, nm_r ea (br_t rfl (nm_e (nm_r (nI_1 p) hp)))⟩⟩)⟩
theorem st_7 (G : ow_G g a n) (hT : ow_T g tf n) (htl : tl ≤ tc) (J : rn_J g a n (M + 1) T P d p ft fp fy sk so sh sy) (htc : tc ≤ 32) (k : g p = 7) : ((∃ (d' p' tl' : Nat) (ac' cr' fr' : Int32) (ft' fp' fy' tr' sk' so' sh' sy' : Nat → Int32), rn_I g a n M d' p' ft' fp' fy' sk' so' sh' sy' ∧ tl' ≤ tc ∧ (∀ post : SX → Prop, post (cm, nI tc, nI n, cp, cf, xo, xi, xs, xh, nI d', nI p', ac', nI tl', 0, 0, 0, cr', fr', g, a, fs, tf, xot, xop, ft', fp', fy', tr') → wpX_executeToken post (cm, nI tc, nI n, cp, cf, xo, xi, xs, xh, nI d, nI p, ac, nI tl, 0, 0, 0, cr, fr, g, a, fs, tf, xot, xop, ft, fp, fy, tr)) ∧ (∀ post : SY → Prop, post (cm, nI tc, nI n, cp, cf, 0, 0, 0, nI tl', cr', fr', nI d', nI p', ac', 1, g, a, tr', yp, sk', so', sh', sy') → wpY_step post (cm, nI tc, nI n, cp, cf, 0, 0, 0, nI tl, cr, fr, nI d, nI p, ac, 1, g, a, tr, yp, sk, so, sh, sy))) ∨ (∃ st' ut' : Int32, ¬ st' = 0 ∧ (st' = 2 ∨ ut' = 0) ∧ (∀ post : SX → Prop, post (cm, nI tc, nI n, cp, cf, xo, xi, xs, xh, nI d, nI p, ac, nI tl, st', ac, ut', cr, fr, g, a, fs, tf, xot, xop, ft, fp, fy, tr) → wpX_executeToken post (cm, nI tc, nI n, cp, cf, xo, xi, xs, xh, nI d, nI p, ac, nI tl, 0, 0, 0, cr, fr, g, a, fs, tf, xot, xop, ft, fp, fy, tr)) ∧ (∀ post : SY → Prop, post (cm, nI tc, nI n, cp, cf, st', 0, ut', nI tl, cr, fr, nI d, nI p, ac, 0, g, a, tr, yp, sk, so, sh, sy) → wpY_step post (cm, nI tc, nI n, cp, cf, 0, 0, 0, nI tl, cr, fr, nI d, nI p, ac, 1, g, a, tr, yp, sk, so, sh, sy)))) := by
  obtain ⟨z1, z2, z3, z4, K0, K1, b2, b3, b4, b5⟩ := rn_b G J
  have eg : g (nI p).toNatClampNeg = 7 := by rw [b3]; exact k
  have ea : a (nI p).toNatClampNeg = a p := by rw [b3]
  rcases Nat.lt_or_ge tl tc with z | z
  · have c1 : ¬ nI tc ≤ nI tl := nI_ge z (by omega)
    have c2 : vp_in (nI tl) 32 := vp_in_nI (by omega) (by omega)
    have c3 : (nI tl).toNatClampNeg = tl := nI_clamp (by omega)
    exact Or.inl ⟨d, p + 1, tl + 1, ac, cr, fr, ft, fp, fy, upd tr tl (a p), sk, so, sh, sy, rn_nx G J (Or.inr (Or.inl k)), z,
      fun post hp => ⟨b2, nm_r ea ⟨b2, nm_r eg (br_f (by decide) (br_f (by decide) (br_f (by decide) (br_f (by decide) (br_f (by decide) (br_f (by decide) (br_t rfl (br_f c1 ⟨c2, nm_r (by rw [c3]) (nm_r (nI_1 tl) (nm_r (nI_1 p) hp))⟩))))))))⟩⟩,
      fun post hp => br_f b4 (br_t b5 ⟨b2, nm_r eg ⟨b2, nm_r ea (br_f (by decide) (br_t rfl (br_f c1 ⟨c2, nm_r (by rw [c3]) (nm_r (nI_1 tl) (nm_r (nI_1 p) hp))⟩)))⟩⟩)⟩
  · have c1 : nI tc ≤ nI tl := nI_le z (by omega)
    exact Or.inl ⟨d, p + 1, tl, ac, cr, fr, ft, fp, fy, tr, sk, so, sh, sy, rn_nx G J (Or.inr (Or.inl k)), htl,
      fun post hp => ⟨b2, nm_r ea ⟨b2, nm_r eg (br_f (by decide) (br_f (by decide) (br_f (by decide) (br_f (by decide) (br_f (by decide) (br_f (by decide) (br_t rfl (br_t c1 (nm_r (nI_1 p) hp)))))))))⟩⟩,
      fun post hp => br_f b4 (br_t b5 ⟨b2, nm_r eg ⟨b2, nm_r ea (br_f (by decide) (br_t rfl (br_t c1 (nm_r (nI_1 p) hp))))⟩⟩)⟩
theorem st_8 (G : ow_G g a n) (hT : ow_T g tf n) (htl : tl ≤ tc) (J : rn_J g a n (M + 1) T P d p ft fp fy sk so sh sy) (k : g p = 8) {ty : Nat} (h1 : 1 ≤ ty) (h15 : ty ≤ 15) (hy : a p = nI ty) : ((∃ (d' p' tl' : Nat) (ac' cr' fr' : Int32) (ft' fp' fy' tr' sk' so' sh' sy' : Nat → Int32), rn_I g a n M d' p' ft' fp' fy' sk' so' sh' sy' ∧ tl' ≤ tc ∧ (∀ post : SX → Prop, post (cm, nI tc, nI n, cp, cf, xo, xi, xs, xh, nI d', nI p', ac', nI tl', 0, 0, 0, cr', fr', g, a, fs, tf, xot, xop, ft', fp', fy', tr') → wpX_executeToken post (cm, nI tc, nI n, cp, cf, xo, xi, xs, xh, nI d, nI p, ac, nI tl, 0, 0, 0, cr, fr, g, a, fs, tf, xot, xop, ft, fp, fy, tr)) ∧ (∀ post : SY → Prop, post (cm, nI tc, nI n, cp, cf, 0, 0, 0, nI tl', cr', fr', nI d', nI p', ac', 1, g, a, tr', yp, sk', so', sh', sy') → wpY_step post (cm, nI tc, nI n, cp, cf, 0, 0, 0, nI tl, cr, fr, nI d, nI p, ac, 1, g, a, tr, yp, sk, so, sh, sy))) ∨ (∃ st' ut' : Int32, ¬ st' = 0 ∧ (st' = 2 ∨ ut' = 0) ∧ (∀ post : SX → Prop, post (cm, nI tc, nI n, cp, cf, xo, xi, xs, xh, nI d, nI p, ac, nI tl, st', ac, ut', cr, fr, g, a, fs, tf, xot, xop, ft, fp, fy, tr) → wpX_executeToken post (cm, nI tc, nI n, cp, cf, xo, xi, xs, xh, nI d, nI p, ac, nI tl, 0, 0, 0, cr, fr, g, a, fs, tf, xot, xop, ft, fp, fy, tr)) ∧ (∀ post : SY → Prop, post (cm, nI tc, nI n, cp, cf, st', 0, ut', nI tl, cr, fr, nI d, nI p, ac, 0, g, a, tr, yp, sk, so, sh, sy) → wpY_step post (cm, nI tc, nI n, cp, cf, 0, 0, 0, nI tl, cr, fr, nI d, nI p, ac, 1, g, a, tr, yp, sk, so, sh, sy)))) := by
  obtain ⟨z1, z2, z3, z4, K0, K1, b2, b3, b4, b5⟩ := rn_b G J
  have eg : g (nI p).toNatClampNeg = 8 := by rw [b3]; exact k
  have ea : a (nI p).toNatClampNeg = nI ty := by rw [b3]; exact hy
  rcases rn_r (cm := cm) (cp := cp) (cf := cf) (xo := xo) (xi := xi) (xs := xs) (xh := xh) (ac := ac) (cr := cr) (fr := fr) (fs := fs) (xot := xot) (xop := xop) (tr := tr) (yp := yp) G hT htl J h1 h15 with ⟨d', p', tl', ac', cr', fr', ft', fp', fy', tr', sk', so', sh', sy', i1, i2, wx, wy⟩ | ⟨st', ut', i1, i2, wx, wy⟩
  · exact Or.inl ⟨d', p', tl', ac', cr', fr', ft', fp', fy', tr', sk', so', sh', sy', i1, i2,
      fun post hp => ⟨b2, nm_r ea ⟨b2, nm_r eg (br_f (by decide) (br_f (by decide) (br_f (by decide) (br_f (by decide) (br_f (by decide) (br_f (by decide) (br_f (by decide) (br_t rfl (wx _ hp)))))))))⟩⟩,
      fun post hp => br_f b4 (br_t b5 ⟨b2, nm_r eg ⟨b2, nm_r ea (br_f (by decide) (br_f (by decide) (br_t rfl (wy _ hp))))⟩⟩)⟩
  · exact Or.inr ⟨st', ut', i1, i2,
      fun post hp => ⟨b2, nm_r ea ⟨b2, nm_r eg (br_f (by decide) (br_f (by decide) (br_f (by decide) (br_f (by decide) (br_f (by decide) (br_f (by decide) (br_f (by decide) (br_t rfl (wx _ hp)))))))))⟩⟩,
      fun post hp => br_f b4 (br_t b5 ⟨b2, nm_r eg ⟨b2, nm_r ea (br_f (by decide) (br_f (by decide) (br_t rfl (wy _ hp))))⟩⟩)⟩
theorem st_9 (G : ow_G g a n) (hT : ow_T g tf n) (htl : tl ≤ tc) (J : rn_J g a n (M + 1) T P d p ft fp fy sk so sh sy) (k : g p = 9) {ty : Nat} (h1 : 1 ≤ ty) (h15 : ty ≤ 15) (hy : a p = nI ty) : ((∃ (d' p' tl' : Nat) (ac' cr' fr' : Int32) (ft' fp' fy' tr' sk' so' sh' sy' : Nat → Int32), rn_I g a n M d' p' ft' fp' fy' sk' so' sh' sy' ∧ tl' ≤ tc ∧ (∀ post : SX → Prop, post (cm, nI tc, nI n, cp, cf, xo, xi, xs, xh, nI d', nI p', ac', nI tl', 0, 0, 0, cr', fr', g, a, fs, tf, xot, xop, ft', fp', fy', tr') → wpX_executeToken post (cm, nI tc, nI n, cp, cf, xo, xi, xs, xh, nI d, nI p, ac, nI tl, 0, 0, 0, cr, fr, g, a, fs, tf, xot, xop, ft, fp, fy, tr)) ∧ (∀ post : SY → Prop, post (cm, nI tc, nI n, cp, cf, 0, 0, 0, nI tl', cr', fr', nI d', nI p', ac', 1, g, a, tr', yp, sk', so', sh', sy') → wpY_step post (cm, nI tc, nI n, cp, cf, 0, 0, 0, nI tl, cr, fr, nI d, nI p, ac, 1, g, a, tr, yp, sk, so, sh, sy))) ∨ (∃ st' ut' : Int32, ¬ st' = 0 ∧ (st' = 2 ∨ ut' = 0) ∧ (∀ post : SX → Prop, post (cm, nI tc, nI n, cp, cf, xo, xi, xs, xh, nI d, nI p, ac, nI tl, st', ac, ut', cr, fr, g, a, fs, tf, xot, xop, ft, fp, fy, tr) → wpX_executeToken post (cm, nI tc, nI n, cp, cf, xo, xi, xs, xh, nI d, nI p, ac, nI tl, 0, 0, 0, cr, fr, g, a, fs, tf, xot, xop, ft, fp, fy, tr)) ∧ (∀ post : SY → Prop, post (cm, nI tc, nI n, cp, cf, st', 0, ut', nI tl, cr, fr, nI d, nI p, ac, 0, g, a, tr, yp, sk, so, sh, sy) → wpY_step post (cm, nI tc, nI n, cp, cf, 0, 0, 0, nI tl, cr, fr, nI d, nI p, ac, 1, g, a, tr, yp, sk, so, sh, sy)))) := by
  obtain ⟨z1, z2, z3, z4, K0, K1, b2, b3, b4, b5⟩ := rn_b G J
  have eg : g (nI p).toNatClampNeg = 9 := by rw [b3]; exact k
  have ea : a (nI p).toNatClampNeg = nI ty := by rw [b3]; exact hy
  by_cases hz : ac = 0
  · exact Or.inl ⟨d, p + 1, tl, ac, cr, fr, ft, fp, fy, tr, sk, so, sh, sy, rn_nx G J (by unfold hp_pl; simp [k]), htl,
      fun post hp => ⟨b2, nm_r ea ⟨b2, nm_r eg (br_f (by decide) (br_f (by decide) (br_f (by decide) (br_f (by decide) (br_f (by decide) (br_f (by decide) (br_f (by decide) (br_f (by decide) (br_t rfl (br_t hz (nm_r (nI_1 p) hp)))))))))))⟩⟩,
      fun post hp => br_f b4 (br_t b5 ⟨b2, nm_r eg ⟨b2, nm_r ea (br_f (by decide) (br_f (by decide) (br_f (by decide) (br_t rfl (br_t hz (nm_r (nI_1 p) hp))))))⟩⟩)⟩
  rcases rn_r (cm := cm) (cp := cp) (cf := cf) (xo := xo) (xi := xi) (xs := xs) (xh := xh) (ac := ac) (cr := cr) (fr := fr) (fs := fs) (xot := xot) (xop := xop) (tr := tr) (yp := yp) G hT htl J h1 h15 with ⟨d', p', tl', ac', cr', fr', ft', fp', fy', tr', sk', so', sh', sy', i1, i2, wx, wy⟩ | ⟨st', ut', i1, i2, wx, wy⟩
  · exact Or.inl ⟨d', p', tl', ac', cr', fr', ft', fp', fy', tr', sk', so', sh', sy', i1, i2,
      fun post hp => ⟨b2, nm_r ea ⟨b2, nm_r eg (br_f (by decide) (br_f (by decide) (br_f (by decide) (br_f (by decide) (br_f (by decide) (br_f (by decide) (br_f (by decide) (br_f (by decide) (br_t rfl (br_f hz (wx _ hp)))))))))))⟩⟩,
      fun post hp => br_f b4 (br_t b5 ⟨b2, nm_r eg ⟨b2, nm_r ea (br_f (by decide) (br_f (by decide) (br_f (by decide) (br_t rfl (br_f hz (wy _ hp))))))⟩⟩)⟩
  · exact Or.inr ⟨st', ut', i1, i2,
      fun post hp => ⟨b2, nm_r ea ⟨b2, nm_r eg (br_f (by decide) (br_f (by decide) (br_f (by decide) (br_f (by decide) (br_f (by decide) (br_f (by decide) (br_f (by decide) (br_f (by decide) (br_t rfl (br_f hz (wx _ hp)))))))))))⟩⟩,
      fun post hp => br_f b4 (br_t b5 ⟨b2, nm_r eg ⟨b2, nm_r ea (br_f (by decide) (br_f (by decide) (br_f (by decide) (br_t rfl (br_f hz (wy _ hp))))))⟩⟩)⟩
theorem st_10 (G : ow_G g a n) (hT : ow_T g tf n) (htl : tl ≤ tc) (J : rn_J g a n (M + 1) T P d p ft fp fy sk so sh sy) (k : g p = 10) (hl : ∃ l, l < hp_oc g p ∧ hp_pt g p l = 2) : ((∃ (d' p' tl' : Nat) (ac' cr' fr' : Int32) (ft' fp' fy' tr' sk' so' sh' sy' : Nat → Int32), rn_I g a n M d' p' ft' fp' fy' sk' so' sh' sy' ∧ tl' ≤ tc ∧ (∀ post : SX → Prop, post (cm, nI tc, nI n, cp, cf, xo, xi, xs, xh, nI d', nI p', ac', nI tl', 0, 0, 0, cr', fr', g, a, fs, tf, xot, xop, ft', fp', fy', tr') → wpX_executeToken post (cm, nI tc, nI n, cp, cf, xo, xi, xs, xh, nI d, nI p, ac, nI tl, 0, 0, 0, cr, fr, g, a, fs, tf, xot, xop, ft, fp, fy, tr)) ∧ (∀ post : SY → Prop, post (cm, nI tc, nI n, cp, cf, 0, 0, 0, nI tl', cr', fr', nI d', nI p', ac', 1, g, a, tr', yp, sk', so', sh', sy') → wpY_step post (cm, nI tc, nI n, cp, cf, 0, 0, 0, nI tl, cr, fr, nI d, nI p, ac, 1, g, a, tr, yp, sk, so, sh, sy))) ∨ (∃ st' ut' : Int32, ¬ st' = 0 ∧ (st' = 2 ∨ ut' = 0) ∧ (∀ post : SX → Prop, post (cm, nI tc, nI n, cp, cf, xo, xi, xs, xh, nI d, nI p, ac, nI tl, st', ac, ut', cr, fr, g, a, fs, tf, xot, xop, ft, fp, fy, tr) → wpX_executeToken post (cm, nI tc, nI n, cp, cf, xo, xi, xs, xh, nI d, nI p, ac, nI tl, 0, 0, 0, cr, fr, g, a, fs, tf, xot, xop, ft, fp, fy, tr)) ∧ (∀ post : SY → Prop, post (cm, nI tc, nI n, cp, cf, st', 0, ut', nI tl, cr, fr, nI d, nI p, ac, 0, g, a, tr, yp, sk, so, sh, sy) → wpY_step post (cm, nI tc, nI n, cp, cf, 0, 0, 0, nI tl, cr, fr, nI d, nI p, ac, 1, g, a, tr, yp, sk, so, sh, sy)))) := by
  obtain ⟨z1, z2, z3, z4, K0, K1, b2, b3, b4, b5⟩ := rn_b G J
  have eg : g (nI p).toNatClampNeg = 10 := by rw [b3]; exact k
  have ea : a (nI p).toNatClampNeg = a p := by rw [b3]
  have J0 := J
  obtain ⟨R, hX, hY, E, hM⟩ := J0
  obtain ⟨ty, h1, h15, xw, yw⟩ := xy_i (cm := cm) (ct := nI tc) (cp := cp) (cf := cf) (xo := xo) (xi := xi) (xs := xs) (xh := xh) (dd := nI d) (pp := nI p) (ac := ac) (tl := nI tl) (st := 0) (rs := 0) (ut := 0) (cr := cr) (fr := fr) (yr := 1) (fs := fs) (tf := tf) (xot := xot) (xop := xop) (tr := tr) (yp := yp) G R (by omega) hX hY d (Nat.le_refl _) (by rw [rt_xg (Nat.le_refl _)]; exact hl)
  have xw' : ∀ post : Int32 → Prop, post (nI ty) → wpX_innermostCaughtType post (cm, nI tc, nI n, cp, cf, xo, xi, xs, xh, nI d, nI p, ac, nI tl, 0, 0, 0, cr, fr, g, a, fs, tf, xot, xop, ft, fp, fy, tr) := fun post hp => nm_r (rt_m1 d) ⟨d + 1, xw (d + 1) post (by omega) hp⟩
  have yw' : ∀ post : Int32 → Prop, post (nI ty) → wpY_innermostCaught post (cm, nI tc, nI n, cp, cf, 0, 0, 0, nI tl, cr, fr, nI d, nI p, ac, 1, g, a, tr, yp, sk, so, sh, sy) := fun post hp => nm_r (rt_m1 d) ⟨d + 1, yw (d + 1) post (by omega) hp⟩
  rcases rn_r (cm := cm) (cp := cp) (cf := cf) (xo := xo) (xi := xi) (xs := xs) (xh := xh) (ac := ac) (cr := cr) (fr := fr) (fs := fs) (xot := xot) (xop := xop) (tr := tr) (yp := yp) G hT htl J h1 h15 with ⟨d', p', tl', ac', cr', fr', ft', fp', fy', tr', sk', so', sh', sy', i1, i2, wx, wy⟩ | ⟨st', ut', i1, i2, wx, wy⟩
  · exact Or.inl ⟨d', p', tl', ac', cr', fr', ft', fp', fy', tr', sk', so', sh', sy', i1, i2,
      fun post hp => ⟨b2, nm_r ea ⟨b2, nm_r eg (br_f (by decide) (br_f (by decide) (br_f (by decide) (br_f (by decide) (br_f (by decide) (br_f (by decide) (br_f (by decide) (br_f (by decide) (br_f (by decide) (br_t rfl (xw' _ (wx _ hp))))))))))))⟩⟩,
      fun post hp => br_f b4 (br_t b5 ⟨b2, nm_r eg ⟨b2, nm_r ea (br_f (by decide) (br_f (by decide) (br_f (by decide) (br_f (by decide) (br_t rfl (yw' _ (wy _ hp)))))))⟩⟩)⟩
  · exact Or.inr ⟨st', ut', i1, i2,
      fun post hp => ⟨b2, nm_r ea ⟨b2, nm_r eg (br_f (by decide) (br_f (by decide) (br_f (by decide) (br_f (by decide) (br_f (by decide) (br_f (by decide) (br_f (by decide) (br_f (by decide) (br_f (by decide) (br_t rfl (xw' _ (wx _ hp))))))))))))⟩⟩,
      fun post hp => br_f b4 (br_t b5 ⟨b2, nm_r eg ⟨b2, nm_r ea (br_f (by decide) (br_f (by decide) (br_f (by decide) (br_f (by decide) (br_t rfl (yw' _ (wy _ hp)))))))⟩⟩)⟩
theorem st_3 (G : ow_G g a n) (hT : ow_T g tf n) (htl : tl ≤ tc) (J : rn_J g a n (M + 1) T P d p ft fp fy sk so sh sy) (k : g p = 3) : ((∃ (d' p' tl' : Nat) (ac' cr' fr' : Int32) (ft' fp' fy' tr' sk' so' sh' sy' : Nat → Int32), rn_I g a n M d' p' ft' fp' fy' sk' so' sh' sy' ∧ tl' ≤ tc ∧ (∀ post : SX → Prop, post (cm, nI tc, nI n, cp, cf, xo, xi, xs, xh, nI d', nI p', ac', nI tl', 0, 0, 0, cr', fr', g, a, fs, tf, xot, xop, ft', fp', fy', tr') → wpX_executeToken post (cm, nI tc, nI n, cp, cf, xo, xi, xs, xh, nI d, nI p, ac, nI tl, 0, 0, 0, cr, fr, g, a, fs, tf, xot, xop, ft, fp, fy, tr)) ∧ (∀ post : SY → Prop, post (cm, nI tc, nI n, cp, cf, 0, 0, 0, nI tl', cr', fr', nI d', nI p', ac', 1, g, a, tr', yp, sk', so', sh', sy') → wpY_step post (cm, nI tc, nI n, cp, cf, 0, 0, 0, nI tl, cr, fr, nI d, nI p, ac, 1, g, a, tr, yp, sk, so, sh, sy))) ∨ (∃ st' ut' : Int32, ¬ st' = 0 ∧ (st' = 2 ∨ ut' = 0) ∧ (∀ post : SX → Prop, post (cm, nI tc, nI n, cp, cf, xo, xi, xs, xh, nI d, nI p, ac, nI tl, st', ac, ut', cr, fr, g, a, fs, tf, xot, xop, ft, fp, fy, tr) → wpX_executeToken post (cm, nI tc, nI n, cp, cf, xo, xi, xs, xh, nI d, nI p, ac, nI tl, 0, 0, 0, cr, fr, g, a, fs, tf, xot, xop, ft, fp, fy, tr)) ∧ (∀ post : SY → Prop, post (cm, nI tc, nI n, cp, cf, st', 0, ut', nI tl, cr, fr, nI d, nI p, ac, 0, g, a, tr, yp, sk, so, sh, sy) → wpY_step post (cm, nI tc, nI n, cp, cf, 0, 0, 0, nI tl, cr, fr, nI d, nI p, ac, 1, g, a, tr, yp, sk, so, sh, sy)))) := by
  obtain ⟨z1, z2, z3, z4, K0, K1, b2, b3, b4, b5⟩ := rn_b G J
  have eg : g (nI p).toNatClampNeg = 3 := by rw [b3]; exact k
  have ea : a (nI p).toNatClampNeg = a p := by rw [b3]
  obtain ⟨e1, e2, e3, e4, e5⟩ := hp_s3 k
  have I' : rn_I g a n M (d + 1) (p + 1) (upd ft d (nI p)) (upd fp d 1) fy (upd sk d 1) (upd so d (nI p)) (upd sh d 0) (upd sy d 0) := by
    refine rn_psh (pr := 1) G J (by omega) (by rw [e5]; exact z4) (Or.inl ⟨by omega, ?_, ?_⟩) (Or.inr ⟨rfl, rfl, rfl⟩) ?_
    · rw [e1, e2]; exact hp_uS.symm
    · rw [e1, e3]; exact hp_uS.symm
    · have := rt_Rl (g := g) e4 (show p < p + 1 by omega) (by omega)
      simp only [Nat.one_ne_zero, if_false]
      omega
  exact Or.inl ⟨d + 1, p + 1, tl, ac, cr, fr, upd ft d (nI p), upd fp d 1, fy, tr, upd sk d 1, upd so d (nI p), upd sh d 0, upd sy d 0, I', htl,
    fun post hp => ⟨b2, nm_r ea ⟨b2, nm_r eg (br_f (by decide) (br_f (by decide) (br_t rfl (xp_w (by omega) _ (nm_r (nI_1 p) hp)))))⟩⟩,
    fun post hp => br_f b4 (br_t b5 ⟨b2, nm_r eg ⟨b2, nm_r ea (br_f (by decide) (br_f (by decide) (br_f (by decide) (br_f (by decide) (br_f (by decide) (br_f (by decide) (br_t rfl (yp_w (by omega) _ (br_f (by decide) (nm_r (nI_1 p) hp))))))))))⟩⟩)⟩
theorem st_11 (G : ow_G g a n) (hT : ow_T g tf n) (htl : tl ≤ tc) (J : rn_J g a n (M + 1) T P d p ft fp fy sk so sh sy) (hfs : ∀ q, q < n → g q = 1 → fs (hp_fn g q) = nI q) (hcf : cf = nI (hp_fn g n)) (k : g p = 11) : ((∃ (d' p' tl' : Nat) (ac' cr' fr' : Int32) (ft' fp' fy' tr' sk' so' sh' sy' : Nat → Int32), rn_I g a n M d' p' ft' fp' fy' sk' so' sh' sy' ∧ tl' ≤ tc ∧ (∀ post : SX → Prop, post (cm, nI tc, nI n, cp, cf, xo, xi, xs, xh, nI d', nI p', ac', nI tl', 0, 0, 0, cr', fr', g, a, fs, tf, xot, xop, ft', fp', fy', tr') → wpX_executeToken post (cm, nI tc, nI n, cp, cf, xo, xi, xs, xh, nI d, nI p, ac, nI tl, 0, 0, 0, cr, fr, g, a, fs, tf, xot, xop, ft, fp, fy, tr)) ∧ (∀ post : SY → Prop, post (cm, nI tc, nI n, cp, cf, 0, 0, 0, nI tl', cr', fr', nI d', nI p', ac', 1, g, a, tr', yp, sk', so', sh', sy') → wpY_step post (cm, nI tc, nI n, cp, cf, 0, 0, 0, nI tl, cr, fr, nI d, nI p, ac, 1, g, a, tr, yp, sk, so, sh, sy))) ∨ (∃ st' ut' : Int32, ¬ st' = 0 ∧ (st' = 2 ∨ ut' = 0) ∧ (∀ post : SX → Prop, post (cm, nI tc, nI n, cp, cf, xo, xi, xs, xh, nI d, nI p, ac, nI tl, st', ac, ut', cr, fr, g, a, fs, tf, xot, xop, ft, fp, fy, tr) → wpX_executeToken post (cm, nI tc, nI n, cp, cf, xo, xi, xs, xh, nI d, nI p, ac, nI tl, 0, 0, 0, cr, fr, g, a, fs, tf, xot, xop, ft, fp, fy, tr)) ∧ (∀ post : SY → Prop, post (cm, nI tc, nI n, cp, cf, st', 0, ut', nI tl, cr, fr, nI d, nI p, ac, 0, g, a, tr, yp, sk, so, sh, sy) → wpY_step post (cm, nI tc, nI n, cp, cf, 0, 0, 0, nI tl, cr, fr, nI d, nI p, ac, 1, g, a, tr, yp, sk, so, sh, sy)))) := by
  obtain ⟨z1, z2, z3, z4, K0, K1, b2, b3, b4, b5⟩ := rn_b G J
  have eg : g (nI p).toNatClampNeg = 11 := by rw [b3]; exact k
  obtain ⟨f, f1, f2, f3⟩ := G.2.2.2.2 p z1 k
  have ea : a (nI p).toNatClampNeg = nI f := by rw [b3]; exact f3
  obtain ⟨s, s1, s2, s3⟩ := hp_fnE n f2
  obtain ⟨e1, e2, e3, e4, e5⟩ := hp_s1 s2
  obtain ⟨n1, n2, n3, n4, n5⟩ := hp_s6 (g := g) (i := p) (by unfold hp_pl; simp [k])
  have fn4 := (hp_H n G.2.1).2.1
  have s0 : hp_oc g s = 0 := by
    rcases hp_tc (G.2.1 s s1) with ⟨i1, i2, i3⟩ | ⟨i0, i1, i2⟩ | ⟨i0, i1, i2, i3⟩ | ⟨i0, i1⟩ | ⟨i0, i1, i2, i3⟩ | ⟨i0, i1, i2, i3⟩ | ⟨i0, i1⟩
    · exact (hp_H s (ow_Kl G.2.1 (by omega))).1 i1
    all_goals first | (rw [s2] at i1; exact absurd i1 (by decide)) | (rw [s2] at i1; exact absurd i1 (by unfold hp_pl; decide))
  have hs := hp_H (s + 1) (ow_Kl G.2.1 (show s + 1 ≤ n by omega))
  have p0 : 0 < p := by
    rcases Nat.eq_zero_or_pos p with z | z
    · rw [z] at z4; simp [hp_in] at z4
    · exact z
  have I' : rn_I g a n M (d + 1) (s + 1) (upd ft d (nI p)) (upd fp d 0) fy (upd sk d 0) (upd so d (nI (p + 1))) (upd sh d 0) (upd sy d 0) := by
    refine rn_psh (pr := 0) G J (by omega) e5 (Or.inr ⟨by omega, rfl, k, by omega⟩) (Or.inl ⟨rfl, rfl, rfl⟩) ?_
    rw [if_pos rfl]
    exact rt_Rc (by omega) n4 ((hp_H p K0).2.2.2.1 p0) (by omega) hs.2.1 (by have := hs.2.2.1; omega)
  have cf1 : ¬ cf ≤ nI f := by rw [hcf]; exact nI_ge f2 (by omega)
  have fc : (nI f).toNatClampNeg = f := nI_clamp (by omega)
  have f5 : fs (nI f).toNatClampNeg + 1 = nI (s + 1) := by
    rw [fc, ← s3, hfs s s1 s2, nI_1]
  exact Or.inl ⟨d + 1, s + 1, tl, ac, cr, fr, upd ft d (nI p), upd fp d 0, fy, tr, upd sk d 0, upd so d (nI (p + 1)), upd sh d 0, upd sy d 0, I', htl,
    fun post hp => ⟨b2, nm_r ea ⟨b2, nm_r eg (br_f (by decide) (br_f (by decide) (br_f (by decide) (br_f (by decide) (br_f (by decide) (br_f (by decide) (br_f (by decide) (br_f (by decide) (br_f (by decide) (br_f (by decide) (br_t rfl (br_f (nI_pos (by omega)) (br_f cf1 (xp_w (by omega) _ ⟨vp_in_nI (by omega) (by omega), nm_r f5 hp⟩))))))))))))))⟩⟩,
    fun post hp => br_f b4 (br_t b5 ⟨b2, nm_r eg ⟨b2, nm_r ea (br_f (by decide) (br_f (by decide) (br_f (by decide) (br_f (by decide) (br_f (by decide) (br_t rfl (by
      rw [nI_1 p]
      exact yp_w (by omega) _ (br_f (by decide) (yf_w z2 s1 s2 s3 _ hp)))))))))⟩⟩)⟩
end HK
