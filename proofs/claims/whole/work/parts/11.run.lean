section HU
variable {g a fs tf xot xop yp : Nat → Int32} {n tc : Nat} {cm cp cf xo xi xs xh : Int32}
/-! P: the run -/
theorem rn_pos (G : ow_G g a n) {M d p : Nat} {ft fp fy sk so sh sy : Nat → Int32} (I : rn_I g a n M d p ft fp fy sk so sh sy) : 0 < M := by
  obtain ⟨T, P, R, hX, hY, E, hM⟩ := I
  have h0 := R.1
  have hn := G.1
  have h1 := rt_w1 (hp_fn g p)
  have h2 := Nat.mul_le_mul (show 1 ≤ 32 - p by omega) h1
  have h3 : rt_R g p = (32 - p) * rt_w (hp_fn g p) := rfl
  omega
theorem rn_loop (G : ow_G g a n) (hT : ow_T g tf n) (htc : tc ≤ 32) (hfs : ∀ q, q < n → g q = 1 → fs (hp_fn g q) = nI q) (hcf : cf = nI (hp_fn g n)) : ∀ (M s d p tl : Nat) (ac cr fr : Int32) (ft fp fy tr sk so sh sy : Nat → Int32), s + M < 1000000 → tl ≤ tc → rn_I g a n M d p ft fp fy sk so sh sy →
    ∃ (d' p' tl' : Nat) (st' ut' ac' cr' fr' : Int32) (ft' fp' fy' tr' sk' so' sh' sy' : Nat → Int32), tl' ≤ tc ∧ (∀ (f : Nat) (post : Int32 → SX → Prop), M < f → post 1 (cm, nI tc, nI n, cp, cf, xo, xi, xs, xh, nI d', nI p', ac', nI tl', st', ac', ut', cr', fr', g, a, fs, tf, xot, xop, ft', fp', fy', tr') → wX_run_37 post f (nI s) cm (nI tc) (nI n) cp cf xo xi xs xh (nI d) (nI p) ac (nI tl) 0 0 0 cr fr g a fs tf xot xop ft fp fy tr) ∧ (∀ (f : Nat) (post : Int32 → SY → Prop), M < f → post 1 (cm, nI tc, nI n, cp, cf, st', ac', ut', nI tl', cr', fr', nI d', nI p', ac', 0, g, a, tr', yp, sk', so', sh', sy') → wY_run_39 post f (nI s) cm (nI tc) (nI n) cp cf 0 0 0 (nI tl) cr fr (nI d) (nI p) ac 1 g a tr yp sk so sh sy) := by
  intro M
  induction M with
  | zero =>
    intro s d p tl ac cr fr ft fp fy tr sk so sh sy _ _ I
    have := rn_pos G I
    omega
  | succ M ih =>
  intro s d p tl ac cr fr ft fp fy tr sk so sh sy hs htl I
  obtain ⟨T, P, J⟩ := I
  have hn := G.1
  have hpn := J.1.1
  have c1 : ¬ (1000000 : Int32) ≤ nI s := nI_ge (b := 1000000) (by omega) (by decide)
  have c2 : ¬ (4194304 : Int32) ≤ nI s := nI_ge (b := 4194304) (by omega) (by decide)
  have c3 : ¬ nI n ≤ nI p := nI_ge hpn (by omega)
  rcases rn_step (cm := cm) (cp := cp) (cf := cf) (xo := xo) (xi := xi) (xs := xs) (xh := xh) (ac := ac) (cr := cr) (fr := fr) (fs := fs) (xot := xot) (xop := xop) (tr := tr) (yp := yp) G hT htl J htc hfs hcf with ⟨d1, p1, tl1, ac1, cr1, fr1, ft1, fp1, fy1, tr1, sk1, so1, sh1, sy1, i1, i2, wx, wy⟩ | ⟨st', ut', i1, i2, wx, wy⟩
  · obtain ⟨d', p', tl', st', ut', ac', cr', fr', ft', fp', fy', tr', sk', so', sh', sy', j1, jx, jy⟩ := ih (s + 1) d1 p1 tl1 ac1 cr1 fr1 ft1 fp1 fy1 tr1 sk1 so1 sh1 sy1 (by omega) i2 i1
    refine ⟨d', p', tl', st', ut', ac', cr', fr', ft', fp', fy', tr', sk', so', sh', sy', j1, fun f post hf hp => ?_, fun f post hf hp => ?_⟩
    · obtain ⟨f, rfl⟩ : ∃ f', f = f' + 1 := ⟨f - 1, by omega⟩
      exact br_f c1 (br_t rfl (br_f c3 (wx _ (nm_r (nI_1 s) (jx f post (by omega) hp)))))
    · obtain ⟨f, rfl⟩ : ∃ f', f = f' + 1 := ⟨f - 1, by omega⟩
      exact br_f c2 (br_f (by decide) (wy _ (nm_r (nI_1 s) (jy f post (by omega) hp))))
  · refine ⟨d, p, tl, st', ut', ac, cr, fr, ft, fp, fy, tr, sk, so, sh, sy, htl, fun f post hf hp => ?_, fun f post hf hp => ?_⟩
    · obtain ⟨f, rfl⟩ : ∃ f', f = f' + 1 + 1 := ⟨f - 2, by omega⟩
      exact br_f c1 (br_t rfl (br_f c3 (wx _ (nm_r (nI_1 s) (br_c (fun _ => hp) (fun _ => br_f i1 hp))))))
    · obtain ⟨f, rfl⟩ : ∃ f', f = f' + 1 + 1 := ⟨f - 2, by omega⟩
      have k62 : wY_run_62 post cm (nI tc) (nI n) cp cf st' 0 ut' (nI tl) cr fr (nI d) (nI p) ac 0 g a tr yp sk so sh sy := by
        refine br_t rfl (br_c (fun _ => hp) (fun h => ?_))
        have := i2.resolve_left h
        rw [this] at hp
        exact hp
      exact br_f c2 (br_f (by decide) (wy _ (nm_r (nI_1 s) (br_c (fun _ => k62) (fun _ => br_t rfl k62)))))
/-- the start of a run -/
theorem rn_st (G : ow_G g a n) (ft fp fy sk so sh sy : Nat → Int32) : g 0 = 1 ∧ hp_fn g 0 = 0 ∧ rn_I g a n 632028 0 1 ft fp fy sk so sh sy := by
  have k0 : g 0 = 1 := by
    rcases hp_tc (G.2.1 0 G.2.2.2.1) with ⟨i1, i2, i3⟩ | ⟨i0, i1⟩ | ⟨i0, i1⟩ | ⟨i0, i1⟩ | ⟨i0, i1⟩ | ⟨i0, i1⟩ | ⟨i0, i1⟩
    · exact i2
    all_goals (simp [hp_in] at i0)
  obtain ⟨e1, e2, e3, e4, e5⟩ := hp_s1 k0
  have e5' : hp_in g 1 = 1 := e5
  refine ⟨k0, rfl, fun _ => 0, fun _ => 0, ⟨rn_n G G.2.2.2.1 e5', e5', ?_, fun j hj => absurd hj (Nat.not_lt_zero _)⟩, fun j hj => absurd hj (Nat.not_lt_zero _), fun j hj => absurd hj (Nat.not_lt_zero _), fun j hj => absurd hj (Nat.not_lt_zero _), ?_⟩
  · rw [rt_xg (Nat.le_refl _)]; exact e1
  · have : hp_fn g 1 = 1 := e4
    simp only [rt_s, rt_R, this, rt_w]
    decide
end HU
