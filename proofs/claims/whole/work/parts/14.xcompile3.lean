section HX3
variable {g a fs tf xot xop ft fp fy tr : Nat → Int32} {n i hc : Nat} {cm ct cp cf xo xi xs xh dd pp ac tl st rs ut cr fr : Int32}
theorem cx_wh (hn : n ≤ 32) (K : ow_K g a n) (I : cx_I g a n fs tf xot xop hc) : ow_G g a n ↔ (0 < hp_fn g n ∧ hp_in g n = 0 ∧ hc < hp_fn g n) := by
  obtain ⟨i1, i2, i3, i4, i5, i6, i7⟩ := I
  have H := hp_H n K
  constructor
  · intro G
    have f0 := H.2.2.2.1 G.2.2.2.1
    refine ⟨f0, G.2.2.1, ?_⟩
    rcases i7 with h | ⟨j, j1, j2, j3⟩
    · omega
    · obtain ⟨f, f1, f2, f3⟩ := G.2.2.2.2 j j1 j2
      rw [j3] at f3
      have := hp_eq f3 (by omega) (by have := H.2.1; omega)
      omega
  · intro ⟨h1, h2, h3⟩
    refine ⟨hn, K, h2, ?_, fun j hj hg => ?_⟩
    · rcases Nat.eq_zero_or_pos n with z | z
      · rw [z] at h1; simp [hp_fn] at h1
      · exact z
    · have tk := K j hj
      rcases tk with ⟨t1, t2, -⟩ | ⟨t0, t⟩
      · rw [hg] at t2; exact absurd t2 (by decide)
      · simp [hg] at t
        obtain ⟨f, f1, f2, f3⟩ := t
        exact ⟨f, f1, by have := i6 j hj hg f f2 f3; omega, f3⟩
theorem xk_loop (hn : n ≤ 32) (hk : ∀ j, j < n → ck_k (g j)) (post : Int32 → SX → Prop)
    (ha : ∀ (e : Nat) (xo xi xs xh : Int32) (fs tf xot xop : Nat → Int32), e < n → ow_K g a e → ¬ hp_tk g a e → post (nI e) (cm, ct, nI n, 0, 0, xo, xi, xs, xh, dd, pp, ac, tl, st, rs, ut, cr, fr, g, a, fs, tf, xot, xop, ft, fp, fy, tr))
    (hb : ∀ (xo xi xs xh : Int32) (fs tf xot xop : Nat → Int32), ow_K g a n → ¬ ow_G g a n → post (nI n) (cm, ct, nI n, 0, 0, xo, xi, xs, xh, dd, pp, ac, tl, st, rs, ut, cr, fr, g, a, fs, tf, xot, xop, ft, fp, fy, tr))
    (hcc : ∀ (xo xi xs xh : Int32) (fs tf xot xop : Nat → Int32), ow_G g a n → (∀ q, q < n → g q = 1 → fs (hp_fn g q) = nI q) → ow_T g tf n → post (-1) (cm, ct, nI n, 1, nI (hp_fn g n), xo, xi, xs, xh, dd, pp, ac, tl, st, rs, ut, cr, fr, g, a, fs, tf, xot, xop, ft, fp, fy, tr)) :
    ∀ (m i hc f : Nat) (fs tf xot xop : Nat → Int32), i + m = n → m < f → ow_K g a i → cx_I g a i fs tf xot xop hc → wX_compile_10 post f (nI i) cm ct (nI n) 0 0 (nI (hp_oc g i)) (nI (hp_in g i)) (nI (hp_fn g i)) (nI hc) dd pp ac tl st rs ut cr fr g a fs tf xot xop ft fp fy tr := by
  intro m
  induction m with
  | zero =>
    intro i hc f fs tf xot xop hi hf K I
    obtain ⟨f, rfl⟩ : ∃ f', f = f' + 1 := ⟨f - 1, by omega⟩
    have : i = n := by omega
    subst this
    have wh := cx_wh hn K I
    have H := hp_H i K
    have f4 := H.2.1
    have h3 := I.2.2.2.2.1
    refine br_t (nI_le (Nat.le_refl _) (by omega)) ?_
    rcases Nat.eq_zero_or_pos (hp_fn g i) with z | z
    · exact br_t (by rw [z]; decide) (br_t rfl (hb _ _ _ _ _ _ _ _ K fun G => by have := wh.mp G; omega))
    · refine br_f (nI_nle z (by omega)) ?_
      rcases hp_in01 (g := g) i with hin | hin
      · refine br_t (by rw [hin]; rfl) ?_
        rcases Nat.lt_or_ge hc (hp_fn g i) with y | y
        · exact br_f (nI_ge y (by omega)) (br_f (by decide) (hcc _ _ _ _ _ _ _ _ (wh.mpr ⟨z, hin, y⟩) I.2.2.1 I.2.2.2.1.1))
        · exact br_t (nI_le y (by omega)) (br_t rfl (hb _ _ _ _ _ _ _ _ K fun G => by have := wh.mp G; omega))
      · exact br_f (by rw [hin]; decide) (br_t rfl (hb _ _ _ _ _ _ _ _ K fun G => by have := wh.mp G; omega))
  | succ m ih =>
    intro i hc f fs tf xot xop hi hf K I
    obtain ⟨f, rfl⟩ : ∃ f', f = f' + 1 := ⟨f - 1, by omega⟩
    have b1 : ¬ nI n ≤ nI i := nI_ge (by omega) (by omega)
    rcases xk_all (cm := cm) (ct := ct) (dd := dd) (pp := pp) (ac := ac) (tl := tl) (st := st) (rs := rs) (ut := ut) (cr := cr) (fr := fr) (ft := ft) (fp := fp) (fy := fy) (tr := tr) (n := n) (by omega) K I (hk i (by omega)) with ⟨tk, fs', tf', xot', xop', hc', I', w⟩ | ⟨ntk, w⟩
    · refine br_f b1 (w _ (br_f (by decide) (nm_r (nI_1 i) (ih (i + 1) hc' f fs' tf' xot' xop' (by omega) (by omega) (fun j hj => ?_) I'))))
      by_cases e : j = i
      · rw [e]; exact tk
      · exact K j (by omega)
    · exact br_f b1 (w _ (br_t rfl (ha i _ _ _ _ _ _ _ _ (by omega) K ntk)))
theorem xk_22 (post : SX → Prop) (hp : ∀ tf : Nat → Int32, (∀ x, x < 32 → tf x = -1) → post (cm, ct, nI n, cp, cf, xo, xi, xs, xh, dd, pp, ac, tl, st, rs, ut, cr, fr, g, a, fs, tf, xot, xop, ft, fp, fy, tr)) : ∀ (f j : Nat) (tf : Nat → Int32), j ≤ 32 → 32 - j < f → (∀ x, x < j → tf x = -1) → wX_startParse_22 post cm ct (nI n) cp cf xo xi xs xh dd pp ac tl st rs ut cr fr f (nI j) g a fs tf xot xop ft fp fy tr := by
  intro f
  induction f with
  | zero => intro j tf _ h; omega
  | succ f ih =>
  intro j tf hj hf hl
  rcases Nat.lt_or_ge j 32 with z | z
  · have b3 : (nI j).toNatClampNeg = j := nI_clamp (by omega)
    refine br_f (nI_ge (b := 32) z (by decide)) ⟨vp_in_nI z (by omega), nm_r (by rw [b3]) (nm_r (nI_1 j) (ih (j + 1) _ (by omega) (by omega) (fun x hx => ?_)))⟩
    by_cases e : x = j
    · rw [e, hp_us]
    · rw [hp_un e]; exact hl x (by omega)
  · have : j = 32 := by omega
    subst this
    exact br_t (by decide) (hp tf hl)
theorem xk_w (hn : n ≤ 32) (hk : ∀ j, j < n → ck_k (g j)) (post : Int32 → SX → Prop)
    (ha : ∀ (e : Nat) (xo xi xs xh : Int32) (fs tf xot xop : Nat → Int32), e < n → ow_K g a e → ¬ hp_tk g a e → post (nI e) (cm, ct, nI n, 0, 0, xo, xi, xs, xh, dd, pp, ac, 0, 0, 0, 0, 0, 0, g, a, fs, tf, xot, xop, ft, fp, fy, tr))
    (hb : ∀ (xo xi xs xh : Int32) (fs tf xot xop : Nat → Int32), ow_K g a n → ¬ ow_G g a n → post (nI n) (cm, ct, nI n, 0, 0, xo, xi, xs, xh, dd, pp, ac, 0, 0, 0, 0, 0, 0, g, a, fs, tf, xot, xop, ft, fp, fy, tr))
    (hcc : ∀ (xo xi xs xh : Int32) (fs tf xot xop : Nat → Int32), ow_G g a n → (∀ q, q < n → g q = 1 → fs (hp_fn g q) = nI q) → ow_T g tf n → post (-1) (cm, ct, nI n, 1, nI (hp_fn g n), xo, xi, xs, xh, dd, pp, ac, 0, 0, 0, 0, 0, 0, g, a, fs, tf, xot, xop, ft, fp, fy, tr)) : wpX_compile post (cm, ct, nI n, cp, cf, xo, xi, xs, xh, dd, pp, ac, tl, st, rs, ut, cr, fr, g, a, fs, tf, xot, xop, ft, fp, fy, tr) := by
  unfold wpX_compile wpX_dropProgram wpX_clearResults wpX_startParse
  dsimp only
  refine ⟨33, xk_22 _ (fun tf' htf => ⟨n + 1, ?_⟩) 33 0 tf (by omega) (by omega) (fun x hx => absurd hx (Nat.not_lt_zero _))⟩
  have := xk_loop (cm := cm) (ct := ct) (dd := dd) (pp := pp) (ac := ac) (tl := 0) (st := 0) (rs := 0) (ut := 0) (cr := 0) (fr := 0) (ft := ft) (fp := fp) (fy := fy) (tr := tr) hn hk post ha hb hcc n 0 0 (n + 1) fs tf' xot xop (by omega) (by omega) (fun j hj => absurd hj (Nat.not_lt_zero _)) ⟨fun l hl => absurd hl (Nat.not_lt_zero _), fun l hl => absurd hl (Nat.not_lt_zero _), fun q hq => absurd hq (Nat.not_lt_zero _), ⟨fun x hx => absurd hx (Nat.not_lt_zero _), fun x _ h => htf x h⟩, by omega, fun j hj => absurd hj (Nat.not_lt_zero _), Or.inl rfl⟩
  exact this
end HX3
