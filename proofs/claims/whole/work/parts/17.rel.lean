section HQ
/-! S: the relation, and what is owed -/
def i_Q (mt tc n tl : Nat) (cp cf : Int32) (g a fs tf : Nat → Int32) : Prop := mt ≤ 32 ∧ tc ≤ 32 ∧ n ≤ mt ∧ tl ≤ tc ∧ (∀ j, j < n → ck_k (g j)) ∧ ((cp = 0 ∧ cf = 0) ∨ (cp = 1 ∧ cf = nI (hp_fn g n) ∧ ow_G g a n ∧ (∀ q, q < n → g q = 1 → fs (hp_fn g q) = nI q) ∧ ow_T g tf n))
def i_Rel (k : Nat) (u : SX) (v : SY) : Prop := ∃ (mt tc n tl : Nat) (cp cf st rs ut cr fr : Int32) (g a tr : Nat → Int32) (xo xi xs xh xd xp xa : Int32) (fs tf xot xop ft fp fy : Nat → Int32) (yd yq ya yr : Int32) (yp sk so sh sy : Nat → Int32), u = (nI mt, nI tc, nI n, cp, cf, xo, xi, xs, xh, xd, xp, xa, nI tl, st, rs, ut, cr, fr, g, a, fs, tf, xot, xop, ft, fp, fy, tr) ∧ v = (nI mt, nI tc, nI n, cp, cf, st, rs, ut, nI tl, cr, fr, yd, yq, ya, yr, g, a, tr, yp, sk, so, sh, sy) ∧ i_Q mt tc n tl cp cf g a fs tf
variable {g a fs tf xot xop ft fp fy tr yp sk so sh sy : Nat → Int32} {mt tc n tl k : Nat} {cp cf xo xi xs xh st rs ut cr fr xd xp xa yd yq ya yr : Int32}
theorem i_mk (h : i_Q mt tc n tl cp cf g a fs tf) : i_Rel k (nI mt, nI tc, nI n, cp, cf, xo, xi, xs, xh, xd, xp, xa, nI tl, st, rs, ut, cr, fr, g, a, fs, tf, xot, xop, ft, fp, fy, tr) (nI mt, nI tc, nI n, cp, cf, st, rs, ut, nI tl, cr, fr, yd, yq, ya, yr, g, a, tr, yp, sk, so, sh, sy) :=
  ⟨mt, tc, n, tl, cp, cf, st, rs, ut, cr, fr, g, a, tr, xo, xi, xs, xh, xd, xp, xa, fs, tf, xot, xop, ft, fp, fy, yd, yq, ya, yr, yp, sk, so, sh, sy, rfl, rfl, h⟩
theorem i_up {k : Nat} {u : SX} {v : SY} (h : i_Rel k u v) : i_Rel (k + 3) u v := h
theorem i_c8 (x : Int32) : ∃ m : Nat, m ≤ 32 ∧ ∀ A : Int32 → Prop, A (nI m) → ((8 ≤ x → ((x ≤ 32 → A x) ∧ (¬ x ≤ 32 → A 32))) ∧ (¬ 8 ≤ x → A 8)) := by
  by_cases h1 : 8 ≤ x
  · by_cases h2 : x ≤ 32
    · obtain ⟨m, m1, m2, rfl⟩ := hp_rng (lo := 8) (hi := 32) (L := 8) (M := 32) (by decide) (by decide) (Int32.not_lt.mpr h1) h2
      exact ⟨m, m2, fun A h => br_t h1 (br_t h2 h)⟩
    · exact ⟨32, by omega, fun A h => br_t h1 (br_f h2 h)⟩
  · exact ⟨8, by omega, fun A h => br_f h1 h⟩
theorem i_c1 (x : Int32) : ∃ m : Nat, m ≤ 32 ∧ ∀ A : Int32 → Prop, A (nI m) → ((1 ≤ x → ((x ≤ 32 → A x) ∧ (¬ x ≤ 32 → A 32))) ∧ (¬ 1 ≤ x → A 1)) := by
  by_cases h1 : 1 ≤ x
  · by_cases h2 : x ≤ 32
    · obtain ⟨m, m1, m2, rfl⟩ := hp_rng (lo := 1) (hi := 32) (L := 1) (M := 32) (by decide) (by decide) (Int32.not_lt.mpr h1) h2
      exact ⟨m, m2, fun A h => br_t h1 (br_t h2 h)⟩
    · exact ⟨32, by omega, fun A h => br_t h1 (br_f h2 h)⟩
  · exact ⟨1, by omega, fun A h => br_f h1 h⟩
theorem i_vc0 (k0 : Int32) (k1 : Int32) : wpX_init (fun u => wpY_init (fun v => i_Rel 2 u v) k0 k1) k0 k1 := by
  obtain ⟨mt, m1, hm⟩ := i_c8 k0
  obtain ⟨tc, t1, ht⟩ := i_c1 k1
  have fin : ∀ u v, u = (nI mt, nI tc, (0 : Int32), (0 : Int32), (0 : Int32), (0 : Int32), (0 : Int32), (0 : Int32), (0 : Int32), (0 : Int32), (0 : Int32), (0 : Int32), (0 : Int32), (0 : Int32), (0 : Int32), (0 : Int32), (0 : Int32), (0 : Int32), (fun _ => 0 : Nat → Int32), (fun _ => 0 : Nat → Int32), (fun _ => 0 : Nat → Int32), (fun _ => 0 : Nat → Int32), (fun _ => 0 : Nat → Int32), (fun _ => 0 : Nat → Int32), (fun _ => 0 : Nat → Int32), (fun _ => 0 : Nat → Int32), (fun _ => 0 : Nat → Int32), (fun _ => 0 : Nat → Int32)) → v = (nI mt, nI tc, (0 : Int32), (0 : Int32), (0 : Int32), (0 : Int32), (0 : Int32), (0 : Int32), (0 : Int32), (0 : Int32), (0 : Int32), (0 : Int32), (0 : Int32), (0 : Int32), (0 : Int32), (fun _ => 0 : Nat → Int32), (fun _ => 0 : Nat → Int32), (fun _ => 0 : Nat → Int32), (fun _ => 0 : Nat → Int32), (fun _ => 0 : Nat → Int32), (fun _ => 0 : Nat → Int32), (fun _ => 0 : Nat → Int32), (fun _ => 0 : Nat → Int32)) → i_Rel 2 u v := fun u v eu ev => by
    rw [eu, ev]
    exact i_mk (k := 2) (n := 0) (tl := 0) ⟨m1, t1, Nat.zero_le _, Nat.zero_le _, fun j hj => absurd hj (Nat.not_lt_zero _), Or.inl ⟨rfl, rfl⟩⟩
  refine hm (fun z => wpX_clamp (fun r2 => wpY_init (fun v => i_Rel 2 (z, r2, 0, 0, 0, 0, 0, 0, 0, 0, 0, 0, 0, 0, 0, 0, 0, 0, (fun _ => 0), (fun _ => 0), (fun _ => 0), (fun _ => 0), (fun _ => 0), (fun _ => 0), (fun _ => 0), (fun _ => 0), (fun _ => 0), (fun _ => 0)) v) k0 k1) k1 1 32) ?_
  refine ht (fun z => wpY_init (fun v => i_Rel 2 (nI mt, z, 0, 0, 0, 0, 0, 0, 0, 0, 0, 0, 0, 0, 0, 0, 0, 0, (fun _ => 0), (fun _ => 0), (fun _ => 0), (fun _ => 0), (fun _ => 0), (fun _ => 0), (fun _ => 0), (fun _ => 0), (fun _ => 0), (fun _ => 0)) v) k0 k1) ?_
  refine hm (fun z => wY_init_92 (fun v => i_Rel 2 _ v) k1 z 0 0 0 0 0 0 0 0 0 0 0 0 0 0 0 (fun _ => 0) (fun _ => 0) (fun _ => 0) (fun _ => 0) (fun _ => 0) (fun _ => 0) (fun _ => 0) (fun _ => 0)) ?_
  refine ht (fun z => wY_init_117 (fun v => i_Rel 2 _ v) z (nI mt) 0 0 0 0 0 0 0 0 0 0 0 0 0 0 (fun _ => 0) (fun _ => 0) (fun _ => 0) (fun _ => 0) (fun _ => 0) (fun _ => 0) (fun _ => 0) (fun _ => 0)) ?_
  exact fin _ _ rfl rfl
theorem i_vc_reset {k : Nat} {u : SX} {v : SY} (I : i_Rel k u v) (hk : k + 3 ≤ 1538) : wpX_reset (fun u' => wpY_reset (fun v' => i_Rel (k + 3) u' v') v) u := by
  obtain ⟨mt, tc, n, tl, cp, cf, st, rs, ut, cr, fr, g, a, tr, xo, xi, xs, xh, xd, xp, xa, fs, tf, xot, xop, ft, fp, fy, yd, yq, ya, yr, yp, sk, so, sh, sy, rfl, rfl, h1, h2, h3, h4, h5, h6⟩ := I
  exact i_mk (k := k + 3) (n := 0) (tl := 0) ⟨h1, h2, Nat.zero_le _, Nat.zero_le _, fun j hj => absurd hj (Nat.not_lt_zero _), Or.inl ⟨rfl, rfl⟩⟩
theorem i_vc_addToken {k : Nat} {u : SX} {v : SY} (I : i_Rel k u v) (hk : k + 3 ≤ 1538) (v1 : Int32) (v2 : Int32) : wpX_addToken (fun r u' => wpY_addToken (fun r' v' => r' = r ∧ i_Rel (k + 3) u' v') v v1 v2) u v1 v2 := by
  have I0 := I
  obtain ⟨mt, tc, n, tl, cp, cf, st, rs, ut, cr, fr, g, a, tr, xo, xi, xs, xh, xd, xp, xa, fs, tf, xot, xop, ft, fp, fy, yd, yq, ya, yr, yp, sk, so, sh, sy, rfl, rfl, h1, h2, h3, h4, h5, h6⟩ := I
  rcases Nat.lt_or_ge n mt with z | z
  · have a1 : nI n < nI mt := nI_lt z (by omega)
    have a2 : ¬ nI n = nI mt := fun h => by have := hp_eq h (by omega) (by omega); omega
    by_cases c1 : v1 < 1
    · exact br_t a1 (br_t c1 (br_f a2 (br_t c1 ⟨rfl, i_up I0⟩)))
    by_cases c2 : v1 ≤ 11
    · have b2 : vp_in (nI n) 32 := vp_in_nI (by omega) (by omega)
      have b3 : (nI n).toNatClampNeg = n := nI_clamp (by omega)
      have kk : ck_k v1 := by
        obtain ⟨m, m1, m2, rfl⟩ := hp_rng (lo := 1) (hi := 11) (L := 1) (M := 11) (by decide) (by decide) c1 c2
        have : m = 1 ∨ m = 2 ∨ m = 3 ∨ m = 4 ∨ m = 5 ∨ m = 6 ∨ m = 7 ∨ m = 8 ∨ m = 9 ∨ m = 10 ∨ m = 11 := by omega
        unfold ck_k
        rcases this with rfl | rfl | rfl | rfl | rfl | rfl | rfl | rfl | rfl | rfl | rfl <;> decide
      have Q : i_Q mt tc (n + 1) 0 0 0 (upd g n v1) (upd a n v2) fs tf := by
        refine ⟨h1, h2, z, Nat.zero_le _, fun j hj => ?_, Or.inl ⟨rfl, rfl⟩⟩
        by_cases e : j = n
        · rw [e, hp_us]; exact kk
        · rw [hp_un e]; exact h5 j (by omega)
      exact br_t a1 (br_f c1 (br_t c2 ⟨b2, nm_r (by rw [b3]) ⟨b2, nm_r (by rw [b3]) (nm_r (nI_1 n) (br_f a2 (br_f c1 (br_t c2 ⟨b2, nm_r (by rw [b3]) ⟨b2, nm_r (by rw [b3]) (nm_r (nI_1 n) ⟨rfl, i_mk (k := k + 3) Q⟩)⟩⟩))))⟩⟩))
    · exact br_t a1 (br_f c1 (br_f c2 (br_f a2 (br_f c1 (br_f c2 ⟨rfl, i_up I0⟩)))))
  · have e : n = mt := by omega
    have a1 : ¬ nI n < nI mt := nI_nlt z (by omega)
    exact br_f a1 (br_t (by rw [e]) ⟨rfl, i_up I0⟩)
theorem i_vc_compile {k : Nat} {u : SX} {v : SY} (I : i_Rel k u v) (hk : k + 3 ≤ 1538) : wpX_compile (fun r u' => wpY_compile (fun r' v' => r' = r ∧ i_Rel (k + 3) u' v') v) u := by
  obtain ⟨mt, tc, n, tl, cp, cf, st, rs, ut, cr, fr, g, a, tr, xo, xi, xs, xh, xd, xp, xa, fs, tf, xot, xop, ft, fp, fy, yd, yq, ya, yr, yp, sk, so, sh, sy, rfl, rfl, h1, h2, h3, h4, h5, h6⟩ := I
  have hn : n ≤ 32 := by omega
  refine xk_w hn h5 _ (fun e xo xi xs xh fs tf xot xop e1 e2 e3 => ?_) (fun xo xi xs xh fs tf xot xop e1 e2 => ?_) (fun xo xi xs xh fs tf xot xop e1 e2 e3 => ?_)
  · refine yk_w hn h5 _ (fun e' yp f1 f2 f3 => ⟨?_, ?_⟩) (fun yp f1 f2 => absurd (f1 e e1) e3) (fun yp f1 => absurd (f1.2.1 e e1) e3)
    · rcases Nat.lt_trichotomy e e' with z | z | z
      · exact absurd (f2 e z) e3
      · rw [z]
      · exact absurd (e2 e' z) f3
    · exact i_mk (k := k + 3) (tl := 0) ⟨h1, h2, h3, Nat.zero_le _, h5, Or.inl ⟨rfl, rfl⟩⟩
  · refine yk_w hn h5 _ (fun e' yp f1 f2 f3 => absurd (e1 e' f1) f3) (fun yp f1 f2 => ⟨rfl, ?_⟩) (fun yp f1 => absurd f1 e2)
    exact i_mk (k := k + 3) (tl := 0) ⟨h1, h2, h3, Nat.zero_le _, h5, Or.inl ⟨rfl, rfl⟩⟩
  · refine yk_w hn h5 _ (fun e' yp f1 f2 f3 => absurd (e1.2.1 e' f1) f3) (fun yp f1 f2 => absurd e1 f2) (fun yp f1 => ⟨rfl, ?_⟩)
    exact i_mk (k := k + 3) (tl := 0) ⟨h1, h2, h3, Nat.zero_le _, h5, Or.inr ⟨rfl, rfl, e1, e2, e3⟩⟩
theorem i_vc_run {k : Nat} {u : SX} {v : SY} (I : i_Rel k u v) (hk : k + 3 ≤ 1538) (v1 : Int32) : wpX_run (fun r u' => wpY_run (fun r' v' => r' = r ∧ i_Rel (k + 3) u' v') v v1) u v1 := by
  have I0 := I
  obtain ⟨mt, tc, n, tl, cp, cf, st, rs, ut, cr, fr, g, a, tr, xo, xi, xs, xh, xd, xp, xa, fs, tf, xot, xop, ft, fp, fy, yd, yq, ya, yr, yp, sk, so, sh, sy, rfl, rfl, h1, h2, h3, h4, h5, h6⟩ := I
  rcases h6 with ⟨rfl, q2⟩ | ⟨rfl, q2, G, q4, q5⟩
  · exact br_t rfl (br_t rfl ⟨rfl, i_up I0⟩)
  · have n10 : ¬ (1 : Int32) = 0 := by decide
    obtain ⟨s1, s2, s3⟩ := rn_st G ft fp fy sk so sh sy
    have f0 : fs 0 + 1 = nI 1 := by
      have := q4 0 G.2.2.2.1 s1
      rw [s2] at this
      rw [this]; rfl
    obtain ⟨d', p', tl', st', ut', ac', cr', fr', ft', fp', fy', tr', sk', so', sh', sy', j1, jx, jy⟩ := rn_loop (cm := nI mt) (cp := 1) (cf := cf) (xo := xo) (xi := xi) (xs := xs) (xh := xh) (xot := xot) (xop := xop) (yp := yp) G q5 h2 q4 q2 632028 0 0 1 0 v1 0 0 ft fp fy tr sk so sh sy (by omega) (Nat.zero_le _) s3
    obtain ⟨F, hF⟩ : ∃ F, 632028 < F := ⟨_, Nat.lt_succ_self _⟩
    refine br_f n10 (nm_r f0 ⟨F, jx F _ hF ?_⟩)
    refine br_f n10 (yf_w (f := 0) (p := 0) G.1 G.2.2.2.1 s1 s2 _ ⟨F, jy F _ hF ⟨rfl, ?_⟩⟩)
    exact i_mk (k := k + 3) ⟨h1, h2, h3, j1, h5, Or.inr ⟨rfl, q2, G, q4, q5⟩⟩
theorem i_ix {x : Int32} {n : Nat} (hn : n ≤ 32) (h1 : ¬ x < 0) (h2 : ¬ nI n ≤ x) : vp_in x 32 := by
  obtain ⟨j, hj, rfl⟩ := nI_of h1
  refine vp_in_nI ?_ (by omega)
  rcases Nat.lt_or_ge j n with z | z
  · omega
  · exact absurd (nI_le z (by omega)) h2
theorem i_vc_getTokenCount {k : Nat} {u : SX} {v : SY} (I : i_Rel k u v) (hk : k + 3 ≤ 1538) : wpX_getTokenCount (fun r => wpY_getTokenCount (fun r' => r' = r ∧ i_Rel (k + 3) u v) v) u := by
  have I0 := I
  obtain ⟨mt, tc, n, tl, cp, cf, st, rs, ut, cr, fr, g, a, tr, xo, xi, xs, xh, xd, xp, xa, fs, tf, xot, xop, ft, fp, fy, yd, yq, ya, yr, yp, sk, so, sh, sy, rfl, rfl, h⟩ := I
  exact ⟨rfl, i_up I0⟩
theorem i_vc_getTokenKind {k : Nat} {u : SX} {v : SY} (I : i_Rel k u v) (hk : k + 3 ≤ 1538) (v1 : Int32) : wpX_getTokenKind (fun r => wpY_getTokenKind (fun r' => r' = r ∧ i_Rel (k + 3) u v) v v1) u v1 := by
  have I0 := I
  obtain ⟨mt, tc, n, tl, cp, cf, st, rs, ut, cr, fr, g, a, tr, xo, xi, xs, xh, xd, xp, xa, fs, tf, xot, xop, ft, fp, fy, yd, yq, ya, yr, yp, sk, so, sh, sy, rfl, rfl, h1, h2, h3, h4, h5, h6⟩ := I
  refine br_c (fun c1 => br_t c1 ⟨rfl, i_up I0⟩) (fun c1 => br_c (fun c2 => br_f c1 (br_t c2 ⟨rfl, i_up I0⟩)) (fun c2 => ?_))
  have iv := i_ix (by omega) c1 c2
  exact ⟨iv, br_f c1 (br_f c2 ⟨iv, rfl, i_up I0⟩)⟩
theorem i_vc_getTokenArg {k : Nat} {u : SX} {v : SY} (I : i_Rel k u v) (hk : k + 3 ≤ 1538) (v1 : Int32) : wpX_getTokenArg (fun r => wpY_getTokenArg (fun r' => r' = r ∧ i_Rel (k + 3) u v) v v1) u v1 := by
  have I0 := I
  obtain ⟨mt, tc, n, tl, cp, cf, st, rs, ut, cr, fr, g, a, tr, xo, xi, xs, xh, xd, xp, xa, fs, tf, xot, xop, ft, fp, fy, yd, yq, ya, yr, yp, sk, so, sh, sy, rfl, rfl, h1, h2, h3, h4, h5, h6⟩ := I
  refine br_c (fun c1 => br_t c1 ⟨rfl, i_up I0⟩) (fun c1 => br_c (fun c2 => br_f c1 (br_t c2 ⟨rfl, i_up I0⟩)) (fun c2 => ?_))
  have iv := i_ix (by omega) c1 c2
  exact ⟨iv, br_f c1 (br_f c2 ⟨iv, rfl, i_up I0⟩)⟩
theorem i_vc_isCompiled {k : Nat} {u : SX} {v : SY} (I : i_Rel k u v) (hk : k + 3 ≤ 1538) : wpX_isCompiled (fun r => wpY_isCompiled (fun r' => r' = r ∧ i_Rel (k + 3) u v) v) u := by
  have I0 := I
  obtain ⟨mt, tc, n, tl, cp, cf, st, rs, ut, cr, fr, g, a, tr, xo, xi, xs, xh, xd, xp, xa, fs, tf, xot, xop, ft, fp, fy, yd, yq, ya, yr, yp, sk, so, sh, sy, rfl, rfl, h1, h2, h3, h4, h5, h6⟩ := I
  have hb : narrow .boolean (.int cp) = .int cp := by
    rcases h6 with ⟨rfl, -⟩ | ⟨rfl, -⟩
    · exact hp_nb0
    · exact hp_nb1
  exact ⟨hb, hb, rfl, i_up I0⟩
theorem i_vc_getFunctionCount {k : Nat} {u : SX} {v : SY} (I : i_Rel k u v) (hk : k + 3 ≤ 1538) : wpX_getFunctionCount (fun r => wpY_getFunctionCount (fun r' => r' = r ∧ i_Rel (k + 3) u v) v) u := by
  have I0 := I
  obtain ⟨mt, tc, n, tl, cp, cf, st, rs, ut, cr, fr, g, a, tr, xo, xi, xs, xh, xd, xp, xa, fs, tf, xot, xop, ft, fp, fy, yd, yq, ya, yr, yp, sk, so, sh, sy, rfl, rfl, h1, h2, h3, h4, h5, h6⟩ := I
  rcases h6 with ⟨q1, q2⟩ | ⟨q1, -⟩
  · exact br_t q1 ⟨q2.symm, i_up I0⟩
  · exact br_f (by rw [q1]; decide) ⟨rfl, i_up I0⟩
theorem i_vc_getStatus {k : Nat} {u : SX} {v : SY} (I : i_Rel k u v) (hk : k + 3 ≤ 1538) : wpX_getStatus (fun r => wpY_getStatus (fun r' => r' = r ∧ i_Rel (k + 3) u v) v) u := by
  have I0 := I
  obtain ⟨mt, tc, n, tl, cp, cf, st, rs, ut, cr, fr, g, a, tr, xo, xi, xs, xh, xd, xp, xa, fs, tf, xot, xop, ft, fp, fy, yd, yq, ya, yr, yp, sk, so, sh, sy, rfl, rfl, h⟩ := I
  exact ⟨rfl, i_up I0⟩
theorem i_vc_getResult {k : Nat} {u : SX} {v : SY} (I : i_Rel k u v) (hk : k + 3 ≤ 1538) : wpX_getResult (fun r => wpY_getResult (fun r' => r' = r ∧ i_Rel (k + 3) u v) v) u := by
  have I0 := I
  obtain ⟨mt, tc, n, tl, cp, cf, st, rs, ut, cr, fr, g, a, tr, xo, xi, xs, xh, xd, xp, xa, fs, tf, xot, xop, ft, fp, fy, yd, yq, ya, yr, yp, sk, so, sh, sy, rfl, rfl, h⟩ := I
  exact ⟨rfl, i_up I0⟩
theorem i_vc_getUncaughtType {k : Nat} {u : SX} {v : SY} (I : i_Rel k u v) (hk : k + 3 ≤ 1538) : wpX_getUncaughtType (fun r => wpY_getUncaughtType (fun r' => r' = r ∧ i_Rel (k + 3) u v) v) u := by
  have I0 := I
  obtain ⟨mt, tc, n, tl, cp, cf, st, rs, ut, cr, fr, g, a, tr, xo, xi, xs, xh, xd, xp, xa, fs, tf, xot, xop, ft, fp, fy, yd, yq, ya, yr, yp, sk, so, sh, sy, rfl, rfl, h⟩ := I
  exact ⟨rfl, i_up I0⟩
theorem i_vc_getTraceLength {k : Nat} {u : SX} {v : SY} (I : i_Rel k u v) (hk : k + 3 ≤ 1538) : wpX_getTraceLength (fun r => wpY_getTraceLength (fun r' => r' = r ∧ i_Rel (k + 3) u v) v) u := by
  have I0 := I
  obtain ⟨mt, tc, n, tl, cp, cf, st, rs, ut, cr, fr, g, a, tr, xo, xi, xs, xh, xd, xp, xa, fs, tf, xot, xop, ft, fp, fy, yd, yq, ya, yr, yp, sk, so, sh, sy, rfl, rfl, h⟩ := I
  exact ⟨rfl, i_up I0⟩
theorem i_vc_getTrace {k : Nat} {u : SX} {v : SY} (I : i_Rel k u v) (hk : k + 3 ≤ 1538) (v1 : Int32) : wpX_getTrace (fun r => wpY_getTrace (fun r' => r' = r ∧ i_Rel (k + 3) u v) v v1) u v1 := by
  have I0 := I
  obtain ⟨mt, tc, n, tl, cp, cf, st, rs, ut, cr, fr, g, a, tr, xo, xi, xs, xh, xd, xp, xa, fs, tf, xot, xop, ft, fp, fy, yd, yq, ya, yr, yp, sk, so, sh, sy, rfl, rfl, h1, h2, h3, h4, h5, h6⟩ := I
  refine br_c (fun c1 => br_t c1 ⟨rfl, i_up I0⟩) (fun c1 => br_c (fun c2 => br_f c1 (br_t c2 ⟨rfl, i_up I0⟩)) (fun c2 => ?_))
  have iv := i_ix (by omega) c1 c2
  exact ⟨iv, br_f c1 (br_f c2 ⟨iv, rfl, i_up I0⟩)⟩
theorem i_vc_getCatchRuns {k : Nat} {u : SX} {v : SY} (I : i_Rel k u v) (hk : k + 3 ≤ 1538) : wpX_getCatchRuns (fun r => wpY_getCatchRuns (fun r' => r' = r ∧ i_Rel (k + 3) u v) v) u := by
  have I0 := I
  obtain ⟨mt, tc, n, tl, cp, cf, st, rs, ut, cr, fr, g, a, tr, xo, xi, xs, xh, xd, xp, xa, fs, tf, xot, xop, ft, fp, fy, yd, yq, ya, yr, yp, sk, so, sh, sy, rfl, rfl, h⟩ := I
  exact ⟨rfl, i_up I0⟩
theorem i_vc_getFinallyRuns {k : Nat} {u : SX} {v : SY} (I : i_Rel k u v) (hk : k + 3 ≤ 1538) : wpX_getFinallyRuns (fun r => wpY_getFinallyRuns (fun r' => r' = r ∧ i_Rel (k + 3) u v) v) u := by
  have I0 := I
  obtain ⟨mt, tc, n, tl, cp, cf, st, rs, ut, cr, fr, g, a, tr, xo, xi, xs, xh, xd, xp, xa, fs, tf, xot, xop, ft, fp, fy, yd, yq, ya, yr, yp, sk, so, sh, sy, rfl, rfl, h⟩ := I
  exact ⟨rfl, i_up I0⟩
end HQ
