section HN
variable {g a fs tf xot xop ft fp fy tr yp sk so sh sy : Nat → Int32} {n d p tl tc M : Nat} {T P : Nat → Nat} {cm ct cp cf xo xi xs xh ac cr fr : Int32}
/-! L: one step of both -/
/-- a finally body's pending type has its handler -/
def rt_E (g a : Nat → Int32) (n : Nat) (T P : Nat → Nat) (fy : Nat → Int32) (d : Nat) : Prop := ∀ j, j < d → P j = 3 → ¬ fy j = 0 → ∃ e, e < j ∧ rt_h g a n T P (fy j) e
def rn_J (g a : Nat → Int32) (n M : Nat) (T P : Nat → Nat) (d p : Nat) (ft fp fy sk so sh sy : Nat → Int32) : Prop := rt_K g n T P d p ∧ rt_X T P ft fp d ∧ rt_Y T P fy sk so sh sy d ∧ rt_E g a n T P fy d ∧ rt_s g T P d + rt_R g p ≤ M
def rn_I (g a : Nat → Int32) (n M d p : Nat) (ft fp fy sk so sh sy : Nat → Int32) : Prop := ∃ T P, rn_J g a n M T P d p ft fp fy sk so sh sy
theorem rn_n (G : ow_G g a n) {q : Nat} (hq : q ≤ n) (h : hp_in g q = 1) : q < n := by
  rcases Nat.lt_or_ge q n with z | z
  · exact z
  · have : q = n := by omega
    rw [this, G.2.2.1] at h
    exact absurd h (by decide)
/-- frame j goes on in another part, from behind its clause x -/
theorem rn_set (G : ow_G g a n) (J : rn_J g a n (M + 1) T P d p ft fp fy sk so sh sy) {j x k ty : Nat} (hj : j < d) (hx : x < n) (hO : ow_O g (T j) x) (hk : (k = 2 ∧ g x = 4 ∧ P j = 1 ∧ 1 ≤ ty) ∨ (k = 3 ∧ g x = 5 ∧ (P j = 1 ∨ P j = 2))) (hty : ty ≤ 15) (hE : k = 3 → 1 ≤ ty → ∃ e, e < j ∧ rt_h g a n T P (nI ty) e) :
    rn_I g a n M (j + 1) (x + 1) ft (upd fp j (nI k)) (upd fy j (nI ty)) sk so (upd sh j (nI (k - 1))) (upd sy j (nI ty)) := by
  obtain ⟨R, hX, hY, E, hM⟩ := J
  have hP0 : P j ≠ 0 := by rcases hk with h | h <;> omega
  have hg : g x = 4 ∨ g x = 5 := by rcases hk with h | h; exact Or.inl h.2.1; exact Or.inr h.2.1
  have hk0 : k ≠ 0 := by rcases hk with h | h <;> omega
  obtain ⟨-, w2, w3, w4⟩ := ow_6 (ow_Kl G.2.1 (show x + 1 ≤ n by omega)) hO
  obtain ⟨v1, v2, v3, v4⟩ := w2 hg
  have vk : hp_pt g (x + 1) (hp_oc g (T j)) = k := by
    rcases hk with h | h
    · rw [w3 h.2.1]; omega
    · rw [w4 h.2.1]; omega
  have hdec := rt_dec G R hj hx hO (by
    rcases hk with h | h
    · exact Or.inl ⟨h.2.2.1, hg⟩
    · rcases h.2.2 with q | q
      · exact Or.inl ⟨q, hg⟩
      · exact Or.inr ⟨q, h.2.1⟩)
  refine ⟨T, hp_u P j k, ?_, fun i hi => ?_, fun i hi => ?_, fun i hi h3 h0 => ?_, ?_⟩
  · refine rt_set R hj (rn_n G (by omega) v3) v3 (Or.inl ⟨by omega, ?_, ?_⟩)
    · rw [v1]; exact v2.symm
    · rw [v1]; exact vk.symm
  · by_cases e : i = j
    · subst e
      rw [hp_us, hp_uS]
      refine ⟨(hX i hj).1, rfl, ?_⟩
      rcases hk with h | h <;> omega
    · rw [hp_un e, hp_uN e]; exact hX i (by omega)
  · by_cases e : i = j
    · subst e
      rw [hp_us, hp_us, hp_us, hp_uS]
      rcases hY i hj with ⟨p0, -⟩ | ⟨p1, p3, k1, s1, -⟩
      · exact absurd p0 hP0
      · refine Or.inr ⟨by omega, by rcases hk with h | h <;> omega, k1, s1, rfl, fun _ => ⟨rfl, ty, hty, rfl, fun h2 => ?_⟩⟩
        rcases hk with h | h
        · exact h.2.2.2
        · omega
    · rw [hp_un e, hp_un e, hp_un e, hp_uN e]; exact hY i (by omega)
  · have hb : ∀ e', e' < i → ∀ ty' : Int32, rt_h g a n T P ty' e' → rt_h g a n T (hp_u P j k) ty' e' := fun e' h1 ty' h => by
      unfold rt_h
      rw [hp_uN (show e' ≠ j by omega)]; exact h
    by_cases e : i = j
    · subst e
      rw [hp_us] at h0 ⊢
      rw [hp_uS] at h3
      obtain ⟨e', e1, e2⟩ := hE h3 (by
        rcases Nat.eq_zero_or_pos ty with z | z
        · rw [z] at h0; exact absurd nI_0 h0
        · exact z)
      exact ⟨e', e1, hb e' e1 _ e2⟩
    · rw [hp_un e] at h0 ⊢
      rw [hp_uN e] at h3
      obtain ⟨e', e1, e2⟩ := E i (by omega) h3 h0
      exact ⟨e', e1, hb e' e1 _ e2⟩
  · have e1 : rt_s g T (hp_u P j k) (j + 1) = rt_s g T P j := by
      simp only [rt_s]
      rw [hp_uS, if_neg hk0, rt_sE (T := T) (P := P) j (fun i hi => ⟨rfl, hp_uN (by omega)⟩)]
      omega
    rw [e1]; omega
/-- frames from j on left -/
theorem rn_cut (G : ow_G g a n) (J : rn_J g a n (M + 1) T P d p ft fp fy sk so sh sy) {j p' : Nat} (hj : j ≤ d) (hp : p' ≤ n) (hi : hp_in g p' = 1) (h1 : hp_oc g p' = hp_oc g (rt_x T d p j)) (h2 : hp_fn g p' = hp_fn g (rt_x T d p j)) (h3 : ∀ m, m < hp_oc g (rt_x T d p j) → hp_ot g p' m = hp_ot g (rt_x T d p j) m ∧ hp_pt g p' m = hp_pt g (rt_x T d p j) m) (hm : rt_s g T P j + rt_R g p' + 1 ≤ rt_s g T P d + rt_R g p) :
    rn_I g a n M j p' ft fp fy sk so sh sy := by
  obtain ⟨R, hX, hY, E, hM⟩ := J
  exact ⟨T, P, rt_cut R hj (rn_n G hp hi) hi h1 h2 h3, fun i hi => hX i (by omega), fun i hi => hY i (by omega), fun i hi => E i (by omega), by omega⟩
/-- a new frame at p -/
theorem rn_psh (G : ow_G g a n) (J : rn_J g a n (M + 1) T P d p ft fp fy sk so sh sy) {p' pr : Nat} {b c : Int32} (hp : p' ≤ n) (hi : hp_in g p' = 1) (hk : rt_k g p pr p') (hpr : (pr = 0 ∧ b = 0 ∧ c = nI (p + 1)) ∨ (pr = 1 ∧ b = 1 ∧ c = nI p)) (hm : (if pr = 0 then rt_R g (p + 1) else 0) + rt_R g p' + 1 ≤ rt_R g p) :
    rn_I g a n M (d + 1) p' (upd ft d (nI p)) (upd fp d (nI pr)) fy (upd sk d b) (upd so d c) (upd sh d 0) (upd sy d 0) := by
  obtain ⟨R, hX, hY, E, hM⟩ := J
  refine ⟨hp_u T d p, hp_u P d pr, rt_psh R (rn_n G hp hi) hi hk, fun i hi => ?_, fun i hi => ?_, fun i hi h3 h0 => ?_, ?_⟩
  · by_cases e : i = d
    · subst e
      rw [hp_us, hp_us, hp_uS, hp_uS]
      exact ⟨rfl, rfl, by omega⟩
    · rw [hp_un e, hp_un e, hp_uN e, hp_uN e]; exact hX i (by omega)
  · by_cases e : i = d
    · subst e
      rw [hp_us, hp_us, hp_us, hp_us, hp_uS, hp_uS]
      rcases hpr with ⟨rfl, rfl, rfl⟩ | ⟨rfl, rfl, rfl⟩
      · exact Or.inl ⟨rfl, rfl, rfl⟩
      · exact Or.inr ⟨by omega, by omega, rfl, rfl, rfl, fun h => by omega⟩
    · rw [hp_un e, hp_un e, hp_un e, hp_un e, hp_uN e, hp_uN e]; exact hY i (by omega)
  · by_cases e : i = d
    · subst e
      rw [hp_uS] at h3; omega
    · rw [hp_uN e] at h3
      obtain ⟨e', e1, e2⟩ := E i (by omega) h3 h0
      refine ⟨e', e1, ?_⟩
      unfold rt_h
      rw [hp_uN (show e' ≠ d by omega), hp_uN (show e' ≠ d by omega)]; exact e2
  · have e1 : rt_s g (hp_u T d p) (hp_u P d pr) (d + 1) = rt_s g T P d + if pr = 0 then rt_R g (p + 1) else 0 := by
      simp only [rt_s]
      rw [hp_uS, hp_uS, rt_sE (T := T) (P := P) d (fun i hi => ⟨hp_uN (by omega), hp_uN (by omega)⟩)]
    rw [e1]; omega
/-- a throw -/
theorem rn_r (G : ow_G g a n) (hT : ow_T g tf n) (htl : tl ≤ tc) (J : rn_J g a n (M + 1) T P d p ft fp fy sk so sh sy) {ty : Nat} (h1 : 1 ≤ ty) (h15 : ty ≤ 15) : ((∃ (d' p' tl' : Nat) (ac' cr' fr' : Int32) (ft' fp' fy' tr' sk' so' sh' sy' : Nat → Int32), rn_I g a n M d' p' ft' fp' fy' sk' so' sh' sy' ∧ tl' ≤ tc ∧ (∀ post : SX → Prop, post (cm, nI tc, nI n, cp, cf, xo, xi, xs, xh, nI d', nI p', ac', nI tl', 0, 0, 0, cr', fr', g, a, fs, tf, xot, xop, ft', fp', fy', tr') → wpX_raise post (cm, nI tc, nI n, cp, cf, xo, xi, xs, xh, nI d, nI p, ac, nI tl, 0, 0, 0, cr, fr, g, a, fs, tf, xot, xop, ft, fp, fy, tr) (nI ty)) ∧ (∀ post : SY → Prop, post (cm, nI tc, nI n, cp, cf, 0, 0, 0, nI tl', cr', fr', nI d', nI p', ac', 1, g, a, tr', yp, sk', so', sh', sy') → wpY_raise post (cm, nI tc, nI n, cp, cf, 0, 0, 0, nI tl, cr, fr, nI d, nI p, ac, 1, g, a, tr, yp, sk, so, sh, sy) (nI ty))) ∨ (∃ st' ut' : Int32, ¬ st' = 0 ∧ (st' = 2 ∨ ut' = 0) ∧ (∀ post : SX → Prop, post (cm, nI tc, nI n, cp, cf, xo, xi, xs, xh, nI d, nI p, ac, nI tl, st', ac, ut', cr, fr, g, a, fs, tf, xot, xop, ft, fp, fy, tr) → wpX_raise post (cm, nI tc, nI n, cp, cf, xo, xi, xs, xh, nI d, nI p, ac, nI tl, 0, 0, 0, cr, fr, g, a, fs, tf, xot, xop, ft, fp, fy, tr) (nI ty)) ∧ (∀ post : SY → Prop, post (cm, nI tc, nI n, cp, cf, st', 0, ut', nI tl, cr, fr, nI d, nI p, ac, 0, g, a, tr, yp, sk, so, sh, sy) → wpY_raise post (cm, nI tc, nI n, cp, cf, 0, 0, 0, nI tl, cr, fr, nI d, nI p, ac, 1, g, a, tr, yp, sk, so, sh, sy) (nI ty)))) := by
  have J0 := J
  obtain ⟨R, hX, hY, E, hM⟩ := J
  have hd : d ≤ 32 := by have := rt_dp G R; have := R.1; have := G.1; omega
  by_cases hh : ∃ e, e < d ∧ rt_h g a n T P (nI ty) e
  · left
    obtain ⟨j, x, k, j1, j2, j3⟩ := rt_ex G R d (Nat.le_refl _) hh
    have j4 := j2
    obtain ⟨hx, ⟨k2, p1, l1, l2⟩ | ⟨k3, p12, no, l1, l2, l3, he⟩⟩ := j4
    · exact ⟨j + 1, x + 1, tl, ac, cr + 1, fr, ft, upd fp j 2, upd fy j (nI ty), tr, sk, so, upd sh j 1, upd sy j (nI ty), rn_set (k := 2) G J0 j1 hx l2.1 (Or.inl ⟨rfl, l2.2.1, p1, h1⟩) h15 (fun h => by omega), htl,
        fun post hp => xr_w G hT R hd hX j1 j3 j2 hh post (fun _ => hp) (fun h => by omega), fun post hp => yr_w G R hd hY (Nat.le_refl _) j1 j3 j2 post (fun _ => hp) (fun h => by omega)⟩
    · exact ⟨j + 1, x + 1, tl, ac, cr, fr + 1, ft, upd fp j 3, upd fy j (nI ty), tr, sk, so, upd sh j 2, upd sy j (nI ty), rn_set (k := 3) G J0 j1 hx l2 (Or.inr ⟨rfl, l3, p12⟩) h15 (fun _ _ => he), htl,
        fun post hp => xr_w G hT R hd hX j1 j3 j2 hh post (fun h => by omega) (fun _ => hp), fun post hp => yr_w G R hd hY (Nat.le_refl _) j1 j3 j2 post (fun h => by omega) (fun _ => hp)⟩
  · right
    have hno : ∀ e, e < d → ¬ rt_h g a n T P (nI ty) e := fun e h1 h2 => hh ⟨e, h1, h2⟩
    exact ⟨2, nI ty, by decide, Or.inl rfl, fun post hp => xr_n G hT R hd hX hno post hp, fun post hp => yr_n G R hd hY hno post hp⟩
end HN
