section HY
variable {g a fs tf xot xop ft fp fy tr yp sk so sh sy : Nat → Int32} {n d p : Nat} {T P : Nat → Nat} {cm ct cp cf xo xi xs xh dd pp ac tl st rs ut cr fr yr : Int32}
theorem ow_Lu {Q : Nat → Prop} {r r' : Int32} (h : ow_L n Q r) (h' : ow_L n Q r') : r = r' := by
  rcases h' with ⟨x, h1, h2, h3, h4⟩ | ⟨h1, h2⟩
  · rw [h2]; exact ow_Lh h h1 h3 h4
  · rw [h1]; exact ow_Ln h h2
theorem yr_58x {J : Int32 → Int32 → Int32 → Prop} {post : SY → Prop} {ty x2 x3 x4 x5 x6 : Int32} {f : Nat} (h : 0 ≤ x2 ∨ x5 < 0) (hJ : J x2 x3 (x4 + (-1))) : wY_raise_58 post J ty x4 cm ct (nI n) cp cf st rs ut tl cr fr dd pp ac yr g a tr yp sk so sh sy (f + 1) x2 x3 x5 x6 :=
  br_c (fun _ => nm_e hJ) (fun _ => br_c (fun _ => nm_e hJ) (fun h5 => br_c (fun _ => nm_e hJ) (fun h2 => absurd (h.resolve_right h5) h2)))
theorem yr_58 (G : ow_G g a n) {t e : Nat} (he : e < 64) {ty r : Int32} (hr : ow_L n (ow_H g a t ty) r) (post : SY → Prop) (J : Int32 → Int32 → Int32 → Prop) (h1 : ∀ x, x < n → r = nI x → ow_H g a t ty x → J (nI e) (nI x) (nI e + (-1))) (h2 : r = -1 → J (-1) (-1) (nI e + (-1))) : ∀ f c m, n - c < f → c < n → ow_O g t c → m ≤ c → (∀ y, y < c → ¬ ow_H g a t ty y) → wY_raise_58 post J ty (nI e) cm ct (nI n) cp cf st rs ut tl cr fr dd pp ac yr g a tr yp sk so sh sy (f + 1) (-1) (-1) (nI c) (nI m) := by
  have hn := G.1
  intro f
  induction f with
  | zero => intro c m h; omega
  | succ f ih =>
  intro c m hf hc hO hm hl
  have b1 : ¬ nI n ≤ nI m := nI_ge (by omega) (by omega)
  have b2 : vp_in (nI c) 32 := vp_in_nI (by omega) (by omega)
  have b3 : (nI c).toNatClampNeg = c := nI_clamp (by omega)
  have b4 : ¬ nI c < 0 := nI_pos (by omega)
  have b5 : ¬ (0 : Int32) ≤ -1 := by decide
  have b6 : (0 : Int32) ≤ nI e := nI_pos' (by omega)
  by_cases k4 : g c = 4
  · by_cases a0 : a c = 0
    · have hH : ow_H g a t ty c := ⟨hO, k4, Or.inl a0⟩
      exact br_f b1 (br_f b4 (br_f b5 ⟨b2, br_t (by rw [b3]; exact k4) ⟨b2, br_t (by rw [b3]; exact a0) (nm_e (yr_58x (Or.inl b6) (h1 c hc (ow_Lh hr hc hH hl) hH)))⟩⟩))
    · by_cases a1 : a c = ty
      · have hH : ow_H g a t ty c := ⟨hO, k4, Or.inr a1⟩
        exact br_f b1 (br_f b4 (br_f b5 ⟨b2, br_t (by rw [b3]; exact k4) ⟨b2, br_f (by rw [b3]; exact a0) ⟨b2, br_t (by rw [b3]; exact a1) (nm_e (yr_58x (Or.inl b6) (h1 c hc (ow_Lh hr hc hH hl) hH)))⟩⟩⟩))
      · obtain ⟨c', ⟨d1, d2, d3, d4⟩, hw⟩ := yn_w (cm := cm) (ct := ct) (cp := cp) (cf := cf) (st := st) (rs := rs) (ut := ut) (tl := tl) (cr := cr) (fr := fr) (dd := dd) (pp := pp) (ac := ac) (yr := yr) (tr := tr) (yp := yp) (sk := sk) (so := so) (sh := sh) (sy := sy) G (t := t) (q := c) (Or.inr ⟨hO, by rw [k4]; decide⟩) hc
        refine br_f b1 (br_f b4 (br_f b5 ⟨b2, br_t (by rw [b3]; exact k4) ⟨b2, br_f (by rw [b3]; exact a0) ⟨b2, br_f (by rw [b3]; exact a1) (hw _ (nm_r (nI_1 m) (ih c' (m + 1) (by omega) d2 d3 (by omega) (fun y hy hh => ?_))))⟩⟩⟩))
        rcases Nat.lt_trichotomy y c with z | z | z
        · exact hl y z hh
        · rw [z] at hh; rcases hh.2.2 with q | q; exact a0 q; exact a1 q
        · exact d4 y z hy hh.1
  · refine br_f b1 (br_f b4 (br_f b5 ⟨b2, br_f (by rw [b3]; exact k4) (nm_e (yr_58x (Or.inr (by decide)) (h2 (ow_Ln hr (fun y hy hh => ?_)))))⟩))
    rcases Nat.lt_trichotomy y c with z | z | z
    · exact hl y z hh
    · rw [z] at hh; exact k4 hh.2.1
    · obtain ⟨q1, q2⟩ := ow_8 (ow_Kl G.2.1 (show y + 1 ≤ n by omega)) hO hh.1 z
      rcases hO.1 with w | w | w
      · exact q1 w
      · exact k4 w
      · have := q2 w; rw [hh.2.1] at this; exact absurd this (by decide)
/-- what the reference's search has found below i -/
def rt_f (g a : Nat → Int32) (n : Nat) (T P : Nat → Nat) (ty F C : Int32) (i : Nat) : Prop := (∃ e x, e < i ∧ F = nI e ∧ C = nI x ∧ x < n ∧ rt_h g a n T P ty e ∧ ow_L n (ow_H g a (T e) ty) (nI x) ∧ ∀ m, e < m → m < i → ¬ rt_h g a n T P ty m) ∨ (F = -1 ∧ C = -1 ∧ ∀ m, m < i → ¬ rt_h g a n T P ty m)
theorem rt_fd {ty F C : Int32} {i : Nat} (h : rt_f g a n T P ty F C (i + 1)) (hn : ¬ rt_h g a n T P ty i) : rt_f g a n T P ty F C i := by
  rcases h with ⟨e, x, h1, h2, h3, h4, h5, h6, h7⟩ | ⟨h1, h2, h3⟩
  · have : e ≠ i := fun ee => hn (ee ▸ h5)
    exact Or.inl ⟨e, x, by omega, h2, h3, h4, h5, h6, fun m m1 m2 => h7 m m1 (by omega)⟩
  · exact Or.inr ⟨h1, h2, fun m hm => h3 m (by omega)⟩
theorem yr_12 (G : ow_G g a n) (R : rt_K g n T P d p) (hd : d ≤ 32) (hY : rt_Y T P fy sk so sh sy d) {ty F C : Int32} (post : SY → Prop) (hp : wY_raise_143 post ty F C cm ct (nI n) cp cf st rs ut tl cr fr dd pp ac yr g a tr yp sk so sh sy) : ∀ i f, i ≤ d → i + 1 < f → rt_f g a n T P ty F C i → wY_raise_12 post ty cm ct (nI n) cp cf st rs ut tl cr fr dd pp ac yr g a tr yp sk so sh sy f (-1) (-1) (rt_m i) := by
  have hn := G.1
  have b5 : ¬ (0 : Int32) ≤ -1 := by decide
  intro i
  induction i with
  | zero =>
    intro f _ hf hF
    obtain ⟨f, rfl⟩ : ∃ f', f = f' + 1 := ⟨f - 1, by omega⟩
    rcases hF with ⟨e, x, h1, -⟩ | ⟨h1, h2, -⟩
    · omega
    · rw [h1, h2] at hp
      exact br_t (by decide) hp
  | succ i ih =>
    intro f hi hf hF
    obtain ⟨f, rfl⟩ : ∃ f', f = f' + 1 := ⟨f - 1, by omega⟩
    have hid : i < d := by omega
    obtain ⟨hTi, hTin, hTk⟩ := R.2.2.2 i hid
    rw [show rt_m (i + 1) = nI i from rfl]
    have b1 : ¬ nI i < 0 := nI_pos (by omega)
    have b2 : vp_in (nI i) 64 := vp_in_nI (by omega) (by omega)
    have b3 : (nI i).toNatClampNeg = i := nI_clamp (by omega)
    have go : ¬ rt_h g a n T P ty i → wY_raise_12 post ty cm ct (nI n) cp cf st rs ut tl cr fr dd pp ac yr g a tr yp sk so sh sy f (-1) (-1) (rt_m i) := fun h => ih f (by omega) (by omega) (rt_fd hF h)
    rcases hY i hid with ⟨p0, k0, -⟩ | ⟨p1, p3, k1, s1, s2, -⟩
    · exact br_f b1 (br_f b5 ⟨b2, br_f (by rw [b3, k0]; decide) (nm_r (rt_m2 i) (go fun h => by have := h.1; omega))⟩)
    · by_cases hP : P i = 1
      · have g3 : g (T i) = 3 := (rt_try G R hid (by omega)).2.2.2.2.2
        obtain ⟨c, ⟨d1, d2, d3, d4⟩, hw⟩ := yn_w (cm := cm) (ct := ct) (cp := cp) (cf := cf) (st := st) (rs := rs) (ut := ut) (tl := tl) (cr := cr) (fr := fr) (dd := dd) (pp := pp) (ac := ac) (yr := yr) (tr := tr) (yp := yp) (sk := sk) (so := so) (sh := sh) (sy := sy) G (t := T i) (q := T i) (Or.inl ⟨rfl, g3⟩) hTi
        obtain ⟨r, hr⟩ := ow_Le n (ow_H g a (T i) ty)
        refine br_f b1 (br_f b5 ⟨b2, br_t (by rw [b3, k1]) ⟨b2, br_t (by rw [b3, s2, hP]; rfl) ⟨b2, ?_⟩⟩⟩)
        rw [b3, s1]
        refine hw _ ⟨n + 1 + 1, ?_⟩
        have key := yr_58 (cm := cm) (ct := ct) (cp := cp) (cf := cf) (st := st) (rs := rs) (ut := ut) (tl := tl) (cr := cr) (fr := fr) (dd := dd) (pp := pp) (ac := ac) (yr := yr) (tr := tr) (yp := yp) (sk := sk) (so := so) (sh := sh) (sy := sy) G (e := i) (by omega) hr post (wY_raise_12 post ty cm ct (nI n) cp cf st rs ut tl cr fr dd pp ac yr g a tr yp sk so sh sy f) (fun x x1 x2 x3 => ?_) (fun x1 => ?_) (n + 1) c 0 (by omega) d2 d3 (by omega) (fun y hy hh => ?_)
        · exact key
        · have hi1 : rt_h g a n T P ty i := ⟨hP, x, x1, x3⟩
          obtain ⟨f, rfl⟩ : ∃ f', f = f' + 1 := ⟨f - 1, by omega⟩
          rcases hF with ⟨e, x', h1, h2, h3, h4, h5, h6, h7⟩ | ⟨h1, h2, h3⟩
          · have ee : e = i := by
              rcases Nat.lt_or_ge e i with z | z
              · exact absurd hi1 (h7 i z (by omega))
              · omega
            subst ee
            have ex : nI x = nI x' := by rw [← x2]; exact ow_Lu hr h6
            rw [ex, ← h2, ← h3]
            exact br_c (fun _ => hp) (fun _ => br_t (by rw [h2]; exact nI_pos' (by omega)) hp)
          · exact absurd hi1 (h3 i (by omega))
        · rw [rt_m2]
          refine go fun h => ?_
          obtain ⟨-, x, y1, y2⟩ := h
          rcases hr with ⟨x', z1, z2, z3, z4⟩ | ⟨z1, z2⟩
          · rw [x1] at z2; exact absurd z2.symm (hp_ne1 (by omega))
          · exact z2 x y1 y2
        · have h1 := (ow_1 (ow_Kl G.2.1 (show y ≤ n by omega)) hh.1).1
          exact d4 y h1 hy hh.1
      · exact br_f b1 (br_f b5 ⟨b2, br_t (by rw [b3, k1]) ⟨b2, br_f (by rw [b3, s2]; exact nI_ne0 (by omega) (by omega)) (nm_r (rt_m2 i) (go fun h => hP h.1))⟩⟩)
theorem yr_166 (G : ow_G g a n) (R : rt_K g n T P d p) (hd : d ≤ 32) (hY : rt_Y T P fy sk so sh sy d) {ty : Int32} {e xe j x k : Nat} (hq : rt_q g a n T P ty j x k) (hej : (k = 2 → e = j ∧ xe = x) ∧ (k = 3 → e < j)) (post : SY → Prop)
    (h2 : k = 2 → post (cm, ct, nI n, cp, cf, st, rs, ut, tl, cr + 1, fr, nI (j + 1), nI (x + 1), ac, yr, g, a, tr, yp, sk, so, upd sh j 1, upd sy j ty))
    (h3 : k = 3 → post (cm, ct, nI n, cp, cf, st, rs, ut, tl, cr, fr + 1, nI (j + 1), nI (x + 1), ac, yr, g, a, tr, yp, sk, so, upd sh j 2, upd sy j ty)) :
    ∀ f i c, j ≤ i → i < d → i < f → c + i ≤ 60 → (∀ m, j < m → m ≤ i → rt_p g a n T P ty m) → wY_raise_166 post ty (nI e) (nI xe) cm ct (nI n) cp cf st rs ut tl cr fr pp ac yr g a tr yp sk so sh sy f (nI c) (nI (i + 1)) := by
  have hn := G.1
  have hjx := hq.1
  intro f
  induction f with
  | zero => intro i c _ _ h; omega
  | succ f ih =>
  intro i c hji hid hf hc hps
  obtain ⟨hTi, hTin, hTk⟩ := R.2.2.2 i hid
  have b1 : ¬ (64 : Int32) ≤ nI c := nI_ge (b := 64) (by omega) (by decide)
  have b2 : vp_in (nI i) 64 := vp_in_nI (by omega) (by omega)
  have b3 : (nI i).toNatClampNeg = i := nI_clamp (by omega)
  have b0 : nI (i + 1) - 1 = nI i := nI_pred i
  by_cases ei : i = j
  · subst ei
    obtain ⟨hx, ⟨k2, p1, l1, l2⟩ | ⟨k3, p12, no, l1, l2, l3, -⟩⟩ := hq
    · obtain ⟨rfl, rfl⟩ := hej.1 k2
      exact br_f b1 (br_t (by rw [b0]; exact nI_le (Nat.le_refl _) (by omega)) ⟨b2, nm_r (by rw [b3]) ⟨b2, nm_r (by rw [b3]) (nm_e (nm_r (nI_1 _) (h2 k2)))⟩⟩)
    · have hlt := hej.2 k3
      rcases hY i hid with ⟨p0, k0, -⟩ | ⟨p1, p3, k1, s1, s2, -⟩
      · omega
      · have g3 : g (T i) = 3 := (rt_try G R hid (by omega)).2.2.2.2.2
        have hs : ¬ (2 : Int32) ≤ sh (nI i).toNatClampNeg := by
          rw [b3, s2]; exact nI_ge (b := 2) (by omega) (by decide)
        refine br_f b1 (br_f (by rw [b0]; exact nI_ge hlt (by omega)) (nm_r b0 ⟨b2, br_t (by rw [b3, k1]) ⟨b2, br_f hs ⟨b2, ?_⟩⟩⟩))
        rw [b3, s1]
        exact yc_w G g3 hTi l1 _ (br_f (nI_pos (by omega)) ⟨b2, nm_e ⟨b2, nm_e (nm_e (nm_r (nI_1 x) (h3 k3)))⟩⟩)
  · obtain ⟨i', rfl⟩ : ∃ i', i = i' + 1 := ⟨i - 1, by omega⟩
    obtain ⟨q1, q2⟩ := hps (i' + 1) (by omega) (Nat.le_refl _)
    have rc := ih i' (c + 1) (by omega) (by omega) (by omega) (by omega) (fun m m1 m2 => hps m m1 (by omega))
    have hle : e ≤ j := by
      obtain ⟨hx, ⟨k2, -⟩ | ⟨k3, -⟩⟩ := hq
      · have := hej.1 k2; omega
      · have := hej.2 k3; omega
    have b4 : ¬ (nI (i' + 1 + 1) - 1) ≤ nI e := by rw [b0]; exact nI_ge (by omega) (by omega)
    have n267 : wY_raise_267 post (wY_raise_166 post ty (nI e) (nI xe) cm ct (nI n) cp cf st rs ut tl cr fr pp ac yr g a tr yp sk so sh sy f) ty (nI e) (nI xe) (nI c) cm ct (nI n) cp cf st rs ut tl cr fr (nI (i' + 1 + 1)) pp ac yr g a tr yp sk so sh sy := nm_r b0 (nm_r (nI_1 c) rc)
    rcases hY (i' + 1) hid with ⟨p0, k0, -⟩ | ⟨p1, p3, k1, s1, s2, -⟩
    · exact br_f b1 (br_f b4 (nm_r b0 ⟨b2, br_f (by rw [b3, k0]; decide) n267⟩))
    · by_cases h3 : P (i' + 1) = 3
      · have hs : (2 : Int32) ≤ sh (nI (i' + 1)).toNatClampNeg := by rw [b3, s2, h3]; decide
        exact br_f b1 (br_f b4 (nm_r b0 ⟨b2, br_t (by rw [b3, k1]) ⟨b2, br_t hs n267⟩⟩))
      · have g3 : g (T (i' + 1)) = 3 := (rt_try G R hid (by omega)).2.2.2.2.2
        have hs : ¬ (2 : Int32) ≤ sh (nI (i' + 1)).toNatClampNeg := by
          rw [b3, s2]; exact nI_ge (b := 2) (by omega) (by decide)
        refine br_f b1 (br_f b4 (nm_r b0 ⟨b2, br_t (by rw [b3, k1]) ⟨b2, br_f hs ⟨b2, ?_⟩⟩⟩))
        rw [b3, s1]
        exact yc_w G g3 hTi (Or.inr ⟨rfl, q2 h3⟩) _ (br_t (by decide) n267)
/-- the reference's raise over its first i frames -/
theorem yr_w (G : ow_G g a n) (R : rt_K g n T P d p) (hd : d ≤ 32) (hY : rt_Y T P fy sk so sh sy d) {ty : Int32} {i j x k : Nat} (hi : i ≤ d) (hj : j < i) (hps : ∀ m, j < m → m < i → rt_p g a n T P ty m) (hq : rt_q g a n T P ty j x k) (post : SY → Prop)
    (h2 : k = 2 → post (cm, ct, nI n, cp, cf, st, rs, ut, tl, cr + 1, fr, nI (j + 1), nI (x + 1), ac, yr, g, a, tr, yp, sk, so, upd sh j 1, upd sy j ty))
    (h3 : k = 3 → post (cm, ct, nI n, cp, cf, st, rs, ut, tl, cr, fr + 1, nI (j + 1), nI (x + 1), ac, yr, g, a, tr, yp, sk, so, upd sh j 2, upd sy j ty)) : wpY_raise post (cm, ct, nI n, cp, cf, st, rs, ut, tl, cr, fr, nI i, pp, ac, yr, g, a, tr, yp, sk, so, sh, sy) ty := by
  have hn := G.1
  have hno : ∀ m, j < m → m < i → ¬ rt_h g a n T P ty m := fun m m1 m2 h => by
    obtain ⟨p1, x', y1, y2⟩ := h
    exact (hps m m1 m2).1 p1 x' y1 y2
  obtain ⟨e, xe, he, hF, hej⟩ : ∃ e xe, e < d ∧ rt_f g a n T P ty (nI e) (nI xe) i ∧ (k = 2 → e = j ∧ xe = x) ∧ (k = 3 → e < j) := by
    obtain ⟨hx, ⟨k2, p1, l1, l2⟩ | ⟨k3, p12, no, l1, l2, l3, hh⟩⟩ := hq
    · exact ⟨j, x, by omega, Or.inl ⟨j, x, hj, rfl, rfl, hx, ⟨p1, x, hx, l2⟩, l1, hno⟩, fun _ => ⟨rfl, rfl⟩, fun h => by omega⟩
    · obtain ⟨e, e1, e2, e3⟩ := rt_gr j hh
      obtain ⟨xe, y1, y2, y3⟩ := ow_Lx e2.2
      refine ⟨e, xe, by omega, Or.inl ⟨e, xe, by omega, rfl, rfl, y1, e2, y3, fun m m1 m2 => ?_⟩, fun h => by omega, fun _ => e1⟩
      rcases Nat.lt_trichotomy m j with z | z | z
      · exact e3 m m1 z
      · rw [z]; exact fun h => by obtain ⟨p1, x', z1, z2⟩ := h; exact no p1 x' z1 z2
      · exact hno m z m2
  obtain ⟨i', rfl⟩ : ∃ i', i = i' + 1 := ⟨i - 1, by omega⟩
  have k166 := yr_166 (cm := cm) (ct := ct) (cp := cp) (cf := cf) (st := st) (rs := rs) (ut := ut) (tl := tl) (cr := cr) (fr := fr) (pp := pp) (ac := ac) (yr := yr) (tr := tr) (yp := yp) (sk := sk) (so := so) (sh := sh) (sy := sy) G R hd hY hq hej post h2 h3 (d + 1) i' 0 (by omega) (by omega) (by omega) (by omega) (fun m m1 m2 => hps m m1 (by omega))
  have k143 : wY_raise_143 post ty (nI e) (nI xe) cm ct (nI n) cp cf st rs ut tl cr fr (nI (i' + 1)) pp ac yr g a tr yp sk so sh sy := br_t (nI_pos' (by omega)) ⟨d + 1, k166⟩
  exact nm_r (rt_m1 (i' + 1)) ⟨i' + 3, yr_12 G R hd hY post k143 (i' + 1) (i' + 3) hi (by omega) hF⟩
theorem yr_n (G : ow_G g a n) (R : rt_K g n T P d p) (hd : d ≤ 32) (hY : rt_Y T P fy sk so sh sy d) {ty : Int32} (hh : ∀ e, e < d → ¬ rt_h g a n T P ty e) (post : SY → Prop) (hp : post (cm, ct, nI n, cp, cf, 2, rs, ty, tl, cr, fr, nI d, pp, ac, 0, g, a, tr, yp, sk, so, sh, sy)) : wpY_raise post (cm, ct, nI n, cp, cf, st, rs, ut, tl, cr, fr, nI d, pp, ac, yr, g, a, tr, yp, sk, so, sh, sy) ty := by
  have k143 : wY_raise_143 post ty (-1) (-1) cm ct (nI n) cp cf st rs ut tl cr fr (nI d) pp ac yr g a tr yp sk so sh sy := br_f (by decide) hp
  exact nm_r (rt_m1 d) ⟨d + 2, yr_12 G R hd hY post k143 d (d + 2) (Nat.le_refl _) (by omega) (Or.inr ⟨rfl, rfl, hh⟩)⟩
/-! K: the type caught last -/
theorem xy_i (G : ow_G g a n) (R : rt_K g n T P d p) (hd : d ≤ 32) (hX : rt_X T P ft fp d) (hY : rt_Y T P fy sk so sh sy d) : ∀ i, i ≤ d → (∃ l, l < hp_oc g (rt_x T d p i) ∧ hp_pt g (rt_x T d p i) l = 2) → ∃ ty : Nat, 1 ≤ ty ∧ ty ≤ 15 ∧ (∀ f (post : Int32 → Prop), i < f → post (nI ty) → wX_innermostCaughtType_7 post cm ct (nI n) cp cf xo xi xs xh dd pp ac tl st rs ut cr fr g a fs tf xot xop ft fp fy tr f (rt_m i)) ∧ (∀ f (post : Int32 → Prop), i < f → post (nI ty) → wY_innermostCaught_7 post cm ct (nI n) cp cf st rs ut tl cr fr dd pp ac yr g a tr yp sk so sh sy f (rt_m i)) := by
  have hn := G.1
  intro i
  induction i with
  | zero => intro _ h; obtain ⟨l, h1, h2⟩ := h; rw [R.2.2.1] at h1; omega
  | succ i ih =>
  intro hi hl
  obtain ⟨l, l1, l2⟩ := hl
  have hid : i < d := by omega
  have hk := (R.2.2.2 i hid).2.2
  have hP : P i ≠ 0 := by
    rcases hk with ⟨k1, k2, k3⟩ | ⟨k1, -⟩
    · have p1 := ((hp_H _ (ow_Kl G.2.1 (show rt_x T d p (i + 1) ≤ n from Nat.le_of_lt (rt_xn R (i + 1))))).2.2.2.2 (hp_oc g (rt_x T d p (i + 1)) - 1) (by omega)).2.2.2.2.2.1
      omega
    · omega
  obtain ⟨r1, r2, r3, r4, r5, r6⟩ := rt_try G R hid hP
  have b1 : ¬ nI i < 0 := nI_pos (by omega)
  have b2 : vp_in (nI i) 64 := vp_in_nI (by omega) (by omega)
  have b2' : vp_in (nI i) 32 := vp_in_nI (by omega) (by omega)
  have b3 : (nI i).toNatClampNeg = i := nI_clamp (by omega)
  have f2 := rt_fp hX hid (k := 2) (by omega)
  rw [show rt_m (i + 1) = nI i from rfl]
  rcases hY i hid with ⟨p0, k0, -⟩ | ⟨p1, p3, k1, s1, s2, s3⟩
  · exact absurd p0 hP
  · by_cases hP2 : P i = 2
    · obtain ⟨t1, ty, t2, t3, t4⟩ := s3 (by omega)
      refine ⟨ty, t4 hP2, t2, fun f post hf hp => ?_, fun f post hf hp => ?_⟩
      · obtain ⟨f, rfl⟩ : ∃ f', f = f' + 1 := ⟨f - 1, by omega⟩
        exact br_f b1 ⟨b2', br_t (by rw [b3]; exact f2.mpr hP2) ⟨b2', by rw [b3, t3]; exact hp⟩⟩
      · obtain ⟨f, rfl⟩ : ∃ f', f = f' + 1 := ⟨f - 1, by omega⟩
        exact br_f b1 ⟨b2, br_t (by rw [b3, k1]) ⟨b2, br_t (by rw [b3, s2, hP2]; rfl) ⟨b2, by rw [b3, t1, t3]; exact hp⟩⟩⟩
    · clear s3
      have Kq := ow_Kl G.2.1 (show rt_x T d p (i + 1) ≤ n from Nat.le_of_lt (rt_xn R (i + 1)))
      have lv := (ow_2 Kq r4).2.2.2.2.2.2
      have hll : l < hp_oc g (T i) := by
        rw [r5]
        by_cases el : l = hp_oc g (rt_x T d p (i + 1)) - 1
        · rw [el, ← r3] at l2; exact absurd l2 hP2
        · omega
      obtain ⟨ty, t1, t2, t3, t4⟩ := ih (by omega) ⟨l, by rw [rt_xl hid]; exact hll, by rw [rt_xl hid, (lv l hll).2]; exact l2⟩
      refine ⟨ty, t1, t2, fun f post hf hp => ?_, fun f post hf hp => ?_⟩
      · obtain ⟨f, rfl⟩ : ∃ f', f = f' + 1 := ⟨f - 1, by omega⟩
        exact br_f b1 ⟨b2', br_f (by rw [b3]; exact fun h => hP2 (f2.mp h)) (nm_r (rt_m2 i) (t3 f post (by omega) hp))⟩
      · obtain ⟨f, rfl⟩ : ∃ f', f = f' + 1 := ⟨f - 1, by omega⟩
        refine br_f b1 ⟨b2, br_t (by rw [b3, k1]) ⟨b2, br_f ?_ (nm_r (rt_m2 i) (t4 f post (by omega) hp))⟩⟩
        rw [b3, s2]
        exact fun h => by have := hp_eq (b := 1) h (by omega) (by omega); omega
end HY
