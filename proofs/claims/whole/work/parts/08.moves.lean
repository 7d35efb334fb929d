section HM
variable {g a fs tf xot xop ft fp fy tr yp sk so sh sy : Nat → Int32} {n d p : Nat} {T P : Nat → Nat} {cm ct cp cf xo xi xs xh dd pp ac tl st rs ut cr fr yr : Int32}
/-! M: the own methods of a step -/
theorem xp_w {b : Int32} (hd : d < 32) (post : SX → Prop) (hp : post (cm, ct, nI n, cp, cf, xo, xi, xs, xh, nI (d + 1), pp, ac, tl, st, rs, ut, cr, fr, g, a, fs, tf, xot, xop, upd ft d pp, upd fp d b, fy, tr)) : wpX_pushFrame post (cm, ct, nI n, cp, cf, xo, xi, xs, xh, nI d, pp, ac, tl, st, rs, ut, cr, fr, g, a, fs, tf, xot, xop, ft, fp, fy, tr) b := by
  have b2 : vp_in (nI d) 32 := vp_in_nI hd (by omega)
  have b3 : (nI d).toNatClampNeg = d := nI_clamp (by omega)
  exact br_f (nI_ge (b := 32) hd (by decide)) ⟨b2, nm_r (by rw [b3]) ⟨b2, nm_r (by rw [b3]) (nm_r (nI_1 d) hp)⟩⟩
theorem yp_w {b c : Int32} (hd : d < 64) (post : Int32 → SY → Prop) (hp : post 1 (cm, ct, nI n, cp, cf, st, rs, ut, tl, cr, fr, nI (d + 1), pp, ac, yr, g, a, tr, yp, upd sk d b, upd so d c, upd sh d 0, upd sy d 0)) : wpY_push post (cm, ct, nI n, cp, cf, st, rs, ut, tl, cr, fr, nI d, pp, ac, yr, g, a, tr, yp, sk, so, sh, sy) b c := by
  have b2 : vp_in (nI d) 64 := vp_in_nI hd (by omega)
  have b3 : (nI d).toNatClampNeg = d := nI_clamp (by omega)
  exact br_t (nI_lt (b := 64) hd (by decide)) ⟨b2, nm_r (by rw [b3]) ⟨b2, nm_r (by rw [b3]) ⟨b2, nm_r (by rw [b3]) ⟨b2, nm_r (by rw [b3]) (nm_r (nI_1 d) hp)⟩⟩⟩⟩
/-- the finally body owed by frame j -/
def xo_R (g : Nat → Int32) (n t : Nat) (x : Int32) (r : Int32) : Prop := (x = 3 ∧ r = -1) ∨ (¬ x = 3 ∧ ow_L n (fun x => ow_O g t x ∧ g x = 5) r)
theorem xo_o (hn : n ≤ 32) (hT : ow_T g tf n) {t j : Nat} (ht : t < 32) (hj : j < 32) (hft : ft j = nI t) {r : Int32} (hr : xo_R g n t (fp j) r) (post : Int32 → Prop) (hp : post r) : wpX_owedFinally post (cm, ct, nI n, cp, cf, xo, xi, xs, xh, dd, pp, ac, tl, st, rs, ut, cr, fr, g, a, fs, tf, xot, xop, ft, fp, fy, tr) (nI j) := by
  rcases hr with ⟨h1, h2⟩ | ⟨h1, h2⟩
  · rw [h2] at hp; exact xo_3 hj h1 post hp
  · exact xo_w hn hT ht hj hft h1 h2 post hp
theorem xb_c (hn : n ≤ 32) (hT : ow_T g tf n) {t : Nat} (ht : t < 32) (hd : d < 32) (hft : ft d = nI t) (h0 : fp d = 0) (post : SX → Prop) (hp : post (cm, ct, nI n, cp, cf, xo, xi, xs, xh, nI d, nI (t + 1), ac, tl, st, rs, ut, cr, fr, g, a, fs, tf, xot, xop, ft, fp, fy, tr)) : wpX_finishBody post (cm, ct, nI n, cp, cf, xo, xi, xs, xh, nI (d + 1), pp, ac, tl, st, rs, ut, cr, fr, g, a, fs, tf, xot, xop, ft, fp, fy, tr) := by
  have b2 : vp_in (nI d) 32 := vp_in_nI hd (by omega)
  have b3 : (nI d).toNatClampNeg = d := nI_clamp (by omega)
  obtain ⟨r, hr⟩ := ow_Le n (fun x => ow_O g t x ∧ g x = 5)
  refine br_f (nI_ne0 (by omega) (by omega)) (nm_r (nI_pred d) (xo_o hn hT ht hd hft (r := r) (Or.inr ⟨by rw [h0]; decide, hr⟩) _ ⟨b2, br_t (by rw [b3]; exact h0) ⟨b2, nm_r (nI_pred d) ?_⟩⟩))
  rw [b3, hft, nI_1]
  exact hp
theorem xb_f (hn : n ≤ 32) (hT : ow_T g tf n) {t x : Nat} (ht : t < 32) (hx : x < n) (hd : d < 32) (hft : ft d = nI t) (h0 : ¬ fp d = 0) (h3 : ¬ fp d = 3) (hr : ow_L n (fun x => ow_O g t x ∧ g x = 5) (nI x)) (post : SX → Prop) (hp : post (cm, ct, nI n, cp, cf, xo, xi, xs, xh, nI (d + 1), nI (x + 1), ac, tl, st, rs, ut, cr, fr + 1, g, a, fs, tf, xot, xop, ft, upd fp d 3, upd fy d 0, tr)) : wpX_finishBody post (cm, ct, nI n, cp, cf, xo, xi, xs, xh, nI (d + 1), pp, ac, tl, st, rs, ut, cr, fr, g, a, fs, tf, xot, xop, ft, fp, fy, tr) := by
  have b2 : vp_in (nI d) 32 := vp_in_nI hd (by omega)
  have b3 : (nI d).toNatClampNeg = d := nI_clamp (by omega)
  exact br_f (nI_ne0 (by omega) (by omega)) (nm_r (nI_pred d) (xo_o hn hT ht hd hft (Or.inr ⟨h3, hr⟩) _ ⟨b2, br_f (by rw [b3]; exact h0) (br_f (hp_ne1 (by omega)) (xs_f hd _ hp))⟩))
theorem xb_98 (hn : n ≤ 32) (hT : ow_T g tf n) {t x : Nat} (ht : t < 32) (hd : d < 32) (hft : ft d = nI t) (hr : ow_L n (fun x => ow_O g t x ∧ g x = 2) (nI x)) (post : SX → Prop) (hp : post (cm, ct, nI n, cp, cf, xo, xi, xs, xh, nI d, nI (x + 1), ac, tl, st, rs, ut, cr, fr, g, a, fs, tf, xot, xop, ft, fp, fy, tr)) : wX_finishBody_98 post (nI d) cm ct (nI n) cp cf xo xi xs xh (nI (d + 1)) pp ac tl st rs ut cr fr g a fs tf xot xop ft fp fy tr := by
  have b2 : vp_in (nI d) 32 := vp_in_nI hd (by omega)
  have b3 : (nI d).toNatClampNeg = d := nI_clamp (by omega)
  refine ⟨b2, ?_⟩
  rw [b3, hft]
  refine xf_w hn hT ht hr _ (nm_r (nI_pred d) ?_)
  rw [nI_1]
  exact hp
theorem xb_e (hn : n ≤ 32) (hT : ow_T g tf n) {t x : Nat} (ht : t < 32) (hd : d < 32) (hft : ft d = nI t) (h0 : ¬ fp d = 0) (ho : xo_R g n t (fp d) (-1)) (h3 : fp d = 3 → fy d = 0) (hr : ow_L n (fun x => ow_O g t x ∧ g x = 2) (nI x)) (post : SX → Prop) (hp : post (cm, ct, nI n, cp, cf, xo, xi, xs, xh, nI d, nI (x + 1), ac, tl, st, rs, ut, cr, fr, g, a, fs, tf, xot, xop, ft, fp, fy, tr)) : wpX_finishBody post (cm, ct, nI n, cp, cf, xo, xi, xs, xh, nI (d + 1), pp, ac, tl, st, rs, ut, cr, fr, g, a, fs, tf, xot, xop, ft, fp, fy, tr) := by
  have b2 : vp_in (nI d) 32 := vp_in_nI hd (by omega)
  have b3 : (nI d).toNatClampNeg = d := nI_clamp (by omega)
  have k98 := xb_98 (cm := cm) (ct := ct) (cp := cp) (cf := cf) (xo := xo) (xi := xi) (xs := xs) (xh := xh) (pp := pp) (ac := ac) (tl := tl) (st := st) (rs := rs) (ut := ut) (cr := cr) (fr := fr) (a := a) (fs := fs) (xot := xot) (xop := xop) (fp := fp) (fy := fy) (tr := tr) hn hT ht hd hft hr post hp
  refine br_f (nI_ne0 (by omega) (by omega)) (nm_r (nI_pred d) (xo_o hn hT ht hd hft ho _ ⟨b2, br_f (by rw [b3]; exact h0) (br_t rfl ⟨b2, ?_⟩)⟩))
  by_cases e : fp d = 3
  · exact br_t (by rw [b3]; exact e) ⟨b2, br_t (by rw [b3]; exact h3 e) k98⟩
  · exact br_f (by rw [b3]; exact e) k98
theorem xb_u (hn : n ≤ 32) (hT : ow_T g tf n) {t : Nat} {ty : Int32} (ht : t < 32) (hd : d < 32) (hft : ft d = nI t) (h3 : fp d = 3) (hty : fy d = ty) (hy0 : ¬ ty = 0) {u' : SX} (hw : ∀ post : SX → Prop, post u' → wpX_unwind post (cm, ct, nI n, cp, cf, xo, xi, xs, xh, nI (d + 1), pp, ac, tl, st, rs, ut, cr, fr, g, a, fs, tf, xot, xop, ft, fp, fy, tr) ty) (post : SX → Prop) (hp : post u') : wpX_finishBody post (cm, ct, nI n, cp, cf, xo, xi, xs, xh, nI (d + 1), pp, ac, tl, st, rs, ut, cr, fr, g, a, fs, tf, xot, xop, ft, fp, fy, tr) := by
  have b2 : vp_in (nI d) 32 := vp_in_nI hd (by omega)
  have b3 : (nI d).toNatClampNeg = d := nI_clamp (by omega)
  refine br_f (nI_ne0 (by omega) (by omega)) (nm_r (nI_pred d) (xo_o hn hT ht hd hft (r := -1) (Or.inl ⟨h3, rfl⟩) _ ⟨b2, br_f (by rw [b3, h3]; decide) (br_t rfl ⟨b2, br_t (by rw [b3]; exact h3) ⟨b2, br_f (by rw [b3, hty]; exact hy0) ⟨b2, ?_⟩⟩⟩)⟩))
  rw [b3, hty]
  exact hw _ hp
theorem yb_f (G : ow_G g a n) {t x : Nat} (h3 : g t = 3) (ht : t < n) (hx : x < n) (hd : d < 32) (hk : sk d = 1) (hso : so d = nI t) (hr : ow_L n (fun x => ow_O g t x ∧ g x = 5) (nI x)) (post : SY → Prop) (hp : post (cm, ct, nI n, cp, cf, st, rs, ut, tl, cr, fr + 1, nI (d + 1), nI (x + 1), ac, yr, g, a, tr, yp, sk, so, upd sh d 2, upd sy d 0)) : wpY_completeBody post (cm, ct, nI n, cp, cf, st, rs, ut, tl, cr, fr, nI (d + 1), pp, ac, yr, g, a, tr, yp, sk, so, sh, sy) := by
  have hn := G.1
  have b2 : vp_in (nI d) 64 := vp_in_nI (by omega) (by omega)
  have b3 : (nI d).toNatClampNeg = d := nI_clamp (by omega)
  have b0 : nI (d + 1) - 1 = nI d := nI_pred d
  refine br_f (nI_ne0 (by omega) (by omega)) ⟨by rw [b0]; exact b2, br_t (by rw [b0, b3]; exact hk) (nm_r b0 ⟨b2, ?_⟩)⟩
  rw [show so (nI d).toNatClampNeg = nI t by rw [b3]; exact hso]
  exact yc_w G h3 ht hr _ (br_f (nI_pos (by omega)) ⟨b2, nm_r (by rw [b3]) ⟨b2, nm_r (by rw [b3]) (nm_e (nm_r (nI_1 x) hp))⟩⟩)
theorem yb_e (G : ow_G g a n) {t x : Nat} (h3 : g t = 3) (ht : t < n) (hx : x < n) (hd : d < 32) (hk : sk d = 1) (hso : so d = nI t) (ho : ow_L n (fun x => ow_O g t x ∧ g x = 5) (-1)) (hr : ow_L n (fun x => ow_O g t x ∧ g x = 2) (nI x)) (post : SY → Prop) (hp : post (cm, ct, nI n, cp, cf, st, rs, ut, tl, cr, fr, nI d, nI (x + 1), ac, yr, g, a, tr, yp, sk, so, sh, sy)) : wpY_completeBody post (cm, ct, nI n, cp, cf, st, rs, ut, tl, cr, fr, nI (d + 1), pp, ac, yr, g, a, tr, yp, sk, so, sh, sy) := by
  have hn := G.1
  have b2 : vp_in (nI d) 64 := vp_in_nI (by omega) (by omega)
  have b3 : (nI d).toNatClampNeg = d := nI_clamp (by omega)
  have b0 : nI (d + 1) - 1 = nI d := nI_pred d
  refine br_f (nI_ne0 (by omega) (by omega)) ⟨by rw [b0]; exact b2, br_t (by rw [b0, b3]; exact hk) (nm_r b0 ⟨b2, ?_⟩)⟩
  rw [show so (nI d).toNatClampNeg = nI t by rw [b3]; exact hso]
  exact yc_w G h3 ht ho _ (br_t (by decide) ⟨b2, yc_w G h3 ht hr _ (nm_r b0 (nm_r (nI_1 x) hp))⟩)
theorem ye_c {t : Nat} (hd : d < 32) (hk : sk d = 0) (hso : so d = nI (t + 1)) (post : SY → Prop) (hp : post (cm, ct, nI n, cp, cf, st, rs, ut, tl, cr, fr, nI d, nI (t + 1), ac, yr, g, a, tr, yp, sk, so, sh, sy)) : wpY_endToken post (cm, ct, nI n, cp, cf, st, rs, ut, tl, cr, fr, nI (d + 1), pp, ac, yr, g, a, tr, yp, sk, so, sh, sy) := by
  have b2 : vp_in (nI d) 64 := vp_in_nI (by omega) (by omega)
  have b3 : (nI d).toNatClampNeg = d := nI_clamp (by omega)
  exact br_f (nI_ne0 (by omega) (by omega)) (nm_r (nI_pred d) ⟨b2, br_t (by rw [b3]; exact hk) ⟨b2, nm_r (by rw [b3]; exact hso) (nm_r (nI_pred d) hp)⟩⟩)
theorem ye_e (hd : d < 32) (hk : sk d = 1) (hz : sh d = 2 → sy d = 0) (post : SY → Prop) (hp : post (cm, ct, nI n, cp, cf, st, rs, ut, tl, cr, fr, nI d, nI (p + 1), ac, yr, g, a, tr, yp, sk, so, sh, sy)) : wpY_endToken post (cm, ct, nI n, cp, cf, st, rs, ut, tl, cr, fr, nI (d + 1), nI p, ac, yr, g, a, tr, yp, sk, so, sh, sy) := by
  have b2 : vp_in (nI d) 64 := vp_in_nI (by omega) (by omega)
  have b3 : (nI d).toNatClampNeg = d := nI_clamp (by omega)
  have k69 : wY_endToken_69 post 0 cm ct (nI n) cp cf st rs ut tl cr fr (nI (d + 1)) (nI p) ac yr g a tr yp sk so sh sy := nm_r (nI_pred d) (br_t (by decide) (nm_r (nI_1 p) hp))
  refine br_f (nI_ne0 (by omega) (by omega)) (nm_r (nI_pred d) ⟨b2, br_f (by rw [b3, hk]; decide) ⟨b2, ?_⟩⟩)
  by_cases e : sh d = 2
  · refine br_t (by rw [b3]; exact e) ⟨b2, ?_⟩
    rw [b3, hz e]; exact k69
  · exact br_f (by rw [b3]; exact e) k69
theorem ye_u {ty : Nat} (hd : d < 32) (hk : sk d = 1) (h2 : sh d = 2) (hty : sy d = nI ty) (h1 : 1 ≤ ty) (h15 : ty ≤ 15) {u' : SY} (hw : ∀ post : SY → Prop, post u' → wpY_raise post (cm, ct, nI n, cp, cf, st, rs, ut, tl, cr, fr, nI d, pp, ac, yr, g, a, tr, yp, sk, so, sh, sy) (nI ty)) (post : SY → Prop) (hp : post u') : wpY_endToken post (cm, ct, nI n, cp, cf, st, rs, ut, tl, cr, fr, nI (d + 1), pp, ac, yr, g, a, tr, yp, sk, so, sh, sy) := by
  have b2 : vp_in (nI d) 64 := vp_in_nI (by omega) (by omega)
  have b3 : (nI d).toNatClampNeg = d := nI_clamp (by omega)
  refine br_f (nI_ne0 (by omega) (by omega)) (nm_r (nI_pred d) ⟨b2, br_f (by rw [b3, hk]; decide) ⟨b2, br_t (by rw [b3]; exact h2) ⟨b2, ?_⟩⟩⟩)
  rw [b3, hty]
  exact nm_r (nI_pred d) (br_f (nI_nle (by omega) (by omega)) (hw _ hp))
end HM
