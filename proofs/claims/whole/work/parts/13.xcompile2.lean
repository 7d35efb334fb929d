section HX2
variable {g a fs tf xot xop ft fp fy tr : Nat → Int32} {n i hc : Nat} {cm ct cp cf xo xi xs xh dd pp ac tl st rs ut cr fr : Int32}
theorem xk_1 (hi : i < 32) (hin : hp_in g i = 1) (k : g i = 1) : ((hp_tk g a i ∧ ∃ (fs' tf' xot' xop' : Nat → Int32) (hc' : Nat), cx_I g a (i + 1) fs' tf' xot' xop' hc' ∧ ∀ post : Int32 → SX → Prop, post 1 (cm, ct, nI n, 0, 0, nI (hp_oc g (i + 1)), nI (hp_in g (i + 1)), nI (hp_fn g (i + 1)), nI hc', dd, pp, ac, tl, st, rs, ut, cr, fr, g, a, fs', tf', xot', xop', ft, fp, fy, tr) → wpX_acceptToken post (cm, ct, nI n, 0, 0, nI (hp_oc g i), nI (hp_in g i), nI (hp_fn g i), nI hc, dd, pp, ac, tl, st, rs, ut, cr, fr, g, a, fs, tf, xot, xop, ft, fp, fy, tr) (nI i)) ∨ (¬ hp_tk g a i ∧ ∀ post : Int32 → SX → Prop, post 0 (cm, ct, nI n, 0, 0, nI (hp_oc g i), nI (hp_in g i), nI (hp_fn g i), nI hc, dd, pp, ac, tl, st, rs, ut, cr, fr, g, a, fs, tf, xot, xop, ft, fp, fy, tr) → wpX_acceptToken post (cm, ct, nI n, 0, 0, nI (hp_oc g i), nI (hp_in g i), nI (hp_fn g i), nI hc, dd, pp, ac, tl, st, rs, ut, cr, fr, g, a, fs, tf, xot, xop, ft, fp, fy, tr) (nI i))) := by
  have b2 : vp_in (nI i) 32 := vp_in_nI (by omega) (by omega)
  have b3 : (nI i).toNatClampNeg = i := nI_clamp (by omega)
  have c0 : ¬ nI (hp_in g i) = 0 := by rw [hin]; decide
  have eg : g (nI i).toNatClampNeg = 1 := by rw [b3]; exact k
  exact Or.inr ⟨by simp [hp_tk, hin, k], fun post hp => br_f c0 ⟨b2, nm_r eg (br_t (by decide) hp)⟩⟩
theorem xk_2 (hi : i < 32) (K : ow_K g a i) (I : cx_I g a i fs tf xot xop hc) (hin : hp_in g i = 1) (k : g i = 2) : ((hp_tk g a i ∧ ∃ (fs' tf' xot' xop' : Nat → Int32) (hc' : Nat), cx_I g a (i + 1) fs' tf' xot' xop' hc' ∧ ∀ post : Int32 → SX → Prop, post 1 (cm, ct, nI n, 0, 0, nI (hp_oc g (i + 1)), nI (hp_in g (i + 1)), nI (hp_fn g (i + 1)), nI hc', dd, pp, ac, tl, st, rs, ut, cr, fr, g, a, fs', tf', xot', xop', ft, fp, fy, tr) → wpX_acceptToken post (cm, ct, nI n, 0, 0, nI (hp_oc g i), nI (hp_in g i), nI (hp_fn g i), nI hc, dd, pp, ac, tl, st, rs, ut, cr, fr, g, a, fs, tf, xot, xop, ft, fp, fy, tr) (nI i)) ∨ (¬ hp_tk g a i ∧ ∀ post : Int32 → SX → Prop, post 0 (cm, ct, nI n, 0, 0, nI (hp_oc g i), nI (hp_in g i), nI (hp_fn g i), nI hc, dd, pp, ac, tl, st, rs, ut, cr, fr, g, a, fs, tf, xot, xop, ft, fp, fy, tr) → wpX_acceptToken post (cm, ct, nI n, 0, 0, nI (hp_oc g i), nI (hp_in g i), nI (hp_fn g i), nI hc, dd, pp, ac, tl, st, rs, ut, cr, fr, g, a, fs, tf, xot, xop, ft, fp, fy, tr) (nI i))) := by
  obtain ⟨i1, i2, i3, i4, i5, i6, i7⟩ := I
  have b2 : vp_in (nI i) 32 := vp_in_nI (by omega) (by omega)
  have b3 : (nI i).toNatClampNeg = i := nI_clamp (by omega)
  have c0 : ¬ nI (hp_in g i) = 0 := by rw [hin]; decide
  have eg : g (nI i).toNatClampNeg = 2 := by rw [b3]; exact k
  have hol := hp_ocle (g := g) i
  rcases Nat.eq_zero_or_pos (hp_oc g i) with z | z
  · obtain ⟨e1, e2, e3, e4, e5⟩ := hp_s2a k z
    refine Or.inl ⟨by simp [hp_tk, hin, k, z], fs, tf, xot, xop, hc, ⟨by rw [e1]; exact fun l hl => absurd hl (Nat.not_lt_zero _), by rw [e1]; exact fun l hl => absurd hl (Nat.not_lt_zero _), cx_fs i3 (by rw [k]; decide), cx_Tn hi (fun t h => by have := h.2.1; omega) i4, i5, cx_Cn i6 (by rw [k]; decide), cx_ex i7⟩, fun post hp => ?_⟩
    rw [e1, e4, e5] at hp
    rw [z] 
    exact br_f c0 ⟨b2, nm_r eg (br_f (by decide) (br_f (by decide) (br_t rfl (br_t rfl ⟨hp_nb1, hp⟩))))⟩
  · obtain ⟨e1, e2, e3, e4, e5⟩ := hp_s2b k z
    obtain ⟨m, hm⟩ : ∃ m, hp_oc g i = m + 1 := ⟨hp_oc g i - 1, by omega⟩
    have c1 : ¬ nI (hp_oc g i) = 0 := nI_ne0 (by omega) (by omega)
    have c2 : nI (hp_oc g i) - 1 = nI m := by rw [hm]; exact nI_pred m
    have c3 : vp_in (nI m) 32 := vp_in_nI (by omega) (by omega)
    have c4 : (nI m).toNatClampNeg = m := nI_clamp (by omega)
    have hpm := i2 m (by omega)
    have hb := ((hp_H i K).2.2.2.2 m (by omega))
    have em : hp_oc g i - 1 = m := by omega
    by_cases e : hp_pt g i m = 1
    · refine Or.inr ⟨by simp [hp_tk, hin, k, em, e]; omega, fun post hp => br_f c0 ⟨b2, nm_r eg (br_f (by decide) (br_f (by decide) (br_t rfl (br_f c1 (nm_r c2 ⟨c3, br_t (by rw [c4, hpm, e]; rfl) ⟨hp_nb0, hp⟩⟩)))))⟩⟩
    · have hO : ow_O g (hp_ot g i m) i := ⟨Or.inl k, z, by rw [em]⟩
      refine Or.inl ⟨by simp [hp_tk, hin, k, em, e]; omega, fs, upd tf i (nI (hp_ot g i m)), xot, xop, hc, ⟨by rw [e1, e2]; exact fun l hl => i1 l (by omega), by rw [e1, e3]; exact fun l hl => i2 l (by omega), cx_fs i3 (by rw [k]; decide), cx_To hi (by have := hb.1; omega) hO i4, i5, cx_Cn i6 (by rw [k]; decide), cx_ex i7⟩, fun post hp => ?_⟩
      rw [e1, e4, e5, em] at hp
      have hb7 := hb.2.2.2.2.2.2.1
      exact br_f c0 ⟨b2, nm_r eg (br_f (by decide) (br_f (by decide) (br_t rfl (br_f c1 (nm_r c2 ⟨c3, br_f (by rw [c4, hpm]; exact fun h => e (hp_eq (b := 1) h (by omega) (by omega))) ⟨c3, b2, nm_r (by rw [b3, c4, i1 m (by omega)]) ⟨hp_nb1, hp⟩⟩⟩)))))⟩
theorem xk_3 (hi : i < 32) (I : cx_I g a i fs tf xot xop hc) (hin : hp_in g i = 1) (k : g i = 3) : ((hp_tk g a i ∧ ∃ (fs' tf' xot' xop' : Nat → Int32) (hc' : Nat), cx_I g a (i + 1) fs' tf' xot' xop' hc' ∧ ∀ post : Int32 → SX → Prop, post 1 (cm, ct, nI n, 0, 0, nI (hp_oc g (i + 1)), nI (hp_in g (i + 1)), nI (hp_fn g (i + 1)), nI hc', dd, pp, ac, tl, st, rs, ut, cr, fr, g, a, fs', tf', xot', xop', ft, fp, fy, tr) → wpX_acceptToken post (cm, ct, nI n, 0, 0, nI (hp_oc g i), nI (hp_in g i), nI (hp_fn g i), nI hc, dd, pp, ac, tl, st, rs, ut, cr, fr, g, a, fs, tf, xot, xop, ft, fp, fy, tr) (nI i)) ∨ (¬ hp_tk g a i ∧ ∀ post : Int32 → SX → Prop, post 0 (cm, ct, nI n, 0, 0, nI (hp_oc g i), nI (hp_in g i), nI (hp_fn g i), nI hc, dd, pp, ac, tl, st, rs, ut, cr, fr, g, a, fs, tf, xot, xop, ft, fp, fy, tr) → wpX_acceptToken post (cm, ct, nI n, 0, 0, nI (hp_oc g i), nI (hp_in g i), nI (hp_fn g i), nI hc, dd, pp, ac, tl, st, rs, ut, cr, fr, g, a, fs, tf, xot, xop, ft, fp, fy, tr) (nI i))) := by
  obtain ⟨i1, i2, i3, i4, i5, i6, i7⟩ := I
  have b2 : vp_in (nI i) 32 := vp_in_nI (by omega) (by omega)
  have b3 : (nI i).toNatClampNeg = i := nI_clamp (by omega)
  have c0 : ¬ nI (hp_in g i) = 0 := by rw [hin]; decide
  have eg : g (nI i).toNatClampNeg = 3 := by rw [b3]; exact k
  have hol := hp_ocle (g := g) i
  obtain ⟨e1, e2, e3, e4, e5⟩ := hp_s3 k
  have c3 : vp_in (nI (hp_oc g i)) 32 := vp_in_nI (by omega) (by omega)
  have c4 : (nI (hp_oc g i)).toNatClampNeg = hp_oc g i := nI_clamp (by omega)
  refine Or.inl ⟨by simp [hp_tk, hin, k], fs, tf, upd xot (hp_oc g i) (nI i), upd xop (hp_oc g i) 1, hc, ⟨?_, ?_, cx_fs i3 (by rw [k]; decide), cx_Tn hi (fun t => cx_no (by rw [k]; decide) (by rw [k]; decide) (by rw [k]; decide)) i4, i5, cx_Cn i6 (by rw [k]; decide), cx_ex i7⟩, fun post hp => ?_⟩
  · rw [e1, e2]
    intro l hl
    by_cases e : l = hp_oc g i
    · rw [e, hp_us, hp_uS]
    · rw [hp_un e, hp_uN e]; exact i1 l (by omega)
  · rw [e1, e3]
    intro l hl
    by_cases e : l = hp_oc g i
    · rw [e, hp_us, hp_uS]; rfl
    · rw [hp_un e, hp_uN e]; exact i2 l (by omega)
  · rw [e1, e4, e5] at hp
    exact br_f c0 ⟨b2, nm_r eg (br_f (by decide) (br_f (by decide) (br_f (by decide) (br_t rfl (br_t (nI_lt (b := 32) (by omega) (by decide)) ⟨c3, nm_r (by rw [c4]) ⟨c3, nm_r (by rw [c4]) (nm_r (nI_1 _) ⟨hp_nb1, hp⟩)⟩⟩)))))⟩
/-- acceptClause: the part q (2 or 3) begins, or not -/
theorem xk_cl (hi : i < 32) (K : ow_K g a i) (I : cx_I g a i fs tf xot xop hc) {q : Nat} (hq : (q = 2 ∧ g i = 4) ∨ (q = 3 ∧ g i = 5)) :
    ((0 < hp_oc g i ∧ hp_pt g i (hp_oc g i - 1) ≠ 3) ∧ ∃ (tf' xop' : Nat → Int32), cx_I g a (i + 1) fs tf' xot xop' hc ∧ ∀ post : Int32 → SX → Prop, post 1 (cm, ct, nI n, 0, 0, nI (hp_oc g i), nI (hp_in g i), nI (hp_fn g i), nI hc, dd, pp, ac, tl, st, rs, ut, cr, fr, g, a, fs, tf', xot, xop', ft, fp, fy, tr) → wpX_acceptClause post (cm, ct, nI n, 0, 0, nI (hp_oc g i), nI (hp_in g i), nI (hp_fn g i), nI hc, dd, pp, ac, tl, st, rs, ut, cr, fr, g, a, fs, tf, xot, xop, ft, fp, fy, tr) (nI i) (nI q)) ∨
    (¬ (0 < hp_oc g i ∧ hp_pt g i (hp_oc g i - 1) ≠ 3) ∧ ∀ post : Int32 → SX → Prop, post 0 (cm, ct, nI n, 0, 0, nI (hp_oc g i), nI (hp_in g i), nI (hp_fn g i), nI hc, dd, pp, ac, tl, st, rs, ut, cr, fr, g, a, fs, tf, xot, xop, ft, fp, fy, tr) → wpX_acceptClause post (cm, ct, nI n, 0, 0, nI (hp_oc g i), nI (hp_in g i), nI (hp_fn g i), nI hc, dd, pp, ac, tl, st, rs, ut, cr, fr, g, a, fs, tf, xot, xop, ft, fp, fy, tr) (nI i) (nI q)) := by
  obtain ⟨i1, i2, i3, i4, i5, i6, i7⟩ := I
  have b2 : vp_in (nI i) 32 := vp_in_nI (by omega) (by omega)
  have b3 : (nI i).toNatClampNeg = i := nI_clamp (by omega)
  have hol := hp_ocle (g := g) i
  rcases Nat.eq_zero_or_pos (hp_oc g i) with z | z
  · right
    rw [z]
    exact ⟨by omega, fun post hp => br_t rfl hp⟩
  · obtain ⟨m, hm⟩ : ∃ m, hp_oc g i = m + 1 := ⟨hp_oc g i - 1, by omega⟩
    have c1 : ¬ nI (hp_oc g i) = 0 := nI_ne0 (by omega) (by omega)
    have c2 : nI (hp_oc g i) - 1 = nI m := by rw [hm]; exact nI_pred m
    have c3 : vp_in (nI m) 32 := vp_in_nI (by omega) (by omega)
    have c4 : (nI m).toNatClampNeg = m := nI_clamp (by omega)
    have hpm := i2 m (by omega)
    have hb := ((hp_H i K).2.2.2.2 m (by omega))
    have hb1 := hb.1
    have hb7 := hb.2.2.2.2.2.2.1
    have em : hp_oc g i - 1 = m := by omega
    by_cases e : hp_pt g i m = 3
    · right
      exact ⟨by rw [em]; exact fun h => h.2 e, fun post hp => br_f c1 (nm_r c2 ⟨c3, br_t (by rw [c4, hpm, e]; rfl) hp⟩)⟩
    · left
      have hg : g i = 4 ∨ g i = 5 := by rcases hq with h | h; exact Or.inl h.2; exact Or.inr h.2
      have hO : ow_O g (hp_ot g i m) i := ⟨Or.inr hg, z, by rw [em]⟩
      have es : hp_oc g (i + 1) = hp_oc g i ∧ hp_ot g (i + 1) = hp_ot g i ∧ hp_pt g (i + 1) = hp_u (hp_pt g i) m q := by
        rcases hq with ⟨rfl, k⟩ | ⟨rfl, k⟩
        · obtain ⟨e1, e2, e3, -⟩ := hp_s4 k
          rw [em] at e3; exact ⟨e1, e2, e3⟩
        · obtain ⟨e1, e2, e3, -⟩ := hp_s5 k
          rw [em] at e3; exact ⟨e1, e2, e3⟩
      obtain ⟨e1, e2, e3⟩ := es
      have k1 : g i ≠ 1 := by rcases hg with h | h <;> rw [h] <;> decide
      have k11 : g i ≠ 11 := by rcases hg with h | h <;> rw [h] <;> decide
      refine ⟨⟨z, by rw [em]; exact e⟩, upd tf i (nI (hp_ot g i m)), upd xop m (nI q), ⟨by rw [e1, e2]; exact i1, ?_, cx_fs i3 k1, cx_To hi (by omega) hO i4, i5, cx_Cn i6 k11, cx_ex i7⟩, fun post hp => ?_⟩
      · rw [e1, e3]
        intro l hl
        by_cases el : l = m
        · rw [el, hp_us, hp_uS]
        · rw [hp_un el, hp_uN el]; exact i2 l hl
      · exact br_f c1 (nm_r c2 ⟨c3, br_f (by rw [c4, hpm]; exact fun h => e (hp_eq (b := 3) h (by omega) (by omega))) ⟨c3, nm_r (by rw [c4]) ⟨c3, b2, nm_r (by rw [b3, c4, i1 m (by omega)]) hp⟩⟩⟩)
theorem xk_4 (hi : i < 32) (K : ow_K g a i) (I : cx_I g a i fs tf xot xop hc) (hin : hp_in g i = 1) (k : g i = 4) : ((hp_tk g a i ∧ ∃ (fs' tf' xot' xop' : Nat → Int32) (hc' : Nat), cx_I g a (i + 1) fs' tf' xot' xop' hc' ∧ ∀ post : Int32 → SX → Prop, post 1 (cm, ct, nI n, 0, 0, nI (hp_oc g (i + 1)), nI (hp_in g (i + 1)), nI (hp_fn g (i + 1)), nI hc', dd, pp, ac, tl, st, rs, ut, cr, fr, g, a, fs', tf', xot', xop', ft, fp, fy, tr) → wpX_acceptToken post (cm, ct, nI n, 0, 0, nI (hp_oc g i), nI (hp_in g i), nI (hp_fn g i), nI hc, dd, pp, ac, tl, st, rs, ut, cr, fr, g, a, fs, tf, xot, xop, ft, fp, fy, tr) (nI i)) ∨ (¬ hp_tk g a i ∧ ∀ post : Int32 → SX → Prop, post 0 (cm, ct, nI n, 0, 0, nI (hp_oc g i), nI (hp_in g i), nI (hp_fn g i), nI hc, dd, pp, ac, tl, st, rs, ut, cr, fr, g, a, fs, tf, xot, xop, ft, fp, fy, tr) → wpX_acceptToken post (cm, ct, nI n, 0, 0, nI (hp_oc g i), nI (hp_in g i), nI (hp_fn g i), nI hc, dd, pp, ac, tl, st, rs, ut, cr, fr, g, a, fs, tf, xot, xop, ft, fp, fy, tr) (nI i))) := by
  have b2 : vp_in (nI i) 32 := vp_in_nI (by omega) (by omega)
  have b3 : (nI i).toNatClampNeg = i := nI_clamp (by omega)
  have c0 : ¬ nI (hp_in g i) = 0 := by rw [hin]; decide
  have eg : g (nI i).toNatClampNeg = 4 := by rw [b3]; exact k
  obtain ⟨e1, e2, e3, e4, e5⟩ := hp_s4 k
  by_cases a1 : a i < 0
  · refine Or.inr ⟨fun h => ?_, fun post hp => br_f c0 ⟨b2, nm_r eg (br_f (by decide) (br_f (by decide) (br_f (by decide) (br_f (by decide) (br_t rfl ⟨b2, br_t (by rw [b3]; exact a1) hp⟩)))))⟩⟩
    simp [hp_tk, hin, k] at h
    obtain ⟨-, -, t, t2, t3⟩ := h
    rw [t3] at a1
    exact nI_pos (by omega) a1
  by_cases a2 : 15 < a i
  · refine Or.inr ⟨fun h => ?_, fun post hp => br_f c0 ⟨b2, nm_r eg (br_f (by decide) (br_f (by decide) (br_f (by decide) (br_f (by decide) (br_t rfl ⟨b2, br_f (by rw [b3]; exact a1) ⟨b2, br_t (by rw [b3]; exact a2) hp⟩⟩)))))⟩⟩
    simp [hp_tk, hin, k] at h
    obtain ⟨-, -, t, t2, t3⟩ := h
    rw [t3] at a2
    exact hp_15 t2 a2
  rcases xk_cl (cm := cm) (ct := ct) (dd := dd) (pp := pp) (ac := ac) (tl := tl) (st := st) (rs := rs) (ut := ut) (cr := cr) (fr := fr) (ft := ft) (fp := fp) (fy := fy) (tr := tr) hi K I (q := 2) (Or.inl ⟨rfl, k⟩) with ⟨q1, tf', xop', q2, q3⟩ | ⟨q1, q2⟩
  · refine Or.inl ⟨?_, fs, tf', xot, xop', hc, q2, fun post hp => ?_⟩
    · simp [hp_tk, hin, k]; exact ⟨q1.1, q1.2, hp_r0 a1 a2⟩
    · rw [e1, e4, e5] at hp
      exact br_f c0 ⟨b2, nm_r eg (br_f (by decide) (br_f (by decide) (br_f (by decide) (br_f (by decide) (br_t rfl ⟨b2, br_f (by rw [b3]; exact a1) ⟨b2, br_f (by rw [b3]; exact a2) (q3 _ (br_f (by decide) hp))⟩⟩)))))⟩
  · refine Or.inr ⟨fun h => ?_, fun post hp => br_f c0 ⟨b2, nm_r eg (br_f (by decide) (br_f (by decide) (br_f (by decide) (br_f (by decide) (br_t rfl ⟨b2, br_f (by rw [b3]; exact a1) ⟨b2, br_f (by rw [b3]; exact a2) (q2 _ (br_t rfl hp))⟩⟩)))))⟩⟩
    simp [hp_tk, hin, k] at h
    exact q1 ⟨h.1, h.2.1⟩
theorem xk_5 (hi : i < 32) (K : ow_K g a i) (I : cx_I g a i fs tf xot xop hc) (hin : hp_in g i = 1) (k : g i = 5) : ((hp_tk g a i ∧ ∃ (fs' tf' xot' xop' : Nat → Int32) (hc' : Nat), cx_I g a (i + 1) fs' tf' xot' xop' hc' ∧ ∀ post : Int32 → SX → Prop, post 1 (cm, ct, nI n, 0, 0, nI (hp_oc g (i + 1)), nI (hp_in g (i + 1)), nI (hp_fn g (i + 1)), nI hc', dd, pp, ac, tl, st, rs, ut, cr, fr, g, a, fs', tf', xot', xop', ft, fp, fy, tr) → wpX_acceptToken post (cm, ct, nI n, 0, 0, nI (hp_oc g i), nI (hp_in g i), nI (hp_fn g i), nI hc, dd, pp, ac, tl, st, rs, ut, cr, fr, g, a, fs, tf, xot, xop, ft, fp, fy, tr) (nI i)) ∨ (¬ hp_tk g a i ∧ ∀ post : Int32 → SX → Prop, post 0 (cm, ct, nI n, 0, 0, nI (hp_oc g i), nI (hp_in g i), nI (hp_fn g i), nI hc, dd, pp, ac, tl, st, rs, ut, cr, fr, g, a, fs, tf, xot, xop, ft, fp, fy, tr) → wpX_acceptToken post (cm, ct, nI n, 0, 0, nI (hp_oc g i), nI (hp_in g i), nI (hp_fn g i), nI hc, dd, pp, ac, tl, st, rs, ut, cr, fr, g, a, fs, tf, xot, xop, ft, fp, fy, tr) (nI i))) := by
  have b2 : vp_in (nI i) 32 := vp_in_nI (by omega) (by omega)
  have b3 : (nI i).toNatClampNeg = i := nI_clamp (by omega)
  have c0 : ¬ nI (hp_in g i) = 0 := by rw [hin]; decide
  have eg : g (nI i).toNatClampNeg = 5 := by rw [b3]; exact k
  obtain ⟨e1, e2, e3, e4, e5⟩ := hp_s5 k
  rcases xk_cl (cm := cm) (ct := ct) (dd := dd) (pp := pp) (ac := ac) (tl := tl) (st := st) (rs := rs) (ut := ut) (cr := cr) (fr := fr) (ft := ft) (fp := fp) (fy := fy) (tr := tr) hi K I (q := 3) (Or.inr ⟨rfl, k⟩) with ⟨q1, tf', xop', q2, q3⟩ | ⟨q1, q2⟩
  · refine Or.inl ⟨?_, fs, tf', xot, xop', hc, q2, fun post hp => ?_⟩
    · simp [hp_tk, hin, k]; exact ⟨q1.1, q1.2⟩
    · rw [e1, e4, e5] at hp
      exact br_f c0 ⟨b2, nm_r eg (br_f (by decide) (br_f (by decide) (br_f (by decide) (br_f (by decide) (br_f (by decide) (br_t rfl (q3 _ ⟨hp_nb1, hp⟩)))))))⟩
  · refine Or.inr ⟨fun h => ?_, fun post hp => br_f c0 ⟨b2, nm_r eg (br_f (by decide) (br_f (by decide) (br_f (by decide) (br_f (by decide) (br_f (by decide) (br_t rfl (q2 _ ⟨hp_nb0, hp⟩)))))))⟩⟩
    simp [hp_tk, hin, k] at h
    exact q1 ⟨h.1, h.2⟩
theorem xk_11 (hi : i < 32) (K : ow_K g a i) (I : cx_I g a i fs tf xot xop hc) (hin : hp_in g i = 1) (k : g i = 11) : ((hp_tk g a i ∧ ∃ (fs' tf' xot' xop' : Nat → Int32) (hc' : Nat), cx_I g a (i + 1) fs' tf' xot' xop' hc' ∧ ∀ post : Int32 → SX → Prop, post 1 (cm, ct, nI n, 0, 0, nI (hp_oc g (i + 1)), nI (hp_in g (i + 1)), nI (hp_fn g (i + 1)), nI hc', dd, pp, ac, tl, st, rs, ut, cr, fr, g, a, fs', tf', xot', xop', ft, fp, fy, tr) → wpX_acceptToken post (cm, ct, nI n, 0, 0, nI (hp_oc g i), nI (hp_in g i), nI (hp_fn g i), nI hc, dd, pp, ac, tl, st, rs, ut, cr, fr, g, a, fs, tf, xot, xop, ft, fp, fy, tr) (nI i)) ∨ (¬ hp_tk g a i ∧ ∀ post : Int32 → SX → Prop, post 0 (cm, ct, nI n, 0, 0, nI (hp_oc g i), nI (hp_in g i), nI (hp_fn g i), nI hc, dd, pp, ac, tl, st, rs, ut, cr, fr, g, a, fs, tf, xot, xop, ft, fp, fy, tr) → wpX_acceptToken post (cm, ct, nI n, 0, 0, nI (hp_oc g i), nI (hp_in g i), nI (hp_fn g i), nI hc, dd, pp, ac, tl, st, rs, ut, cr, fr, g, a, fs, tf, xot, xop, ft, fp, fy, tr) (nI i))) := by
  obtain ⟨i1, i2, i3, i4, i5, i6, i7⟩ := I
  have b2 : vp_in (nI i) 32 := vp_in_nI (by omega) (by omega)
  have b3 : (nI i).toNatClampNeg = i := nI_clamp (by omega)
  have c0 : ¬ nI (hp_in g i) = 0 := by rw [hin]; decide
  have eg : g (nI i).toNatClampNeg = 11 := by rw [b3]; exact k
  have f4 := (hp_H i K).2.1
  obtain ⟨e1, e2, e3, e4, e5⟩ := hp_s6 (g := g) (i := i) (by unfold hp_pl; simp [k])
  by_cases a1 : a i < nI (hp_fn g i)
  · refine Or.inr ⟨fun h => ?_, fun post hp => br_f c0 ⟨b2, nm_r eg (br_f (by decide) (br_f (by decide) (br_f (by decide) (br_f (by decide) (br_f (by decide) (br_f (by decide) (br_f (by decide) (br_f (by decide) (br_f (by decide) (br_f (by decide) (br_f (by decide) (br_t rfl ⟨b2, br_t (by rw [b3]; exact a1) ⟨hp_nb0, hp⟩⟩))))))))))))⟩⟩
    simp [hp_tk, hin, k] at h
    obtain ⟨f, t1, t2, t3⟩ := h
    rw [t3] at a1
    exact nI_nlt t1 (by omega) a1
  by_cases a2 : a i < 4
  · obtain ⟨f, t1, t2, t3⟩ := hp_r3 (by omega) a1 a2
    have tk : hp_tk g a i := by simp [hp_tk, hin, k]; exact ⟨f, t1, t2, t3⟩
    have nO : ∀ t, ¬ ow_O g t i := fun t => cx_no (by rw [k]; decide) (by rw [k]; decide) (by rw [k]; decide)
    rcases Nat.lt_or_ge hc f with z | z
    · refine Or.inl ⟨tk, fs, tf, xot, xop, f, ⟨by rw [e1, e2]; exact i1, by rw [e1, e3]; exact i2, cx_fs i3 (by rw [k]; decide), cx_Tn hi nO i4, t2, fun j hj hg f' hf' e => ?_, Or.inr ⟨i, by omega, k, t3⟩⟩, fun post hp => ?_⟩
      · by_cases ej : j = i
        · rw [ej, t3] at e
          have := hp_eq e (by omega) (by omega)
          omega
        · have := i6 j (by omega) hg f' hf' e
          omega
      · rw [e1, e4, e5] at hp
        refine br_f c0 ⟨b2, nm_r eg (br_f (by decide) (br_f (by decide) (br_f (by decide) (br_f (by decide) (br_f (by decide) (br_f (by decide) (br_f (by decide) (br_f (by decide) (br_f (by decide) (br_f (by decide) (br_f (by decide) (br_t rfl ⟨b2, ?_⟩))))))))))))⟩
        rw [b3, t3]
        rw [t3] at a1 a2
        exact br_f a1 (br_t a2 (br_f (nI_ge z (by omega)) ⟨hp_nb1, hp⟩))
    · refine Or.inl ⟨tk, fs, tf, xot, xop, hc, ⟨by rw [e1, e2]; exact i1, by rw [e1, e3]; exact i2, cx_fs i3 (by rw [k]; decide), cx_Tn hi nO i4, i5, fun j hj hg f' hf' e => ?_, cx_ex i7⟩, fun post hp => ?_⟩
      · by_cases ej : j = i
        · rw [ej, t3] at e
          have := hp_eq e (by omega) (by omega)
          omega
        · exact i6 j (by omega) hg f' hf' e
      · rw [e1, e4, e5] at hp
        refine br_f c0 ⟨b2, nm_r eg (br_f (by decide) (br_f (by decide) (br_f (by decide) (br_f (by decide) (br_f (by decide) (br_f (by decide) (br_f (by decide) (br_f (by decide) (br_f (by decide) (br_f (by decide) (br_f (by decide) (br_t rfl ⟨b2, ?_⟩))))))))))))⟩
        rw [b3, t3]
        rw [t3] at a1 a2
        exact br_f a1 (br_t a2 (br_t (nI_le z (by omega)) ⟨hp_nb1, hp⟩))
  · refine Or.inr ⟨fun h => ?_, fun post hp => br_f c0 ⟨b2, nm_r eg (br_f (by decide) (br_f (by decide) (br_f (by decide) (br_f (by decide) (br_f (by decide) (br_f (by decide) (br_f (by decide) (br_f (by decide) (br_f (by decide) (br_f (by decide) (br_f (by decide) (br_t rfl ⟨b2, br_f (by rw [b3]; exact a1) (br_f (by rw [b3]; exact a2) ⟨hp_nb0, hp⟩)⟩))))))))))))⟩⟩
    simp [hp_tk, hin, k] at h
    obtain ⟨f, t1, t2, t3⟩ := h
    rw [t3] at a2
    exact a2 (nI_lt (b := 4) (by omega) (by decide))
theorem xk_all (hi : i < 32) (K : ow_K g a i) (I : cx_I g a i fs tf xot xop hc) (hk : ck_k (g i)) : ((hp_tk g a i ∧ ∃ (fs' tf' xot' xop' : Nat → Int32) (hc' : Nat), cx_I g a (i + 1) fs' tf' xot' xop' hc' ∧ ∀ post : Int32 → SX → Prop, post 1 (cm, ct, nI n, 0, 0, nI (hp_oc g (i + 1)), nI (hp_in g (i + 1)), nI (hp_fn g (i + 1)), nI hc', dd, pp, ac, tl, st, rs, ut, cr, fr, g, a, fs', tf', xot', xop', ft, fp, fy, tr) → wpX_acceptToken post (cm, ct, nI n, 0, 0, nI (hp_oc g i), nI (hp_in g i), nI (hp_fn g i), nI hc, dd, pp, ac, tl, st, rs, ut, cr, fr, g, a, fs, tf, xot, xop, ft, fp, fy, tr) (nI i)) ∨ (¬ hp_tk g a i ∧ ∀ post : Int32 → SX → Prop, post 0 (cm, ct, nI n, 0, 0, nI (hp_oc g i), nI (hp_in g i), nI (hp_fn g i), nI hc, dd, pp, ac, tl, st, rs, ut, cr, fr, g, a, fs, tf, xot, xop, ft, fp, fy, tr) → wpX_acceptToken post (cm, ct, nI n, 0, 0, nI (hp_oc g i), nI (hp_in g i), nI (hp_fn g i), nI hc, dd, pp, ac, tl, st, rs, ut, cr, fr, g, a, fs, tf, xot, xop, ft, fp, fy, tr) (nI i))) := by
  rcases hp_in01 (g := g) i with hin | hin
  · exact xk_0 hi K I hin
  · rcases hk with k | k | k | k | k | k | k | k | k | k | k
    · exact xk_1 hi hin k
    · exact xk_2 hi K I hin k
    · exact xk_3 hi I hin k
    · exact xk_4 hi K I hin k
    · exact xk_5 hi K I hin k
    · exact xk_pl hi I hin (Or.inl k) K
    · exact xk_pl hi I hin (Or.inr (Or.inl k)) K
    · exact xk_pl hi I hin (Or.inr (Or.inr (Or.inl k))) K
    · exact xk_pl hi I hin (Or.inr (Or.inr (Or.inr (Or.inl k)))) K
    · exact xk_pl hi I hin (Or.inr (Or.inr (Or.inr (Or.inr k)))) K
    · exact xk_11 hi K I hin k
end HX2
