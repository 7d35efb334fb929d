section HYC2
variable {g a tr yp sk so sh sy : Nat → Int32} {n i : Nat} {cm ct cp cf dd pp ac tl st rs ut cr fr yr mc : Int32}
theorem yk_1 (hn : n ≤ 32) (hi : i < n) (hin : hp_in g i = 1) (k : g i = 1) : ((hp_tk g a i ∧ ∃ (yp' : Nat → Int32) (mc' : Int32), cy_I g a (i + 1) yp' mc' ∧ ∀ (f : Nat) (post : Int32 → SY → Prop), wY_compile_26 post cm ct (nI n) 0 0 st rs ut tl cr fr dd pp ac yr f (nI (hp_fn g (i + 1))) (nI (hp_in g (i + 1))) (nI (hp_oc g (i + 1))) mc' (nI (i + 1)) g a tr yp' sk so sh sy → wY_compile_26 post cm ct (nI n) 0 0 st rs ut tl cr fr dd pp ac yr (f + 1) (nI (hp_fn g i)) (nI (hp_in g i)) (nI (hp_oc g i)) mc (nI i) g a tr yp sk so sh sy) ∨ (¬ hp_tk g a i ∧ ∀ (f : Nat) (post : Int32 → SY → Prop), post (nI i) (cm, ct, nI n, 0, 0, st, rs, ut, tl, cr, fr, dd, pp, ac, yr, g, a, tr, yp, sk, so, sh, sy) → wY_compile_26 post cm ct (nI n) 0 0 st rs ut tl cr fr dd pp ac yr (f + 1) (nI (hp_fn g i)) (nI (hp_in g i)) (nI (hp_oc g i)) mc (nI i) g a tr yp sk so sh sy)) := by
  have b1 : ¬ nI n ≤ nI i := nI_ge hi (by omega)
  have b2 : vp_in (nI i) 32 := vp_in_nI (by omega) (by omega)
  have b3 : (nI i).toNatClampNeg = i := nI_clamp (by omega)
  have c0 : ¬ nI (hp_in g i) = 0 := by rw [hin]; decide
  have ea : a (nI i).toNatClampNeg = a i := by rw [b3]
  have eg : g (nI i).toNatClampNeg = 1 := by rw [b3]; exact k
  exact Or.inr ⟨by simp [hp_tk, hin, k], fun f post hp => br_f b1 ⟨b2, nm_r eg ⟨b2, nm_r ea (br_f c0 (br_t rfl (br_t rfl hp)))⟩⟩⟩
theorem yk_2 (hn : n ≤ 32) (hi : i < n) (K : ow_K g a i) (I : cy_I g a i yp mc) (hin : hp_in g i = 1) (k : g i = 2) : ((hp_tk g a i ∧ ∃ (yp' : Nat → Int32) (mc' : Int32), cy_I g a (i + 1) yp' mc' ∧ ∀ (f : Nat) (post : Int32 → SY → Prop), wY_compile_26 post cm ct (nI n) 0 0 st rs ut tl cr fr dd pp ac yr f (nI (hp_fn g (i + 1))) (nI (hp_in g (i + 1))) (nI (hp_oc g (i + 1))) mc' (nI (i + 1)) g a tr yp' sk so sh sy → wY_compile_26 post cm ct (nI n) 0 0 st rs ut tl cr fr dd pp ac yr (f + 1) (nI (hp_fn g i)) (nI (hp_in g i)) (nI (hp_oc g i)) mc (nI i) g a tr yp sk so sh sy) ∨ (¬ hp_tk g a i ∧ ∀ (f : Nat) (post : Int32 → SY → Prop), post (nI i) (cm, ct, nI n, 0, 0, st, rs, ut, tl, cr, fr, dd, pp, ac, yr, g, a, tr, yp, sk, so, sh, sy) → wY_compile_26 post cm ct (nI n) 0 0 st rs ut tl cr fr dd pp ac yr (f + 1) (nI (hp_fn g i)) (nI (hp_in g i)) (nI (hp_oc g i)) mc (nI i) g a tr yp sk so sh sy)) := by
  obtain ⟨i1, i2⟩ := I
  have b1 : ¬ nI n ≤ nI i := nI_ge hi (by omega)
  have b2 : vp_in (nI i) 32 := vp_in_nI (by omega) (by omega)
  have b3 : (nI i).toNatClampNeg = i := nI_clamp (by omega)
  have c0 : ¬ nI (hp_in g i) = 0 := by rw [hin]; decide
  have ea : a (nI i).toNatClampNeg = a i := by rw [b3]
  have eg : g (nI i).toNatClampNeg = 2 := by rw [b3]; exact k
  have hol := hp_ocle (g := g) i
  rcases Nat.eq_zero_or_pos (hp_oc g i) with z | z
  · obtain ⟨e1, e2, e3, e4, e5⟩ := hp_s2a k z
    refine Or.inl ⟨by simp [hp_tk, hin, k, z], yp, mc, ⟨by rw [e1]; exact fun l hl => absurd hl (Nat.not_lt_zero _), cy_Mn i2 (by rw [k]; decide)⟩, fun f post hp => ?_⟩
    rw [e1, e4, e5] at hp
    rw [z]
    exact br_f b1 ⟨b2, nm_r eg ⟨b2, nm_r ea (br_f c0 (br_f (by decide) (br_t rfl (br_t rfl (br_f (by decide) (nm_r (nI_1 i) hp))))))⟩⟩
  · obtain ⟨e1, e2, e3, e4, e5⟩ := hp_s2b k z
    obtain ⟨m, hm⟩ : ∃ m, hp_oc g i = m + 1 := ⟨hp_oc g i - 1, by omega⟩
    have c1 : ¬ nI (hp_oc g i) = 0 := nI_ne0 (by omega) (by omega)
    have c2 : nI (hp_oc g i) - 1 = nI m := by rw [hm]; exact nI_pred m
    have c5 : nI (hp_oc g i) + (-1) = nI m := by rw [hm]; exact hp_m1 m
    have c3 : vp_in (nI (hp_oc g i) - 1) 32 := by rw [c2]; exact vp_in_nI (by omega) (by omega)
    have c4 : (nI (hp_oc g i) - 1).toNatClampNeg = m := by rw [c2]; exact nI_clamp (by omega)
    have hpm := i1 m (by omega)
    have hb := ((hp_H i K).2.2.2.2 m (by omega))
    have em : hp_oc g i - 1 = m := by omega
    by_cases e : hp_pt g i m = 1
    · exact Or.inr ⟨by simp [hp_tk, hin, k, em, e]; omega, fun f post hp => br_f b1 ⟨b2, nm_r eg ⟨b2, nm_r ea (br_f c0 (br_f (by decide) (br_t rfl (br_f c1 ⟨c3, br_t (by rw [c4, hpm, e]; rfl) (br_t rfl hp)⟩))))⟩⟩⟩
    · have h6 := hb.2.2.2.2.2.1
      have h7 := hb.2.2.2.2.2.2.1
      refine Or.inl ⟨by simp [hp_tk, hin, k, em, e]; omega, yp, mc, ⟨by rw [e1, e3]; exact fun l hl => i1 l (by omega), cy_Mn i2 (by rw [k]; decide)⟩, fun f post hp => ?_⟩
      rw [e1, e4, e5, em] at hp
      exact br_f b1 ⟨b2, nm_r eg ⟨b2, nm_r ea (br_f c0 (br_f (by decide) (br_t rfl (br_f c1 ⟨c3, br_f (by rw [c4, hpm]; exact nI_ne0 (by omega) (by omega)) (nm_r c5 (br_f (by decide) (nm_r (nI_1 i) hp)))⟩))))⟩⟩
theorem yk_3 (hn : n ≤ 32) (hi : i < n) (I : cy_I g a i yp mc) (hin : hp_in g i = 1) (k : g i = 3) : ((hp_tk g a i ∧ ∃ (yp' : Nat → Int32) (mc' : Int32), cy_I g a (i + 1) yp' mc' ∧ ∀ (f : Nat) (post : Int32 → SY → Prop), wY_compile_26 post cm ct (nI n) 0 0 st rs ut tl cr fr dd pp ac yr f (nI (hp_fn g (i + 1))) (nI (hp_in g (i + 1))) (nI (hp_oc g (i + 1))) mc' (nI (i + 1)) g a tr yp' sk so sh sy → wY_compile_26 post cm ct (nI n) 0 0 st rs ut tl cr fr dd pp ac yr (f + 1) (nI (hp_fn g i)) (nI (hp_in g i)) (nI (hp_oc g i)) mc (nI i) g a tr yp sk so sh sy) ∨ (¬ hp_tk g a i ∧ ∀ (f : Nat) (post : Int32 → SY → Prop), post (nI i) (cm, ct, nI n, 0, 0, st, rs, ut, tl, cr, fr, dd, pp, ac, yr, g, a, tr, yp, sk, so, sh, sy) → wY_compile_26 post cm ct (nI n) 0 0 st rs ut tl cr fr dd pp ac yr (f + 1) (nI (hp_fn g i)) (nI (hp_in g i)) (nI (hp_oc g i)) mc (nI i) g a tr yp sk so sh sy)) := by
  obtain ⟨i1, i2⟩ := I
  have b1 : ¬ nI n ≤ nI i := nI_ge hi (by omega)
  have b2 : vp_in (nI i) 32 := vp_in_nI (by omega) (by omega)
  have b3 : (nI i).toNatClampNeg = i := nI_clamp (by omega)
  have c0 : ¬ nI (hp_in g i) = 0 := by rw [hin]; decide
  have ea : a (nI i).toNatClampNeg = a i := by rw [b3]
  have eg : g (nI i).toNatClampNeg = 3 := by rw [b3]; exact k
  have hol := hp_ocle (g := g) i
  obtain ⟨e1, e2, e3, e4, e5⟩ := hp_s3 k
  have c3 : vp_in (nI (hp_oc g i)) 32 := vp_in_nI (by omega) (by omega)
  have c4 : (nI (hp_oc g i)).toNatClampNeg = hp_oc g i := nI_clamp (by omega)
  refine Or.inl ⟨by simp [hp_tk, hin, k], upd yp (hp_oc g i) 0, mc, ⟨?_, cy_Mn i2 (by rw [k]; decide)⟩, fun f post hp => ?_⟩
  · rw [e1, e3]
    intro l hl
    by_cases e : l = hp_oc g i
    · rw [e, hp_us, hp_uS]; rfl
    · rw [hp_un e, hp_uN e]; exact i1 l (by omega)
  · rw [e1, e4, e5] at hp
    exact br_f b1 ⟨b2, nm_r eg ⟨b2, nm_r ea (br_f c0 (br_f (by decide) (br_f (by decide) (br_t rfl (br_t (nI_lt (b := 32) (by omega) (by decide)) ⟨c3, nm_r (by rw [c4]) (nm_r (nI_1 _) (br_f (by decide) (nm_r (nI_1 i) hp)))⟩)))))⟩⟩
theorem yk_45 (hn : n ≤ 32) (hi : i < n) (K : ow_K g a i) (I : cy_I g a i yp mc) (hin : hp_in g i = 1) (k : g i = 4 ∨ g i = 5) : ((hp_tk g a i ∧ ∃ (yp' : Nat → Int32) (mc' : Int32), cy_I g a (i + 1) yp' mc' ∧ ∀ (f : Nat) (post : Int32 → SY → Prop), wY_compile_26 post cm ct (nI n) 0 0 st rs ut tl cr fr dd pp ac yr f (nI (hp_fn g (i + 1))) (nI (hp_in g (i + 1))) (nI (hp_oc g (i + 1))) mc' (nI (i + 1)) g a tr yp' sk so sh sy → wY_compile_26 post cm ct (nI n) 0 0 st rs ut tl cr fr dd pp ac yr (f + 1) (nI (hp_fn g i)) (nI (hp_in g i)) (nI (hp_oc g i)) mc (nI i) g a tr yp sk so sh sy) ∨ (¬ hp_tk g a i ∧ ∀ (f : Nat) (post : Int32 → SY → Prop), post (nI i) (cm, ct, nI n, 0, 0, st, rs, ut, tl, cr, fr, dd, pp, ac, yr, g, a, tr, yp, sk, so, sh, sy) → wY_compile_26 post cm ct (nI n) 0 0 st rs ut tl cr fr dd pp ac yr (f + 1) (nI (hp_fn g i)) (nI (hp_in g i)) (nI (hp_oc g i)) mc (nI i) g a tr yp sk so sh sy)) := by
  obtain ⟨i1, i2⟩ := I
  have b1 : ¬ nI n ≤ nI i := nI_ge hi (by omega)
  have b2 : vp_in (nI i) 32 := vp_in_nI (by omega) (by omega)
  have b3 : (nI i).toNatClampNeg = i := nI_clamp (by omega)
  have c0 : ¬ nI (hp_in g i) = 0 := by rw [hin]; decide
  have ea : a (nI i).toNatClampNeg = a i := by rw [b3]
  have hol := hp_ocle (g := g) i
  rcases Nat.eq_zero_or_pos (hp_oc g i) with z | z
  · rcases k with k | k
    · have eg : g (nI i).toNatClampNeg = 4 := by rw [b3]; exact k
      refine Or.inr ⟨by simp [hp_tk, hin, k, z], fun f post hp => ?_⟩
      rw [z]
      exact br_f b1 ⟨b2, nm_r eg ⟨b2, nm_r ea (br_f c0 (br_f (by decide) (br_f (by decide) (br_f (by decide) (br_t rfl (br_t rfl (br_t rfl hp)))))))⟩⟩
    · have eg : g (nI i).toNatClampNeg = 5 := by rw [b3]; exact k
      refine Or.inr ⟨by simp [hp_tk, hin, k, z], fun f post hp => ?_⟩
      rw [z]
      exact br_f b1 ⟨b2, nm_r eg ⟨b2, nm_r ea (br_f c0 (br_f (by decide) (br_f (by decide) (br_f (by decide) (br_f (by decide) (br_t rfl (br_t rfl (br_t rfl hp))))))))⟩⟩
  · obtain ⟨m, hm⟩ : ∃ m, hp_oc g i = m + 1 := ⟨hp_oc g i - 1, by omega⟩
    have c1 : ¬ nI (hp_oc g i) = 0 := nI_ne0 (by omega) (by omega)
    have c2 : nI (hp_oc g i) - 1 = nI m := by rw [hm]; exact nI_pred m
    have c3 : vp_in (nI (hp_oc g i) - 1) 32 := by rw [c2]; exact vp_in_nI (by omega) (by omega)
    have c4 : (nI (hp_oc g i) - 1).toNatClampNeg = m := by rw [c2]; exact nI_clamp (by omega)
    have hpm := i1 m (by omega)
    have hb := ((hp_H i K).2.2.2.2 m (by omega))
    have h6 := hb.2.2.2.2.2.1
    have h7 := hb.2.2.2.2.2.2.1
    have em : hp_oc g i - 1 = m := by omega
    by_cases e : hp_pt g i m = 3
    · rcases k with k | k
      · have eg : g (nI i).toNatClampNeg = 4 := by rw [b3]; exact k
        exact Or.inr ⟨by simp [hp_tk, hin, k, em, e], fun f post hp => br_f b1 ⟨b2, nm_r eg ⟨b2, nm_r ea (br_f c0 (br_f (by decide) (br_f (by decide) (br_f (by decide) (br_t rfl (br_f c1 ⟨c3, br_t (by rw [c4, hpm, e]; rfl) (br_t rfl hp)⟩))))))⟩⟩⟩
      · have eg : g (nI i).toNatClampNeg = 5 := by rw [b3]; exact k
        exact Or.inr ⟨by simp [hp_tk, hin, k, em, e], fun f post hp => br_f b1 ⟨b2, nm_r eg ⟨b2, nm_r ea (br_f c0 (br_f (by decide) (br_f (by decide) (br_f (by decide) (br_f (by decide) (br_t rfl (br_f c1 ⟨c3, br_t (by rw [c4, hpm, e]; rfl) (br_t rfl hp)⟩)))))))⟩⟩⟩
    · have n2 : ¬ yp (nI (hp_oc g i) - 1).toNatClampNeg = 2 := by
        rw [c4, hpm]
        exact fun h => by have := hp_eq (b := 2) h (by omega) (by omega); omega
      have upI : ∀ q, hp_oc g (i + 1) = hp_oc g i → hp_pt g (i + 1) = hp_u (hp_pt g i) m q → ∀ l, l < hp_oc g (i + 1) → upd yp m (nI (q - 1)) l = nI (hp_pt g (i + 1) l - 1) := fun q h1 h2 l hl => by
        rw [h1] at hl
        rw [h2]
        by_cases el : l = m
        · rw [el, hp_us, hp_uS]
        · rw [hp_un el, hp_uN el]; exact i1 l hl
      rcases k with k | k
      · have eg : g (nI i).toNatClampNeg = 4 := by rw [b3]; exact k
        obtain ⟨e1, e2, e3, e4, e5⟩ := hp_s4 k
        by_cases a1 : a i < 0
        · refine Or.inr ⟨fun h => ?_, fun f post hp => br_f b1 ⟨b2, nm_r eg ⟨b2, nm_r ea (br_f c0 (br_f (by decide) (br_f (by decide) (br_f (by decide) (br_t rfl (br_f c1 ⟨c3, br_f n2 (br_t a1 (br_t rfl hp))⟩))))))⟩⟩⟩
          simp [hp_tk, hin, k] at h
          obtain ⟨-, -, t, t2, t3⟩ := h
          rw [t3] at a1
          exact nI_pos (by omega) a1
        by_cases a2 : 15 < a i
        · refine Or.inr ⟨fun h => ?_, fun f post hp => br_f b1 ⟨b2, nm_r eg ⟨b2, nm_r ea (br_f c0 (br_f (by decide) (br_f (by decide) (br_f (by decide) (br_t rfl (br_f c1 ⟨c3, br_f n2 (br_f a1 (br_f (Int32.not_le.mpr a2) (br_t rfl hp)))⟩))))))⟩⟩⟩
          simp [hp_tk, hin, k] at h
          obtain ⟨-, -, t, t2, t3⟩ := h
          rw [t3] at a2
          exact hp_15 t2 a2
        refine Or.inl ⟨?_, upd yp m 1, mc, ⟨upI 2 e1 (by rw [e3, em]), cy_Mn i2 (by rw [k]; decide)⟩, fun f post hp => ?_⟩
        · simp [hp_tk, hin, k, em]; exact ⟨z, e, hp_r0 a1 a2⟩
        · rw [e1, e4, e5] at hp
          exact br_f b1 ⟨b2, nm_r eg ⟨b2, nm_r ea (br_f c0 (br_f (by decide) (br_f (by decide) (br_f (by decide) (br_t rfl (br_f c1 ⟨c3, br_f n2 (br_f a1 (br_t (Int32.not_lt.mp a2) ⟨c3, nm_r (by rw [c4]) (br_f (by decide) (nm_r (nI_1 i) hp))⟩))⟩))))))⟩⟩
      · have eg : g (nI i).toNatClampNeg = 5 := by rw [b3]; exact k
        obtain ⟨e1, e2, e3, e4, e5⟩ := hp_s5 k
        refine Or.inl ⟨?_, upd yp m 2, mc, ⟨upI 3 e1 (by rw [e3, em]), cy_Mn i2 (by rw [k]; decide)⟩, fun f post hp => ?_⟩
        · simp [hp_tk, hin, k, em]; exact ⟨z, e⟩
        · rw [e1, e4, e5] at hp
          exact br_f b1 ⟨b2, nm_r eg ⟨b2, nm_r ea (br_f c0 (br_f (by decide) (br_f (by decide) (br_f (by decide) (br_f (by decide) (br_t rfl (br_f c1 ⟨c3, br_f n2 ⟨c3, nm_r (by rw [c4]) (br_f (by decide) (nm_r (nI_1 i) hp))⟩⟩)))))))⟩⟩
theorem hp_r3y {x : Int32} {m : Nat} (hm : m < 2 ^ 31) (h1 : ¬ x ≤ nI m) (h2 : x ≤ 3) : ∃ f : Nat, m + 1 ≤ f ∧ f ≤ 3 ∧ x = nI f := by
  have h0 : ¬ x < nI m := fun h => h1 (Int32.le_of_lt h)
  obtain ⟨f, f1, f2, f3⟩ := hp_rng (lo := m) (hi := 3) (L := nI m) (M := 3) (nI_toInt hm) (by decide) h0 h2
  refine ⟨f, ?_, f2, f3⟩
  by_cases e : m = f
  · rw [f3, e] at h1; exact absurd (nI_le (Nat.le_refl _) (by omega)) h1
  · omega
theorem yk_11 (hn : n ≤ 32) (hi : i < n) (K : ow_K g a i) (I : cy_I g a i yp mc) (hin : hp_in g i = 1) (k : g i = 11) : ((hp_tk g a i ∧ ∃ (yp' : Nat → Int32) (mc' : Int32), cy_I g a (i + 1) yp' mc' ∧ ∀ (f : Nat) (post : Int32 → SY → Prop), wY_compile_26 post cm ct (nI n) 0 0 st rs ut tl cr fr dd pp ac yr f (nI (hp_fn g (i + 1))) (nI (hp_in g (i + 1))) (nI (hp_oc g (i + 1))) mc' (nI (i + 1)) g a tr yp' sk so sh sy → wY_compile_26 post cm ct (nI n) 0 0 st rs ut tl cr fr dd pp ac yr (f + 1) (nI (hp_fn g i)) (nI (hp_in g i)) (nI (hp_oc g i)) mc (nI i) g a tr yp sk so sh sy) ∨ (¬ hp_tk g a i ∧ ∀ (f : Nat) (post : Int32 → SY → Prop), post (nI i) (cm, ct, nI n, 0, 0, st, rs, ut, tl, cr, fr, dd, pp, ac, yr, g, a, tr, yp, sk, so, sh, sy) → wY_compile_26 post cm ct (nI n) 0 0 st rs ut tl cr fr dd pp ac yr (f + 1) (nI (hp_fn g i)) (nI (hp_in g i)) (nI (hp_oc g i)) mc (nI i) g a tr yp sk so sh sy)) := by
  obtain ⟨i1, i2⟩ := I
  have b1 : ¬ nI n ≤ nI i := nI_ge hi (by omega)
  have b2 : vp_in (nI i) 32 := vp_in_nI (by omega) (by omega)
  have b3 : (nI i).toNatClampNeg = i := nI_clamp (by omega)
  have c0 : ¬ nI (hp_in g i) = 0 := by rw [hin]; decide
  have ea : a (nI i).toNatClampNeg = a i := by rw [b3]
  have eg : g (nI i).toNatClampNeg = 11 := by rw [b3]; exact k
  have f4 := (hp_H i K).2.1
  have i0 : 0 < i := by
    rcases Nat.eq_zero_or_pos i with z | z
    · subst z; simp [hp_in] at hin
    · exact z
  have f0 := (hp_H i K).2.2.2.1 i0
  obtain ⟨m, hm⟩ : ∃ m, hp_fn g i = m + 1 := ⟨hp_fn g i - 1, by omega⟩
  have c2 : nI (hp_fn g i) - 1 = nI m := by rw [hm]; exact nI_pred m
  obtain ⟨e1, e2, e3, e4, e5⟩ := hp_s6 (g := g) (i := i) (by unfold hp_pl; simp [k])
  by_cases a1 : a i ≤ nI m
  · refine Or.inr ⟨fun h => ?_, fun f post hp => br_f b1 ⟨b2, nm_r eg ⟨b2, nm_r ea (br_f c0 (br_f (by decide) (br_f (by decide) (br_f (by decide) (br_f (by decide) (br_f (by decide) (br_f (by decide) (br_f (by decide) (br_f (by decide) (br_t rfl (br_t (by rw [c2]; exact a1) (br_t rfl hp))))))))))))⟩⟩⟩
    simp [hp_tk, hin, k] at h
    obtain ⟨f, t1, t2, t3⟩ := h
    rw [t3] at a1
    have := (nI_leI (by omega) (by omega)).mp a1
    omega
  by_cases a2 : a i ≤ 3
  · obtain ⟨f, t1, t2, t3⟩ := hp_r3y (by omega) a1 a2
    have tk : hp_tk g a i := by simp [hp_tk, hin, k]; exact ⟨f, by omega, t2, t3⟩
    have a1' : ¬ a i ≤ nI (hp_fn g i) - 1 := by rw [c2]; exact a1
    by_cases a3 : a i ≤ mc
    · refine Or.inl ⟨tk, yp, mc, ⟨by rw [e1, e3]; exact i1, ?_⟩, fun f post hp => ?_⟩
      · rcases i2 with ⟨h1, h2⟩ | ⟨c, d1, d2, d3, j, j1, j2⟩
        · rw [h1, t3] at a3
          exact absurd (Int32.not_lt.mpr a3) (fun h => h (by
            rw [Int32.lt_iff_toInt_lt, nI_toInt (by omega), show (-1 : Int32).toInt = -1 by decide]; omega))
        · refine Or.inr ⟨c, d1, d2, fun j hj hg f' hf' e => ?_, j, by omega, j2⟩
          by_cases ej : j = i
          · rw [ej, t3] at e
            have := hp_eq e (by omega) (by omega)
            rw [d2, t3] at a3
            have := (nI_leI (by omega) (by omega)).mp a3
            omega
          · exact d3 j (by omega) hg f' hf' e
      · rw [e1, e4, e5] at hp
        exact br_f b1 ⟨b2, nm_r eg ⟨b2, nm_r ea (br_f c0 (br_f (by decide) (br_f (by decide) (br_f (by decide) (br_f (by decide) (br_f (by decide) (br_f (by decide) (br_f (by decide) (br_f (by decide) (br_t rfl (br_f a1' (br_t a2 (br_t a3 (br_f (by decide) (nm_r (nI_1 i) hp)))))))))))))))⟩⟩
    · refine Or.inl ⟨tk, yp, a i, ⟨by rw [e1, e3]; exact i1, Or.inr ⟨f, t2, t3, fun j hj hg f' hf' e => ?_, i, by omega, k, t3⟩⟩, fun f post hp => ?_⟩
      · by_cases ej : j = i
        · rw [ej, t3] at e
          have := hp_eq e (by omega) (by omega)
          omega
        · rcases i2 with ⟨h1, h2⟩ | ⟨c, d1, d2, d3, -⟩
          · exact absurd hg (h2 j (by omega))
          · have := d3 j (by omega) hg f' hf' e
            rw [d2, t3] at a3
            have h9 : ¬ f ≤ c := fun h => a3 (nI_le h (by omega))
            omega
      · rw [e1, e4, e5] at hp
        exact br_f b1 ⟨b2, nm_r eg ⟨b2, nm_r ea (br_f c0 (br_f (by decide) (br_f (by decide) (br_f (by decide) (br_f (by decide) (br_f (by decide) (br_f (by decide) (br_f (by decide) (br_f (by decide) (br_t rfl (br_f a1' (br_t a2 (br_f a3 (br_f (by decide) (nm_r (nI_1 i) hp)))))))))))))))⟩⟩
  · refine Or.inr ⟨fun h => ?_, fun f post hp => br_f b1 ⟨b2, nm_r eg ⟨b2, nm_r ea (br_f c0 (br_f (by decide) (br_f (by decide) (br_f (by decide) (br_f (by decide) (br_f (by decide) (br_f (by decide) (br_f (by decide) (br_f (by decide) (br_t rfl (br_f (by rw [c2]; exact a1) (br_f a2 (br_t rfl hp)))))))))))))⟩⟩⟩
    simp [hp_tk, hin, k] at h
    obtain ⟨f, t1, t2, t3⟩ := h
    rw [t3] at a2
    exact a2 (nI_le (b := 3) t2 (by decide))
theorem yk_all (hn : n ≤ 32) (hi : i < n) (K : ow_K g a i) (I : cy_I g a i yp mc) (hk : ck_k (g i)) : ((hp_tk g a i ∧ ∃ (yp' : Nat → Int32) (mc' : Int32), cy_I g a (i + 1) yp' mc' ∧ ∀ (f : Nat) (post : Int32 → SY → Prop), wY_compile_26 post cm ct (nI n) 0 0 st rs ut tl cr fr dd pp ac yr f (nI (hp_fn g (i + 1))) (nI (hp_in g (i + 1))) (nI (hp_oc g (i + 1))) mc' (nI (i + 1)) g a tr yp' sk so sh sy → wY_compile_26 post cm ct (nI n) 0 0 st rs ut tl cr fr dd pp ac yr (f + 1) (nI (hp_fn g i)) (nI (hp_in g i)) (nI (hp_oc g i)) mc (nI i) g a tr yp sk so sh sy) ∨ (¬ hp_tk g a i ∧ ∀ (f : Nat) (post : Int32 → SY → Prop), post (nI i) (cm, ct, nI n, 0, 0, st, rs, ut, tl, cr, fr, dd, pp, ac, yr, g, a, tr, yp, sk, so, sh, sy) → wY_compile_26 post cm ct (nI n) 0 0 st rs ut tl cr fr dd pp ac yr (f + 1) (nI (hp_fn g i)) (nI (hp_in g i)) (nI (hp_oc g i)) mc (nI i) g a tr yp sk so sh sy)) := by
  rcases hp_in01 (g := g) i with hin | hin
  · exact yk_0 hn hi K I hin
  · rcases hk with k | k | k | k | k | k | k | k | k | k | k
    · exact yk_1 hn hi hin k
    · exact yk_2 hn hi K I hin k
    · exact yk_3 hn hi I hin k
    · exact yk_45 hn hi K I hin (Or.inl k)
    · exact yk_45 hn hi K I hin (Or.inr k)
    · exact yk_pl hn hi K I hin (Or.inl k)
    · exact yk_pl hn hi K I hin (Or.inr (Or.inl k))
    · exact yk_pl hn hi K I hin (Or.inr (Or.inr (Or.inl k)))
    · exact yk_pl hn hi K I hin (Or.inr (Or.inr (Or.inr (Or.inl k))))
    · exact yk_pl hn hi K I hin (Or.inr (Or.inr (Or.inr (Or.inr k))))
    · exact yk_11 hn hi K I hin k
theorem cy_wh (hn : n ≤ 32) (K : ow_K g a n) (I : cy_I g a n yp mc) : ow_G g a n ↔ (0 < n ∧ hp_in g n = 0 ∧ mc < nI (hp_fn g n)) := by
  obtain ⟨i1, i2⟩ := I
  have H := hp_H n K
  constructor
  · intro G
    refine ⟨G.2.2.2.1, G.2.2.1, ?_⟩
    rcases i2 with ⟨h1, h2⟩ | ⟨c, d1, d2, d3, j, j1, j2, j3⟩
    · rw [h1, Int32.lt_iff_toInt_lt, nI_toInt (by omega), show (-1 : Int32).toInt = -1 by decide]; omega
    · obtain ⟨f, f1, f2, f3⟩ := G.2.2.2.2 j j1 j2
      rw [j3] at f3
      have := hp_eq f3 (by omega) (by have := H.2.1; omega)
      rw [d2]
      exact nI_lt (by omega) (by omega)
  · intro ⟨h1, h2, h3⟩
    refine ⟨hn, K, h2, h1, fun j hj hg => ?_⟩
    have tk := K j hj
    rcases tk with ⟨t1, t2, -⟩ | ⟨t0, t⟩
    · rw [hg] at t2; exact absurd t2 (by decide)
    · simp [hg] at t
      obtain ⟨f, f1, f2, f3⟩ := t
      rcases i2 with ⟨q1, q2⟩ | ⟨c, d1, d2, d3, -⟩
      · exact absurd hg (q2 j hj)
      · have := d3 j hj hg f f2 f3
        rw [d2] at h3
        have := (nI_ltI (by omega) (by omega)).mp h3
        exact ⟨f, f1, by omega, f3⟩
theorem yk_loop (hn : n ≤ 32) (hk : ∀ j, j < n → ck_k (g j)) (post : Int32 → SY → Prop)
    (ha : ∀ (e : Nat) (yp : Nat → Int32), e < n → ow_K g a e → ¬ hp_tk g a e → post (nI e) (cm, ct, nI n, 0, 0, st, rs, ut, tl, cr, fr, dd, pp, ac, yr, g, a, tr, yp, sk, so, sh, sy))
    (hb : ∀ (yp : Nat → Int32), ow_K g a n → ¬ ow_G g a n → post (nI n) (cm, ct, nI n, 0, 0, st, rs, ut, tl, cr, fr, dd, pp, ac, yr, g, a, tr, yp, sk, so, sh, sy))
    (hcc : ∀ (yp : Nat → Int32), ow_G g a n → post (-1) (cm, ct, nI n, 1, nI (hp_fn g n), st, rs, ut, tl, cr, fr, dd, pp, ac, yr, g, a, tr, yp, sk, so, sh, sy)) :
    ∀ (m i f : Nat) (yp : Nat → Int32) (mc : Int32), i + m = n → m < f → ow_K g a i → cy_I g a i yp mc → wY_compile_26 post cm ct (nI n) 0 0 st rs ut tl cr fr dd pp ac yr f (nI (hp_fn g i)) (nI (hp_in g i)) (nI (hp_oc g i)) mc (nI i) g a tr yp sk so sh sy := by
  intro m
  induction m with
  | zero =>
    intro i f yp mc hi hf K I
    obtain ⟨f, rfl⟩ : ∃ f', f = f' + 1 := ⟨f - 1, by omega⟩
    have : i = n := by omega
    subst this
    have wh := cy_wh hn K I
    refine br_t (nI_le (Nat.le_refl _) (by omega)) ?_
    rcases Nat.eq_zero_or_pos i with z | z
    · exact br_t (hp_z0 z) (hb yp K fun G => by have := wh.mp G; omega)
    · refine br_f (nI_ne0 z (by omega)) ?_
      rcases hp_in01 (g := g) i with hin | hin
      · refine br_t (by rw [hin]; rfl) (br_c (fun h => hcc yp (wh.mpr ⟨z, hin, h⟩)) (fun h => hb yp K fun G => h (wh.mp G).2.2))
      · exact br_f (by rw [hin]; decide) (hb yp K fun G => by have := wh.mp G; omega)
  | succ m ih =>
    intro i f yp mc hi hf K I
    obtain ⟨f, rfl⟩ : ∃ f', f = f' + 1 := ⟨f - 1, by omega⟩
    rcases yk_all (cm := cm) (ct := ct) (dd := dd) (pp := pp) (ac := ac) (tl := tl) (st := st) (rs := rs) (ut := ut) (cr := cr) (fr := fr) (yr := yr) (tr := tr) (sk := sk) (so := so) (sh := sh) (sy := sy) hn (by omega) K I (hk i (by omega)) with ⟨tk, yp', mc', I', w⟩ | ⟨ntk, w⟩
    · refine w f post (ih (i + 1) f yp' mc' (by omega) (by omega) (fun j hj => ?_) I')
      by_cases e : j = i
      · rw [e]; exact tk
      · exact K j (by omega)
    · exact w f post (ha i yp (by omega) K ntk)
theorem yk_w (hn : n ≤ 32) (hk : ∀ j, j < n → ck_k (g j)) (post : Int32 → SY → Prop)
    (ha : ∀ (e : Nat) (yp : Nat → Int32), e < n → ow_K g a e → ¬ hp_tk g a e → post (nI e) (cm, ct, nI n, 0, 0, 0, 0, 0, 0, 0, 0, dd, pp, ac, yr, g, a, tr, yp, sk, so, sh, sy))
    (hb : ∀ (yp : Nat → Int32), ow_K g a n → ¬ ow_G g a n → post (nI n) (cm, ct, nI n, 0, 0, 0, 0, 0, 0, 0, 0, dd, pp, ac, yr, g, a, tr, yp, sk, so, sh, sy))
    (hcc : ∀ (yp : Nat → Int32), ow_G g a n → post (-1) (cm, ct, nI n, 1, nI (hp_fn g n), 0, 0, 0, 0, 0, 0, dd, pp, ac, yr, g, a, tr, yp, sk, so, sh, sy)) : wpY_compile post (cm, ct, nI n, cp, cf, st, rs, ut, tl, cr, fr, dd, pp, ac, yr, g, a, tr, yp, sk, so, sh, sy) := by
  unfold wpY_compile wpY_clearResults
  dsimp only
  refine ⟨n + 1, ?_⟩
  have := yk_loop (cm := cm) (ct := ct) (dd := dd) (pp := pp) (ac := ac) (tl := 0) (st := 0) (rs := 0) (ut := 0) (cr := 0) (fr := 0) (yr := yr) (tr := tr) (sk := sk) (so := so) (sh := sh) (sy := sy) hn hk post ha hb hcc n 0 (n + 1) yp (-1) (by omega) (by omega) (fun j hj => absurd hj (Nat.not_lt_zero _)) ⟨fun l hl => absurd hl (Nat.not_lt_zero _), Or.inl ⟨rfl, fun j hj => absurd hj (Nat.not_lt_zero _)⟩⟩
  exact this
end HYC2
