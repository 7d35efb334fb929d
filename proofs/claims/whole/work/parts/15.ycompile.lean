section HYC
variable {g a tr yp sk so sh sy : Nat → Int32} {n i : Nat} {cm ct cp cf dd pp ac tl st rs ut cr fr yr mc : Int32}
/-! R: the reference's compile -/
def cy_M (g a : Nat → Int32) (i : Nat) (mc : Int32) : Prop := (mc = -1 ∧ ∀ j, j < i → g j ≠ 11) ∨ (∃ c : Nat, c ≤ 3 ∧ mc = nI c ∧ cx_C g a i c ∧ ∃ j, j < i ∧ g j = 11 ∧ a j = nI c)
def cy_I (g a : Nat → Int32) (i : Nat) (yp : Nat → Int32) (mc : Int32) : Prop := (∀ l, l < hp_oc g i → yp l = nI (hp_pt g i l - 1)) ∧ cy_M g a i mc
theorem cy_Mn (h : cy_M g a i mc) (k : g i ≠ 11) : cy_M g a (i + 1) mc := by
  rcases h with ⟨h1, h2⟩ | ⟨c, c1, c2, c3, j, j1, j2⟩
  · refine Or.inl ⟨h1, fun j hj => ?_⟩
    by_cases e : j = i
    · rw [e]; exact k
    · exact h2 j (by omega)
  · exact Or.inr ⟨c, c1, c2, cx_Cn c3 k, j, by omega, j2⟩
theorem yk_0 (hn : n ≤ 32) (hi : i < n) (K : ow_K g a i) (I : cy_I g a i yp mc) (hin : hp_in g i = 0) : ((hp_tk g a i ∧ ∃ (yp' : Nat → Int32) (mc' : Int32), cy_I g a (i + 1) yp' mc' ∧ ∀ (f : Nat) (post : Int32 → SY → Prop), wY_compile_26 post cm ct (nI n) 0 0 st rs ut tl cr fr dd pp ac yr f (nI (hp_fn g (i + 1))) (nI (hp_in g (i + 1))) (nI (hp_oc g (i + 1))) mc' (nI (i + 1)) g a tr yp' sk so sh sy → wY_compile_26 post cm ct (nI n) 0 0 st rs ut tl cr fr dd pp ac yr (f + 1) (nI (hp_fn g i)) (nI (hp_in g i)) (nI (hp_oc g i)) mc (nI i) g a tr yp sk so sh sy) ∨ (¬ hp_tk g a i ∧ ∀ (f : Nat) (post : Int32 → SY → Prop), post (nI i) (cm, ct, nI n, 0, 0, st, rs, ut, tl, cr, fr, dd, pp, ac, yr, g, a, tr, yp, sk, so, sh, sy) → wY_compile_26 post cm ct (nI n) 0 0 st rs ut tl cr fr dd pp ac yr (f + 1) (nI (hp_fn g i)) (nI (hp_in g i)) (nI (hp_oc g i)) mc (nI i) g a tr yp sk so sh sy)) := by
  obtain ⟨i1, i2⟩ := I
  have b1 : ¬ nI n ≤ nI i := nI_ge hi (by omega)
  have b2 : vp_in (nI i) 32 := vp_in_nI (by omega) (by omega)
  have b3 : (nI i).toNatClampNeg = i := nI_clamp (by omega)
  have c0 : nI (hp_in g i) = 0 := by rw [hin]; rfl
  have oc0 := (hp_H i K).1 hin
  have f4 := (hp_H i K).2.1
  by_cases k : g i = 1
  · have eg : g (nI i).toNatClampNeg = 1 := by rw [b3]; exact k
    by_cases f : hp_fn g i < 4
    · obtain ⟨e1, e2, e3, e4, e5⟩ := hp_s1 k
      refine Or.inl ⟨Or.inl ⟨hin, k, f⟩, yp, mc, ⟨by rw [e1, oc0]; exact fun l hl => absurd hl (Nat.not_lt_zero _), cy_Mn i2 (by rw [k]; decide)⟩, fun f' post hp => ?_⟩
      rw [e1, e4, e5] at hp
      exact br_f b1 ⟨b2, nm_r eg ⟨b2, nm_e (br_t c0 (br_t rfl (br_f (nI_ge (b := 4) f (by decide)) (nm_r (nI_1 _) (br_f (by decide) (nm_r (nI_1 i) hp))))))⟩⟩
    · refine Or.inr ⟨fun h => ?_, fun f' post hp => br_f b1 ⟨b2, nm_r eg ⟨b2, nm_e (br_t c0 (br_t rfl (br_t (nI_le (a := 4) (by omega) (by omega)) (br_t rfl hp))))⟩⟩⟩
      rcases h with h | h
      · exact f h.2.2
      · rw [hin] at h; exact absurd h.1 (by decide)
  · refine Or.inr ⟨fun h => ?_, fun f' post hp => br_f b1 ⟨b2, nm_r (congrArg g b3) ⟨b2, nm_e (br_t c0 (br_f k (br_t rfl hp)))⟩⟩⟩
    rcases h with h | h
    · exact k h.2.1
    · rw [hin] at h; exact absurd h.1 (by decide)
theorem yk_304 {J : Int32 → Int32 → Int32 → Int32 → Int32 → (Nat → Int32) → (Nat → Int32) → (Nat → Int32) → (Nat → Int32) → (Nat → Int32) → (Nat → Int32) → (Nat → Int32) → (Nat → Int32) → Prop} {x1 x2 x4 x5 : Int32} (hoc : hp_oc g i ≤ 32) (hyp : ∀ l, l < hp_oc g i → yp l = nI (hp_pt g i l - 1)) (hb : ∀ l, l < hp_oc g i → 1 ≤ hp_pt g i l ∧ hp_pt g i l ≤ 3) (post : Int32 → SY → Prop)
    (h : ∀ b : Int32, ((b = 1 ∧ ∃ l, l < hp_oc g i ∧ hp_pt g i l = 2) ∨ (b = 0 ∧ ∀ l, l < hp_oc g i → hp_pt g i l ≠ 2)) → wY_compile_375 post J x1 x2 (nI (hp_oc g i)) x4 x5 b cm ct (nI n) cp cf st rs ut tl cr fr dd pp ac yr g a tr yp sk so sh sy) :
    ∀ (f l : Nat) (b : Int32), l ≤ hp_oc g i → hp_oc g i - l < f → ((b = 1 ∧ ∃ m, m < l ∧ hp_pt g i m = 2) ∨ (b = 0 ∧ ∀ m, m < l → hp_pt g i m ≠ 2)) → wY_compile_304 post J x1 x2 (nI (hp_oc g i)) x4 x5 cm ct (nI n) cp cf st rs ut tl cr fr dd pp ac yr g a tr yp sk so sh sy f b (nI l) := by
  intro f
  induction f with
  | zero => intro l b _ h; omega
  | succ f ih =>
  intro l b hl hf hx
  rcases Nat.lt_or_ge l (hp_oc g i) with z | z
  · have b1 : ¬ nI (hp_oc g i) ≤ nI l := nI_ge z (by omega)
    have b2 : vp_in (nI l) 32 := vp_in_nI (by omega) (by omega)
    have b3 : (nI l).toNatClampNeg = l := nI_clamp (by omega)
    have hb1 := hb l z
    have z2 : hp_oc g i - (l + 1) < f := by clear hx; omega
    by_cases e : hp_pt g i l = 2
    · exact br_f b1 ⟨b2, br_t (by rw [b3, hyp l z, e]; rfl) (nm_r (nI_1 l) (ih (l + 1) 1 z z2 (Or.inl ⟨rfl, l, by omega, e⟩)))⟩
    · refine br_f b1 ⟨b2, br_f (by rw [b3, hyp l z]; exact fun h => by have := hp_eq (b := 1) h (by omega) (by omega); omega) (nm_r (nI_1 l) (ih (l + 1) b z z2 ?_))⟩
      rcases hx with ⟨h1, m, m1, m2⟩ | ⟨h1, h2⟩
      · exact Or.inl ⟨h1, m, by omega, m2⟩
      · refine Or.inr ⟨h1, fun m hm => ?_⟩
        by_cases em : m = l
        · rw [em]; exact e
        · exact h2 m (by omega)
  · have : l = hp_oc g i := by omega
    subst this
    exact br_t (nI_le (Nat.le_refl _) (by omega)) (h b hx)
theorem yk_pl (hn : n ≤ 32) (hi : i < n) (K : ow_K g a i) (I : cy_I g a i yp mc) (hin : hp_in g i = 1) (k : g i = 6 ∨ g i = 7 ∨ g i = 8 ∨ g i = 9 ∨ g i = 10) : ((hp_tk g a i ∧ ∃ (yp' : Nat → Int32) (mc' : Int32), cy_I g a (i + 1) yp' mc' ∧ ∀ (f : Nat) (post : Int32 → SY → Prop), wY_compile_26 post cm ct (nI n) 0 0 st rs ut tl cr fr dd pp ac yr f (nI (hp_fn g (i + 1))) (nI (hp_in g (i + 1))) (nI (hp_oc g (i + 1))) mc' (nI (i + 1)) g a tr yp' sk so sh sy → wY_compile_26 post cm ct (nI n) 0 0 st rs ut tl cr fr dd pp ac yr (f + 1) (nI (hp_fn g i)) (nI (hp_in g i)) (nI (hp_oc g i)) mc (nI i) g a tr yp sk so sh sy) ∨ (¬ hp_tk g a i ∧ ∀ (f : Nat) (post : Int32 → SY → Prop), post (nI i) (cm, ct, nI n, 0, 0, st, rs, ut, tl, cr, fr, dd, pp, ac, yr, g, a, tr, yp, sk, so, sh, sy) → wY_compile_26 post cm ct (nI n) 0 0 st rs ut tl cr fr dd pp ac yr (f + 1) (nI (hp_fn g i)) (nI (hp_in g i)) (nI (hp_oc g i)) mc (nI i) g a tr yp sk so sh sy)) := by
  obtain ⟨i1, i2⟩ := I
  have b1 : ¬ nI n ≤ nI i := nI_ge hi (by omega)
  have b2 : vp_in (nI i) 32 := vp_in_nI (by omega) (by omega)
  have b3 : (nI i).toNatClampNeg = i := nI_clamp (by omega)
  have c0 : ¬ nI (hp_in g i) = 0 := by rw [hin]; decide
  have ea : a (nI i).toNatClampNeg = a i := by rw [b3]
  obtain ⟨e1, e2, e3, e4, e5⟩ := hp_s6 (g := g) (i := i) (by unfold hp_pl; rcases k with k | k | k | k | k <;> simp [k])
  have I1 : cy_I g a (i + 1) yp mc := ⟨by rw [e1, e3]; exact i1, cy_Mn i2 (by rcases k with k | k | k | k | k <;> rw [k] <;> decide)⟩
  rcases k with k | k | k | k | k
  · have eg : g (nI i).toNatClampNeg = 6 := by rw [b3]; exact k
    refine Or.inl ⟨by simp [hp_tk, hin, k], yp, mc, I1, fun f post hp => ?_⟩
    rw [e1, e4, e5] at hp
    exact br_f b1 ⟨b2, nm_r eg ⟨b2, nm_r ea (br_f c0 (br_f (by decide) (br_f (by decide) (br_f (by decide) (br_f (by decide) (br_f (by decide) (br_f (by decide) (br_f (by decide) (br_f (by decide) (br_f (by decide) (br_f (by decide) (nm_r (nI_1 i) hp))))))))))))⟩⟩
  · have eg : g (nI i).toNatClampNeg = 7 := by rw [b3]; exact k
    refine Or.inl ⟨by simp [hp_tk, hin, k], yp, mc, I1, fun f post hp => ?_⟩
    rw [e1, e4, e5] at hp
    exact br_f b1 ⟨b2, nm_r eg ⟨b2, nm_r ea (br_f c0 (br_f (by decide) (br_f (by decide) (br_f (by decide) (br_f (by decide) (br_f (by decide) (br_f (by decide) (br_f (by decide) (br_f (by decide) (br_f (by decide) (br_f (by decide) (nm_r (nI_1 i) hp))))))))))))⟩⟩
  · have eg : g (nI i).toNatClampNeg = 8 := by rw [b3]; exact k
    by_cases a1 : a i < 1
    · refine Or.inr ⟨fun h => ?_, fun f post hp => br_f b1 ⟨b2, nm_r eg ⟨b2, nm_r ea (br_f c0 (br_f (by decide) (br_f (by decide) (br_f (by decide) (br_f (by decide) (br_f (by decide) (br_t rfl (br_t a1 (br_t rfl hp)))))))))⟩⟩⟩
      simp [hp_tk, hin, k] at h
      obtain ⟨t, t1, t2, t3⟩ := h
      rw [t3] at a1
      exact nI_nlt (b := 1) t1 (by omega) a1
    · by_cases a2 : 15 < a i
      · refine Or.inr ⟨fun h => ?_, fun f post hp => br_f b1 ⟨b2, nm_r eg ⟨b2, nm_r ea (br_f c0 (br_f (by decide) (br_f (by decide) (br_f (by decide) (br_f (by decide) (br_f (by decide) (br_t rfl (br_f a1 (br_f (Int32.not_le.mpr a2) (br_t rfl hp))))))))))⟩⟩⟩
        simp [hp_tk, hin, k] at h
        obtain ⟨t, t1, t2, t3⟩ := h
        rw [t3] at a2
        exact hp_15 t2 a2
      · refine Or.inl ⟨?_, yp, mc, I1, fun f post hp => ?_⟩
        · simp [hp_tk, hin, k]; exact hp_r1 a1 a2
        · rw [e1, e4, e5] at hp
          exact br_f b1 ⟨b2, nm_r eg ⟨b2, nm_r ea (br_f c0 (br_f (by decide) (br_f (by decide) (br_f (by decide) (br_f (by decide) (br_f (by decide) (br_t rfl (br_f a1 (br_t (Int32.not_lt.mp a2) (br_f (by decide) (nm_r (nI_1 i) hp)))))))))))⟩⟩
  · have eg : g (nI i).toNatClampNeg = 9 := by rw [b3]; exact k
    by_cases a1 : a i < 1
    · refine Or.inr ⟨fun h => ?_, fun f post hp => br_f b1 ⟨b2, nm_r eg ⟨b2, nm_r ea (br_f c0 (br_f (by decide) (br_f (by decide) (br_f (by decide) (br_f (by decide) (br_f (by decide) (br_f (by decide) (br_t rfl (br_t a1 (br_t rfl hp))))))))))⟩⟩⟩
      simp [hp_tk, hin, k] at h
      obtain ⟨t, t1, t2, t3⟩ := h
      rw [t3] at a1
      exact nI_nlt (b := 1) t1 (by omega) a1
    · by_cases a2 : 15 < a i
      · refine Or.inr ⟨fun h => ?_, fun f post hp => br_f b1 ⟨b2, nm_r eg ⟨b2, nm_r ea (br_f c0 (br_f (by decide) (br_f (by decide) (br_f (by decide) (br_f (by decide) (br_f (by decide) (br_f (by decide) (br_t rfl (br_f a1 (br_f (Int32.not_le.mpr a2) (br_t rfl hp)))))))))))⟩⟩⟩
        simp [hp_tk, hin, k] at h
        obtain ⟨t, t1, t2, t3⟩ := h
        rw [t3] at a2
        exact hp_15 t2 a2
      · refine Or.inl ⟨?_, yp, mc, I1, fun f post hp => ?_⟩
        · simp [hp_tk, hin, k]; exact hp_r1 a1 a2
        · rw [e1, e4, e5] at hp
          exact br_f b1 ⟨b2, nm_r eg ⟨b2, nm_r ea (br_f c0 (br_f (by decide) (br_f (by decide) (br_f (by decide) (br_f (by decide) (br_f (by decide) (br_f (by decide) (br_t rfl (br_f a1 (br_t (Int32.not_lt.mp a2) (br_f (by decide) (nm_r (nI_1 i) hp))))))))))))⟩⟩
  · have eg : g (nI i).toNatClampNeg = 10 := by rw [b3]; exact k
    have hol := hp_ocle (g := g) i
    have hb : ∀ l, l < hp_oc g i → 1 ≤ hp_pt g i l ∧ hp_pt g i l ≤ 3 := fun l hl => ⟨((hp_H i K).2.2.2.2 l hl).2.2.2.2.2.1, ((hp_H i K).2.2.2.2 l hl).2.2.2.2.2.2.1⟩
    by_cases hl : ∃ l, l < hp_oc g i ∧ hp_pt g i l = 2
    · refine Or.inl ⟨?_, yp, mc, I1, fun f post hp => ?_⟩
      · simp [hp_tk, hin, k]; exact hl
      · rw [e1, e4, e5] at hp
        refine br_f b1 ⟨b2, nm_r eg ⟨b2, nm_r ea (br_f c0 (br_f (by decide) (br_f (by decide) (br_f (by decide) (br_f (by decide) (br_f (by decide) (br_f (by decide) (br_f (by decide) (br_t rfl ⟨hp_oc g i + 1, ?_⟩)))))))))⟩⟩
        refine yk_304 (by omega) i1 hb post (fun b hb' => ?_) (hp_oc g i + 1) 0 0 (Nat.zero_le _) (by omega) (Or.inr ⟨rfl, fun m hm => absurd hm (Nat.not_lt_zero _)⟩)
        rcases hb' with ⟨h1, -⟩ | ⟨-, h2⟩
        · exact br_f (by rw [h1]; decide) (nm_r (nI_1 i) hp)
        · obtain ⟨l, l1, l2⟩ := hl
          exact absurd l2 (h2 l l1)
    · refine Or.inr ⟨fun h => ?_, fun f post hp => ?_⟩
      · simp [hp_tk, hin, k] at h
        exact hl h
      · refine br_f b1 ⟨b2, nm_r eg ⟨b2, nm_r ea (br_f c0 (br_f (by decide) (br_f (by decide) (br_f (by decide) (br_f (by decide) (br_f (by decide) (br_f (by decide) (br_f (by decide) (br_t rfl ⟨hp_oc g i + 1, ?_⟩)))))))))⟩⟩
        refine yk_304 (by omega) i1 hb post (fun b hb' => ?_) (hp_oc g i + 1) 0 0 (Nat.zero_le _) (by omega) (Or.inr ⟨rfl, fun m hm => absurd hm (Nat.not_lt_zero _)⟩)
        rcases hb' with ⟨-, h2⟩ | ⟨h1, -⟩
        · exact absurd h2 hl
        · exact br_t h1 hp
end HYC
