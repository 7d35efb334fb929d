section HX
variable {g a fs tf xot xop ft fp fy tr : Nat → Int32} {n i hc : Nat} {cm ct cp cf xo xi xs xh dd pp ac tl st rs ut cr fr : Int32}
/-! Q: the component's compile -/
def ck_k (x : Int32) : Prop := x = 1 ∨ x = 2 ∨ x = 3 ∨ x = 4 ∨ x = 5 ∨ x = 6 ∨ x = 7 ∨ x = 8 ∨ x = 9 ∨ x = 10 ∨ x = 11
def cx_T (g tf : Nat → Int32) (i : Nat) : Prop := (∀ x, x < i → ∀ t, t < 32 → (tf x = nI t ↔ ow_O g t x)) ∧ ∀ x, i ≤ x → x < 32 → tf x = -1
def cx_C (g a : Nat → Int32) (i c : Nat) : Prop := ∀ j, j < i → g j = 11 → ∀ f : Nat, f ≤ 3 → a j = nI f → f ≤ c
def cx_I (g a : Nat → Int32) (i : Nat) (fs tf xot xop : Nat → Int32) (hc : Nat) : Prop := (∀ l, l < hp_oc g i → xot l = nI (hp_ot g i l)) ∧ (∀ l, l < hp_oc g i → xop l = nI (hp_pt g i l)) ∧ (∀ q, q < i → g q = 1 → fs (hp_fn g q) = nI q) ∧ cx_T g tf i ∧ hc ≤ 3 ∧ cx_C g a i hc ∧ (hc = 0 ∨ ∃ j, j < i ∧ g j = 11 ∧ a j = nI hc)
theorem cx_To {t : Nat} (hi : i < 32) (ht : t < 32) (hO : ow_O g t i) (h : cx_T g tf i) : cx_T g (upd tf i (nI t)) (i + 1) := by
  refine ⟨fun x hx t' ht' => ?_, fun x h1 h2 => ?_⟩
  · by_cases e : x = i
    · subst e
      rw [hp_us, nI_eq (by omega) (by omega)]
      exact ⟨fun e => e ▸ hO, fun h' => hO.2.2.symm.trans h'.2.2⟩
    · rw [hp_un e]; exact h.1 x (by omega) t' ht'
  · rw [hp_un (by omega)]; exact h.2 x (by omega) h2
theorem cx_Tn (hi : i < 32) (hO : ∀ t, ¬ ow_O g t i) (h : cx_T g tf i) : cx_T g tf (i + 1) := by
  refine ⟨fun x hx t' ht' => ?_, fun x h1 h2 => h.2 x (by omega) h2⟩
  by_cases e : x = i
  · subst e
    rw [h.2 x (Nat.le_refl _) hi]
    exact ⟨fun e => absurd e.symm (hp_ne1 (by omega)), fun h' => absurd h' (hO t')⟩
  · exact h.1 x (by omega) t' ht'
theorem cx_no {t : Nat} (h2 : g i ≠ 2) (h4 : g i ≠ 4) (h5 : g i ≠ 5) : ¬ ow_O g t i := fun h => by
  rcases h.1 with e | e | e
  · exact h2 e
  · exact h4 e
  · exact h5 e
theorem cx_fs (h : ∀ q, q < i → g q = 1 → fs (hp_fn g q) = nI q) (h1 : g i ≠ 1) : ∀ q, q < i + 1 → g q = 1 → fs (hp_fn g q) = nI q := fun q hq hg => by
  by_cases e : q = i
  · rw [e] at hg; exact absurd hg h1
  · exact h q (by omega) hg
theorem cx_Cn {c : Nat} (h : cx_C g a i c) (h1 : g i ≠ 11) : cx_C g a (i + 1) c := fun j hj hg f hf e => by
  by_cases ej : j = i
  · rw [ej] at hg; exact absurd hg h1
  · exact h j (by omega) hg f hf e
theorem cx_ex {c : Nat} {Q : Prop} (h : Q ∨ ∃ j, j < i ∧ g j = 11 ∧ a j = nI c) : Q ∨ ∃ j, j < i + 1 ∧ g j = 11 ∧ a j = nI c := by
  rcases h with h | ⟨j, j1, j2⟩
  · exact Or.inl h
  · exact Or.inr ⟨j, by omega, j2⟩
theorem hp_r0 {x : Int32} (h1 : ¬ x < 0) (h2 : ¬ 15 < x) : ∃ t : Nat, t ≤ 15 ∧ x = nI t := nI_of2 (M := 15) (by decide) h1 (Int32.not_lt.mp h2)
theorem hp_r1 {x : Int32} (h1 : ¬ x < 1) (h2 : ¬ 15 < x) : ∃ t : Nat, 1 ≤ t ∧ t ≤ 15 ∧ x = nI t := hp_rng (L := 1) (M := 15) (by decide) (by decide) h1 (Int32.not_lt.mp h2)
theorem hp_lt4 {x : Int32} (h : x < 4) : x ≤ 3 := by
  rw [Int32.lt_iff_toInt_lt, show (4 : Int32).toInt = 4 by decide] at h
  rw [Int32.le_iff_toInt_le, show (3 : Int32).toInt = 3 by decide]
  omega
theorem hp_r3 {x : Int32} {m : Nat} (hm : m < 2 ^ 31) (h1 : ¬ x < nI m) (h2 : x < 4) : ∃ f : Nat, m ≤ f ∧ f ≤ 3 ∧ x = nI f := hp_rng (L := nI m) (M := 3) (nI_toInt hm) (by decide) h1 (hp_lt4 h2)
theorem hp_15 {t : Nat} (h : t ≤ 15) : ¬ (15 : Int32) < nI t := nI_nlt (a := 15) h (by decide)
theorem xk_in {c : Nat} (hoc : hp_oc g i ≤ 32) (hop : ∀ l, l < hp_oc g i → xop l = nI (hp_pt g i l)) (hb : ∀ l, l < hp_oc g i → hp_pt g i l ≤ 3) {r : Int32} (hr : (r = 1 ∧ ∃ l, l < hp_oc g i ∧ hp_pt g i l = 2) ∨ (r = 0 ∧ ∀ l, l < hp_oc g i → hp_pt g i l ≠ 2)) (post : Int32 → Prop) (hp : post r) : ∀ f l, l ≤ hp_oc g i → hp_oc g i - l < f → (∀ m, m < l → hp_pt g i m ≠ 2) → wX_isInsideCatch_2 post cm ct (nI n) cp cf (nI (hp_oc g i)) xi xs xh dd pp ac tl st rs ut cr fr g a fs tf xot xop ft fp fy tr f (nI l) := by
  intro f
  induction f with
  | zero => intro l _ h; omega
  | succ f ih =>
  intro l hl hf hno
  rcases Nat.lt_or_ge l (hp_oc g i) with z | z
  · have b1 : ¬ nI (hp_oc g i) ≤ nI l := nI_ge z (by omega)
    have b2 : vp_in (nI l) 32 := vp_in_nI (by omega) (by omega)
    have b3 : (nI l).toNatClampNeg = l := nI_clamp (by omega)
    have hb1 := hb l z
    by_cases e : hp_pt g i l = 2
    · have : r = 1 := by
        rcases hr with h | h
        · exact h.1
        · exact absurd e (h.2 l z)
      rw [this] at hp
      exact br_f b1 ⟨b2, br_t (by rw [b3, hop l z, e]; rfl) hp⟩
    · exact br_f b1 ⟨b2, br_f (by rw [b3, hop l z]; exact fun h => e (hp_eq (b := 2) h (by omega) (by omega))) (nm_r (nI_1 l) (ih (l + 1) (by omega) (by omega) (fun m hm => by
        by_cases em : m = l
        · rw [em]; exact e
        · exact hno m (by omega))))⟩
  · have : l = hp_oc g i := by omega
    subst this
    have : r = 0 := by
      rcases hr with ⟨h1, l, l1, l2⟩ | h
      · exact absurd l2 (hno l l1)
      · exact h.1
    rw [this] at hp
    exact br_t (nI_le (Nat.le_refl _) (by omega)) hp
theorem xk_0 (hi : i < 32) (K : ow_K g a i) (I : cx_I g a i fs tf xot xop hc) (hin : hp_in g i = 0) : ((hp_tk g a i ∧ ∃ (fs' tf' xot' xop' : Nat → Int32) (hc' : Nat), cx_I g a (i + 1) fs' tf' xot' xop' hc' ∧ ∀ post : Int32 → SX → Prop, post 1 (cm, ct, nI n, 0, 0, nI (hp_oc g (i + 1)), nI (hp_in g (i + 1)), nI (hp_fn g (i + 1)), nI hc', dd, pp, ac, tl, st, rs, ut, cr, fr, g, a, fs', tf', xot', xop', ft, fp, fy, tr) → wpX_acceptToken post (cm, ct, nI n, 0, 0, nI (hp_oc g i), nI (hp_in g i), nI (hp_fn g i), nI hc, dd, pp, ac, tl, st, rs, ut, cr, fr, g, a, fs, tf, xot, xop, ft, fp, fy, tr) (nI i)) ∨ (¬ hp_tk g a i ∧ ∀ post : Int32 → SX → Prop, post 0 (cm, ct, nI n, 0, 0, nI (hp_oc g i), nI (hp_in g i), nI (hp_fn g i), nI hc, dd, pp, ac, tl, st, rs, ut, cr, fr, g, a, fs, tf, xot, xop, ft, fp, fy, tr) → wpX_acceptToken post (cm, ct, nI n, 0, 0, nI (hp_oc g i), nI (hp_in g i), nI (hp_fn g i), nI hc, dd, pp, ac, tl, st, rs, ut, cr, fr, g, a, fs, tf, xot, xop, ft, fp, fy, tr) (nI i))) := by
  obtain ⟨i1, i2, i3, i4, i5, i6, i7⟩ := I
  have b2 : vp_in (nI i) 32 := vp_in_nI (by omega) (by omega)
  have b3 : (nI i).toNatClampNeg = i := nI_clamp (by omega)
  have c0 : nI (hp_in g i) = 0 := by rw [hin]; rfl
  have oc0 := (hp_H i K).1 hin
  have f4 := (hp_H i K).2.1
  by_cases k : g i = 1
  · by_cases f : hp_fn g i < 4
    · obtain ⟨e1, e2, e3, e4, e5⟩ := hp_s1 k
      refine Or.inl ⟨Or.inl ⟨hin, k, f⟩, upd fs (hp_fn g i) (nI i), tf, xot, xop, hc, ⟨by rw [e1, oc0]; exact fun l hl => absurd hl (Nat.not_lt_zero _), by rw [e1, oc0]; exact fun l hl => absurd hl (Nat.not_lt_zero _), fun q hq hg => ?_, cx_Tn hi (fun t => cx_no (by rw [k]; decide) (by rw [k]; decide) (by rw [k]; decide)) i4, i5, cx_Cn i6 (by rw [k]; decide), cx_ex i7⟩, fun post hp => ?_⟩
      · by_cases e : q = i
        · subst e; exact hp_us
        · have : hp_fn g q ≠ hp_fn g i := fun h => e (hp_fnU hg k h)
          rw [hp_un this]; exact i3 q (by omega) hg
      · have b4 : vp_in (nI (hp_fn g i)) 4 := vp_in_nI f (by omega)
        have b5 : (nI (hp_fn g i)).toNatClampNeg = hp_fn g i := nI_clamp (by omega)
        rw [e1, e4, e5] at hp
        exact br_t c0 ⟨b2, br_t (by rw [b3]; exact k) (br_t (nI_lt (b := 4) f (by decide)) ⟨b4, nm_r (by rw [b5]) (nm_r (nI_1 _) ⟨hp_nb1, hp⟩)⟩)⟩
    · refine Or.inr ⟨fun h => ?_, fun post hp => br_t c0 ⟨b2, br_t (by rw [b3]; exact k) (br_f (nI_nlt (b := 4) (by omega) (by omega)) ⟨hp_nb0, hp⟩)⟩⟩
      rcases h with h | h
      · exact f h.2.2
      · rw [hin] at h; exact absurd h.1 (by decide)
  · refine Or.inr ⟨fun h => ?_, fun post hp => br_t c0 ⟨b2, br_f (by rw [b3]; exact k) ⟨hp_nb0, hp⟩⟩⟩
    rcases h with h | h
    · exact k h.2.1
    · rw [hin] at h; exact absurd h.1 (by decide)
/-- what stays when a token opens and closes nothing -/
theorem cx_pl (hi : i < 32) (I : cx_I g a i fs tf xot xop hc) (k : hp_pl (g i)) (k11 : g i ≠ 11) : cx_I g a (i + 1) fs tf xot xop hc := by
  obtain ⟨i1, i2, i3, i4, i5, i6, i7⟩ := I
  obtain ⟨e1, e2, e3, e4, e5⟩ := hp_s6 k
  have q : ∀ x : Int32, x = 1 ∨ x = 2 ∨ x = 4 ∨ x = 5 → g i ≠ x := fun x hx e => by
    rw [e] at k
    rcases hx with h | h | h | h <;> rw [h] at k <;> exact absurd k (by unfold hp_pl; decide)
  refine ⟨by rw [e1, e2]; exact i1, by rw [e1, e3]; exact i2, cx_fs i3 (q 1 (by simp)), cx_Tn hi (fun t => cx_no (q 2 (by simp)) (q 4 (by simp)) (q 5 (by simp))) i4, i5, cx_Cn i6 k11, cx_ex i7⟩
theorem xk_pl (hi : i < 32) (I : cx_I g a i fs tf xot xop hc) (hin : hp_in g i = 1) (k : g i = 6 ∨ g i = 7 ∨ g i = 8 ∨ g i = 9 ∨ g i = 10) (K : ow_K g a i) : ((hp_tk g a i ∧ ∃ (fs' tf' xot' xop' : Nat → Int32) (hc' : Nat), cx_I g a (i + 1) fs' tf' xot' xop' hc' ∧ ∀ post : Int32 → SX → Prop, post 1 (cm, ct, nI n, 0, 0, nI (hp_oc g (i + 1)), nI (hp_in g (i + 1)), nI (hp_fn g (i + 1)), nI hc', dd, pp, ac, tl, st, rs, ut, cr, fr, g, a, fs', tf', xot', xop', ft, fp, fy, tr) → wpX_acceptToken post (cm, ct, nI n, 0, 0, nI (hp_oc g i), nI (hp_in g i), nI (hp_fn g i), nI hc, dd, pp, ac, tl, st, rs, ut, cr, fr, g, a, fs, tf, xot, xop, ft, fp, fy, tr) (nI i)) ∨ (¬ hp_tk g a i ∧ ∀ post : Int32 → SX → Prop, post 0 (cm, ct, nI n, 0, 0, nI (hp_oc g i), nI (hp_in g i), nI (hp_fn g i), nI hc, dd, pp, ac, tl, st, rs, ut, cr, fr, g, a, fs, tf, xot, xop, ft, fp, fy, tr) → wpX_acceptToken post (cm, ct, nI n, 0, 0, nI (hp_oc g i), nI (hp_in g i), nI (hp_fn g i), nI hc, dd, pp, ac, tl, st, rs, ut, cr, fr, g, a, fs, tf, xot, xop, ft, fp, fy, tr) (nI i))) := by
  have I0 := I
  obtain ⟨i1, i2, i3, i4, i5, i6, i7⟩ := I0
  have b2 : vp_in (nI i) 32 := vp_in_nI (by omega) (by omega)
  have b3 : (nI i).toNatClampNeg = i := nI_clamp (by omega)
  have c0 : ¬ nI (hp_in g i) = 0 := by rw [hin]; decide
  have I1 := cx_pl hi I (by unfold hp_pl; rcases k with k | k | k | k | k <;> simp [k]) (by rcases k with k | k | k | k | k <;> rw [k] <;> decide)
  obtain ⟨e1, e2, e3, e4, e5⟩ := hp_s6 (g := g) (i := i) (by unfold hp_pl; rcases k with k | k | k | k | k <;> simp [k])
  rcases k with k | k | k | k | k
  · have eg : g (nI i).toNatClampNeg = 6 := by rw [b3]; exact k
    refine Or.inl ⟨by simp [hp_tk, hin, k], fs, tf, xot, xop, hc, I1, fun post hp => ?_⟩
    rw [e1, e4, e5] at hp
    exact br_f c0 ⟨b2, nm_r eg (br_f (by decide) (br_f (by decide) (br_f (by decide) (br_f (by decide) (br_f (by decide) (br_f (by decide) (br_t rfl hp)))))))⟩
  · have eg : g (nI i).toNatClampNeg = 7 := by rw [b3]; exact k
    refine Or.inl ⟨by simp [hp_tk, hin, k], fs, tf, xot, xop, hc, I1, fun post hp => ?_⟩
    rw [e1, e4, e5] at hp
    exact br_f c0 ⟨b2, nm_r eg (br_f (by decide) (br_f (by decide) (br_f (by decide) (br_f (by decide) (br_f (by decide) (br_f (by decide) (br_f (by decide) (br_t rfl hp))))))))⟩
  · have eg : g (nI i).toNatClampNeg = 8 := by rw [b3]; exact k
    by_cases a1 : a i < 1
    · refine Or.inr ⟨fun h => ?_, fun post hp => br_f c0 ⟨b2, nm_r eg (br_f (by decide) (br_f (by decide) (br_f (by decide) (br_f (by decide) (br_f (by decide) (br_f (by decide) (br_f (by decide) (br_f (by decide) (br_t rfl ⟨b2, br_t (by rw [b3]; exact a1) hp⟩)))))))))⟩⟩
      simp [hp_tk, hin, k] at h
      obtain ⟨t, t1, t2, t3⟩ := h
      rw [t3] at a1
      exact nI_nlt (b := 1) t1 (by omega) a1
    · by_cases a2 : 15 < a i
      · refine Or.inr ⟨fun h => ?_, fun post hp => br_f c0 ⟨b2, nm_r eg (br_f (by decide) (br_f (by decide) (br_f (by decide) (br_f (by decide) (br_f (by decide) (br_f (by decide) (br_f (by decide) (br_f (by decide) (br_t rfl ⟨b2, br_f (by rw [b3]; exact a1) ⟨b2, br_t (by rw [b3]; exact a2) hp⟩⟩)))))))))⟩⟩
        simp [hp_tk, hin, k] at h
        obtain ⟨t, t1, t2, t3⟩ := h
        rw [t3] at a2
        exact hp_15 t2 a2
      · refine Or.inl ⟨?_, fs, tf, xot, xop, hc, I1, fun post hp => ?_⟩
        · simp [hp_tk, hin, k]; exact hp_r1 a1 a2
        · rw [e1, e4, e5] at hp
          exact br_f c0 ⟨b2, nm_r eg (br_f (by decide) (br_f (by decide) (br_f (by decide) (br_f (by decide) (br_f (by decide) (br_f (by decide) (br_f (by decide) (br_f (by decide) (br_t rfl ⟨b2, br_f (by rw [b3]; exact a1) ⟨b2, br_f (by rw [b3]; exact a2) hp⟩⟩)))))))))⟩
  · have eg : g (nI i).toNatClampNeg = 9 := by rw [b3]; exact k
    by_cases a1 : a i < 1
    · refine Or.inr ⟨fun h => ?_, fun post hp => br_f c0 ⟨b2, nm_r eg (br_f (by decide) (br_f (by decide) (br_f (by decide) (br_f (by decide) (br_f (by decide) (br_f (by decide) (br_f (by decide) (br_f (by decide) (br_f (by decide) (br_t rfl ⟨b2, br_t (by rw [b3]; exact a1) hp⟩))))))))))⟩⟩
      simp [hp_tk, hin, k] at h
      obtain ⟨t, t1, t2, t3⟩ := h
      rw [t3] at a1
      exact nI_nlt (b := 1) t1 (by omega) a1
    · by_cases a2 : 15 < a i
      · refine Or.inr ⟨fun h => ?_, fun post hp => br_f c0 ⟨b2, nm_r eg (br_f (by decide) (br_f (by decide) (br_f (by decide) (br_f (by decide) (br_f (by decide) (br_f (by decide) (br_f (by decide) (br_f (by decide) (br_f (by decide) (br_t rfl ⟨b2, br_f (by rw [b3]; exact a1) ⟨b2, br_t (by rw [b3]; exact a2) hp⟩⟩))))))))))⟩⟩
        simp [hp_tk, hin, k] at h
        obtain ⟨t, t1, t2, t3⟩ := h
        rw [t3] at a2
        exact hp_15 t2 a2
      · refine Or.inl ⟨?_, fs, tf, xot, xop, hc, I1, fun post hp => ?_⟩
        · simp [hp_tk, hin, k]; exact hp_r1 a1 a2
        · rw [e1, e4, e5] at hp
          exact br_f c0 ⟨b2, nm_r eg (br_f (by decide) (br_f (by decide) (br_f (by decide) (br_f (by decide) (br_f (by decide) (br_f (by decide) (br_f (by decide) (br_f (by decide) (br_f (by decide) (br_t rfl ⟨b2, br_f (by rw [b3]; exact a1) ⟨b2, br_f (by rw [b3]; exact a2) hp⟩⟩))))))))))⟩
  · have eg : g (nI i).toNatClampNeg = 10 := by rw [b3]; exact k
    have hol := hp_ocle (g := g) i
    have hb : ∀ l, l < hp_oc g i → hp_pt g i l ≤ 3 := fun l hl => ((hp_H i K).2.2.2.2 l hl).2.2.2.2.2.2.1
    have wk : ∀ r : Int32, ((r = 1 ∧ ∃ l, l < hp_oc g i ∧ hp_pt g i l = 2) ∨ (r = 0 ∧ ∀ l, l < hp_oc g i → hp_pt g i l ≠ 2)) → ∀ post : Int32 → Prop, post r → wpX_isInsideCatch post (cm, ct, nI n, 0, 0, nI (hp_oc g i), nI (hp_in g i), nI (hp_fn g i), nI hc, dd, pp, ac, tl, st, rs, ut, cr, fr, g, a, fs, tf, xot, xop, ft, fp, fy, tr) := fun r hr post hp => ⟨_, xk_in (c := 0) (by omega) i2 hb hr post hp (hp_oc g i + 1) 0 (Nat.zero_le _) (by omega) (fun m hm => absurd hm (Nat.not_lt_zero _))⟩
    by_cases hl : ∃ l, l < hp_oc g i ∧ hp_pt g i l = 2
    · refine Or.inl ⟨?_, fs, tf, xot, xop, hc, I1, fun post hp => ?_⟩
      · simp [hp_tk, hin, k]; exact hl
      · rw [e1, e4, e5] at hp
        exact br_f c0 ⟨b2, nm_r eg (br_f (by decide) (br_f (by decide) (br_f (by decide) (br_f (by decide) (br_f (by decide) (br_f (by decide) (br_f (by decide) (br_f (by decide) (br_f (by decide) (br_f (by decide) (br_t rfl (wk 1 (Or.inl ⟨rfl, hl⟩) _ ⟨hp_nb1, hp⟩))))))))))))⟩
    · refine Or.inr ⟨fun h => ?_, fun post hp => br_f c0 ⟨b2, nm_r eg (br_f (by decide) (br_f (by decide) (br_f (by decide) (br_f (by decide) (br_f (by decide) (br_f (by decide) (br_f (by decide) (br_f (by decide) (br_f (by decide) (br_f (by decide) (br_t rfl (wk 0 (Or.inr ⟨rfl, fun l h1 h2 => hl ⟨l, h1, h2⟩⟩) _ ⟨hp_nb0, hp⟩))))))))))))⟩⟩
      simp [hp_tk, hin, k] at h
      exact hl h
end HX
