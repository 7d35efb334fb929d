section HS
variable {g a fs tf xot xop ft fp fy tr yp sk so sh sy : Nat → Int32} {n : Nat} {cm ct cp cf xo xi xs xh dd pp ac tl st rs ut cr fr yr : Int32}
/-! E: the reference's searches -/
theorem hp_z0 {m : Nat} (h : m = 0) : nI m = 0 := by rw [h]; exact nI_0
theorem yn_6 (G : ow_G g a n) {t q : Nat} : ∀ f j, j ≤ n → n - j < f → q < j → ow_P g t j → (∀ y, q < y → y < j → ¬ ow_O g t y) → ∃ c, ow_N g n t q c ∧ ∀ post : Int32 → Prop, post (nI c) → wY_nextClause_6 post cm ct (nI n) cp cf st rs ut tl cr fr dd pp ac yr g a tr yp sk so sh sy f (nI (hp_oc g j - hp_oc g t - 1)) (nI j) := by
  have hn := G.1
  intro f
  induction f with
  | zero => intro j _ h; omega
  | succ f ih =>
  intro j hj hf hqj hP hl
  have z := ow_Gn G hP hj
  have K1 := ow_Kl G.2.1 (show j + 1 ≤ n by omega)
  have K0 := ow_Kl G.2.1 (show j ≤ n by omega)
  have hoc := hP.1
  have hol := hp_ocle (g := g) j
  have b1 : ¬ nI n ≤ nI j := nI_ge z (by omega)
  have b2 : vp_in (nI j) 32 := vp_in_nI (by omega) (by omega)
  have b3 : (nI j).toNatClampNeg = j := nI_clamp (by omega)
  have found : (g j = 2 ∨ g j = 4 ∨ g j = 5) → hp_oc g j = hp_oc g t + 1 → ow_N g n t q j := fun h e => ⟨hqj, z, ow_Ot hP e h, hl⟩
  -- what goes on: j is no clause of t
  have go : ∀ m, hp_oc g (j + 1) - hp_oc g t - 1 = m → ¬ ow_O g t j → ow_P g t (j + 1) → ∃ c, ow_N g n t q c ∧ ∀ post : Int32 → Prop, post (nI c) → wY_nextClause_6 post cm ct (nI n) cp cf st rs ut tl cr fr dd pp ac yr g a tr yp sk so sh sy f (nI m) (nI (j + 1)) := fun m hm hno hP1 => by
    subst hm
    refine ih (j + 1) (by omega) (by omega) (by omega) hP1 (fun y h1 h2 => ?_)
    by_cases e : y = j
    · rw [e]; exact hno
    · exact hl y h1 (by omega)
  by_cases k3 : g j = 3
  · obtain ⟨c, hc, hw⟩ := go (hp_oc g j - hp_oc g t - 1 + 1) (by rw [(hp_s3 k3).1]; omega) (fun h => by rcases h.1 with e | e | e <;> rw [k3] at e <;> exact absurd e (by decide)) (ow_4 K1 hP (fun h => by rw [k3] at h; exact absurd h.1 (by decide)))
    exact ⟨c, hc, fun post hp => br_f b1 ⟨b2, nm_r (congrArg g b3) (br_t k3 (nm_r (nI_1 _) (nm_r (nI_1 j) (hw post hp))))⟩⟩
  by_cases k2 : g j = 2
  · by_cases e : hp_oc g j = hp_oc g t + 1
    · exact ⟨j, found (Or.inl k2) e, fun post hp => br_f b1 ⟨b2, nm_r (congrArg g b3) (br_f k3 (br_t k2 (br_t (hp_z0 (by omega)) hp)))⟩⟩
    · obtain ⟨m, hm⟩ : ∃ m, hp_oc g j - hp_oc g t - 1 = m + 1 := ⟨hp_oc g j - hp_oc g t - 2, by omega⟩
      obtain ⟨c, hc, hw⟩ := go m (by rw [(hp_s2b k2 (by omega)).1]; omega) (ow_On K0 e) (ow_4 K1 hP (fun h => e h.2))
      rw [hm]
      exact ⟨c, hc, fun post hp => br_f b1 ⟨b2, nm_r (congrArg g b3) (br_f k3 (br_t k2 (br_f (nI_ne0 (by omega) (by omega)) (nm_r (hp_m1 m) (nm_r (nI_1 j) (hw post hp))))))⟩⟩
  have n64 : (g j = 4 ∨ g j = 5) → ∃ c, ow_N g n t q c ∧ ∀ post : Int32 → Prop, post (nI c) → wY_nextClause_64 post (wY_nextClause_6 post cm ct (nI n) cp cf st rs ut tl cr fr dd pp ac yr g a tr yp sk so sh sy f) (nI (hp_oc g j - hp_oc g t - 1)) (nI j) cm ct (nI n) cp cf st rs ut tl cr fr dd pp ac yr g a tr yp sk so sh sy := fun k => by
    have eoc : hp_oc g (j + 1) = hp_oc g j := by rcases k with k | k; exact (hp_s4 k).1; exact (hp_s5 k).1
    by_cases e : hp_oc g j = hp_oc g t + 1
    · exact ⟨j, found (Or.inr k) e, fun post hp => br_t (hp_z0 (by omega)) hp⟩
    · obtain ⟨c, hc, hw⟩ := go (hp_oc g j - hp_oc g t - 1) (by rw [eoc]) (ow_On K0 e) (ow_4 K1 hP (fun h => e h.2))
      exact ⟨c, hc, fun post hp => br_f (nI_ne0 (by omega) (by omega)) (nm_r (nI_1 j) (hw post hp))⟩
  by_cases k4 : g j = 4
  · obtain ⟨c, hc, hw⟩ := n64 (Or.inl k4)
    exact ⟨c, hc, fun post hp => br_f b1 ⟨b2, nm_r (congrArg g b3) (br_f k3 (br_f k2 (br_t k4 (hw post hp))))⟩⟩
  by_cases k5 : g j = 5
  · obtain ⟨c, hc, hw⟩ := n64 (Or.inr k5)
    exact ⟨c, hc, fun post hp => br_f b1 ⟨b2, nm_r (congrArg g b3) (br_f k3 (br_f k2 (br_f k4 (br_t k5 (hw post hp)))))⟩⟩
  have hno : ¬ ow_O g t j := fun h => by rcases h.1 with e | e | e; exact k2 e; exact k4 e; exact k5 e
  have eoc : hp_oc g (j + 1) = hp_oc g j := by simp [hp_oc, k3, k2]
  obtain ⟨c, hc, hw⟩ := go (hp_oc g j - hp_oc g t - 1) (by rw [eoc]) hno (ow_4 K1 hP (fun h => k2 h.1))
  exact ⟨c, hc, fun post hp => br_f b1 ⟨b2, nm_r (congrArg g b3) (br_f k3 (br_f k2 (br_f k4 (br_f k5 (nm_r (nI_1 j) (hw post hp))))))⟩⟩
theorem yn_w (G : ow_G g a n) {t q : Nat} (hS : ow_S g t q) (hq : q < n) : ∃ c, ow_N g n t q c ∧ ∀ post : Int32 → Prop, post (nI c) → wpY_nextClause post (cm, ct, nI n, cp, cf, st, rs, ut, tl, cr, fr, dd, pp, ac, yr, g, a, tr, yp, sk, so, sh, sy) (nI q) := by
  obtain ⟨h1, h2⟩ := ow_Sp (ow_Kl G.2.1 (show q + 1 ≤ n by omega)) hS
  obtain ⟨c, hc, hw⟩ := yn_6 (cm := cm) (ct := ct) (cp := cp) (cf := cf) (st := st) (rs := rs) (ut := ut) (tl := tl) (cr := cr) (fr := fr) (dd := dd) (pp := pp) (ac := ac) (yr := yr) (tr := tr) (yp := yp) (sk := sk) (so := so) (sh := sh) (sy := sy) G (t := t) (q := q) (n + 1) (q + 1) (by omega) (by omega) (by omega) h1 (fun y _ _ => by omega)
  refine ⟨c, hc, fun post hp => ?_⟩
  have := hw post hp
  rw [show hp_oc g (q + 1) - hp_oc g t - 1 = 0 by omega] at this
  exact nm_r (nI_1 q) ⟨_, this⟩
theorem yc_9 (G : ow_G g a n) {t : Nat} {w r : Int32} (hr : ow_L n (fun x => ow_O g t x ∧ g x = w) r) (post : Int32 → Prop) (hp : post r) : ∀ f c m, n - c < f → c < n → ow_O g t c → m ≤ c → (∀ y, y < c → ¬ (ow_O g t y ∧ g y = w)) → wY_clauseOf_9 post w cm ct (nI n) cp cf st rs ut tl cr fr dd pp ac yr g a tr yp sk so sh sy f (nI c) (nI m) := by
  have hn := G.1
  intro f
  induction f with
  | zero => intro c m h; omega
  | succ f ih =>
  intro c m hf hc hO hm hl
  have b1 : ¬ nI n ≤ nI m := nI_ge (by omega) (by omega)
  have b2 : vp_in (nI c) 32 := vp_in_nI (by omega) (by omega)
  have b3 : (nI c).toNatClampNeg = c := nI_clamp (by omega)
  have b4 : ¬ nI c < 0 := nI_pos (by omega)
  by_cases k : g c = w
  · rw [ow_Lh hr hc ⟨hO, k⟩ hl] at hp
    exact br_f b1 (br_f b4 ⟨b2, br_t (by rw [b3]; exact k) hp⟩)
  have k' : ¬ g (nI c).toNatClampNeg = w := by rw [b3]; exact k
  by_cases k2 : g c = 2
  · rw [ow_Ln hr (fun y hy ho => by
      rcases Nat.lt_trichotomy y c with z | z | z
      · exact hl y z ho
      · rw [z] at ho; exact k ho.2
      · exact (ow_8 (ow_Kl G.2.1 (show y + 1 ≤ n by omega)) hO ho.1 z).1 k2)] at hp
    exact br_f b1 (br_f b4 ⟨b2, br_f k' ⟨b2, br_t (by rw [b3]; exact k2) hp⟩⟩)
  · obtain ⟨c', hc', hw⟩ := yn_w (cm := cm) (ct := ct) (cp := cp) (cf := cf) (st := st) (rs := rs) (ut := ut) (tl := tl) (cr := cr) (fr := fr) (dd := dd) (pp := pp) (ac := ac) (yr := yr) (tr := tr) (yp := yp) (sk := sk) (so := so) (sh := sh) (sy := sy) G (t := t) (q := c) (Or.inr ⟨hO, k2⟩) hc
    obtain ⟨d1, d2, d3, d4⟩ := hc'
    refine br_f b1 (br_f b4 ⟨b2, br_f k' ⟨b2, br_f (by rw [b3]; exact k2) (hw _ (nm_r (nI_1 m) (ih c' (m + 1) (by omega) d2 d3 (by omega) (fun y hy ho => ?_))))⟩⟩)
    rcases Nat.lt_trichotomy y c with z | z | z
    · exact hl y z ho
    · rw [z] at ho; exact k ho.2
    · exact d4 y z hy ho.1
theorem yc_w (G : ow_G g a n) {t : Nat} {w r : Int32} (ht : g t = 3) (htn : t < n) (hr : ow_L n (fun x => ow_O g t x ∧ g x = w) r) (post : Int32 → Prop) (hp : post r) : wpY_clauseOf post (cm, ct, nI n, cp, cf, st, rs, ut, tl, cr, fr, dd, pp, ac, yr, g, a, tr, yp, sk, so, sh, sy) (nI t) w := by
  obtain ⟨c, ⟨d1, d2, d3, d4⟩, hw⟩ := yn_w (cm := cm) (ct := ct) (cp := cp) (cf := cf) (st := st) (rs := rs) (ut := ut) (tl := tl) (cr := cr) (fr := fr) (dd := dd) (pp := pp) (ac := ac) (yr := yr) (tr := tr) (yp := yp) (sk := sk) (so := so) (sh := sh) (sy := sy) G (t := t) (q := t) (Or.inl ⟨rfl, ht⟩) htn
  unfold wpY_clauseOf
  dsimp only
  refine hw _ ⟨n + 1, ?_⟩
  have := yc_9 (cm := cm) (ct := ct) (cp := cp) (cf := cf) (st := st) (rs := rs) (ut := ut) (tl := tl) (cr := cr) (fr := fr) (dd := dd) (pp := pp) (ac := ac) (yr := yr) (tr := tr) (yp := yp) (sk := sk) (so := so) (sh := sh) (sy := sy) G hr post hp (n + 1) c 0 (by omega) d2 d3 (by omega) (fun y hy ho => ?_)
  · exact this
  · have h1 := (ow_1 (ow_Kl G.2.1 (show y ≤ n by omega)) ho.1).1
    exact d4 y h1 hy ho.1
theorem yf_4 (hn : n ≤ 32) {f p : Nat} (hp : p < n) (hg : g p = 1) (hf : hp_fn g p = f) (post : Int32 → Prop) (hpo : post (nI (p + 1))) : ∀ k j, j ≤ p → n - j < k → wY_funcStart_4 post (nI f) cm ct (nI n) cp cf st rs ut tl cr fr dd pp ac yr g a tr yp sk so sh sy k (nI (hp_fn g j)) (nI j) := by
  have fb : ∀ j, hp_fn g j ≤ j := by
    intro j
    induction j with
    | zero => exact Nat.le_refl _
    | succ j ih => simp only [hp_fn]; split <;> omega
  intro k
  induction k with
  | zero => intro j _ h; omega
  | succ k ih =>
  intro j hj hk
  have b1 : ¬ nI n ≤ nI j := nI_ge (by omega) (by omega)
  have b2 : vp_in (nI j) 32 := vp_in_nI (by omega) (by omega)
  have b3 : (nI j).toNatClampNeg = j := nI_clamp (by omega)
  have fb1 := fb j
  have fb2 := fb p
  by_cases e : j = p
  · subst e
    refine br_f b1 ⟨b2, br_t (by rw [b3]; exact hg) (br_t (by rw [hf]) ?_)⟩
    rw [nI_1]; exact hpo
  · have h1 := ih (j + 1) (by omega) (by omega)
    by_cases k1 : g j = 1
    · rw [(hp_s1 k1).2.2.2.1] at h1
      have : ¬ nI (hp_fn g j) = nI f := fun h => by
        have := hp_eq h (by omega) (by omega)
        exact e (hp_fnU k1 hg (by omega))
      exact br_f b1 ⟨b2, br_t (by rw [b3]; exact k1) (br_f this (nm_r (nI_1 _) (nm_r (nI_1 j) h1)))⟩
    · have e1 : hp_fn g (j + 1) = hp_fn g j := by simp [hp_fn, k1]
      rw [e1] at h1
      exact br_f b1 ⟨b2, br_f (by rw [b3]; exact k1) (nm_r (nI_1 j) h1)⟩
theorem yf_w (hn : n ≤ 32) {f p : Nat} (hp : p < n) (hg : g p = 1) (hf : hp_fn g p = f) (post : Int32 → Prop) (hpo : post (nI (p + 1))) : wpY_funcStart post (cm, ct, nI n, cp, cf, st, rs, ut, tl, cr, fr, dd, pp, ac, yr, g, a, tr, yp, sk, so, sh, sy) (nI f) :=
  ⟨n + 1, yf_4 hn hp hg hf post hpo (n + 1) 0 (Nat.zero_le _) (by omega)⟩

/-! F: the component's searches -/
/-- the component's table of owners -/
def ow_T (g tf : Nat → Int32) (n : Nat) : Prop := ∀ x, x < n → ∀ t, t < 32 → (tf x = nI t ↔ ow_O g t x)
theorem xf_2 (hn : n ≤ 32) (hT : ow_T g tf n) {t : Nat} (ht : t < 32) {w r : Int32} (hr : ow_L n (fun x => ow_O g t x ∧ g x = w) r) (post : Int32 → Prop) (hp : post r) : ∀ f i, i ≤ n → n - i < f → (∀ y, y < i → ¬ (ow_O g t y ∧ g y = w)) → wX_findPart_2 post (nI t) w cm ct (nI n) cp cf xo xi xs xh dd pp ac tl st rs ut cr fr g a fs tf xot xop ft fp fy tr f (nI i) := by
  intro f
  induction f with
  | zero => intro i _ h; omega
  | succ f ih =>
  intro i hi hf hl
  rcases Nat.lt_or_ge i n with z | z
  · have b1 : ¬ nI n ≤ nI i := nI_ge z (by omega)
    have b2 : vp_in (nI i) 32 := vp_in_nI (by omega) (by omega)
    have b3 : (nI i).toNatClampNeg = i := nI_clamp (by omega)
    have hT1 := hT i z t ht
    have go : ¬ (ow_O g t i ∧ g i = w) → wX_findPart_2 post (nI t) w cm ct (nI n) cp cf xo xi xs xh dd pp ac tl st rs ut cr fr g a fs tf xot xop ft fp fy tr f (nI (i + 1)) := fun h => ih (i + 1) (by omega) (by omega) (fun y hy => by
      by_cases e : y = i
      · rw [e]; exact h
      · exact hl y (by omega))
    by_cases k : g i = w
    · by_cases o : ow_O g t i
      · rw [ow_Lh hr z ⟨o, k⟩ hl] at hp
        exact br_f b1 ⟨b2, br_t (by rw [b3]; exact k) ⟨b2, br_t (by rw [b3]; exact hT1.mpr o) hp⟩⟩
      · exact br_f b1 ⟨b2, br_t (by rw [b3]; exact k) ⟨b2, br_f (by rw [b3]; exact fun h => o (hT1.mp h)) (nm_r (nI_1 i) (go fun h => o h.1))⟩⟩
    · exact br_f b1 ⟨b2, br_f (by rw [b3]; exact k) (nm_r (nI_1 i) (go fun h => k h.2))⟩
  · have : i = n := by omega
    subst this
    rw [ow_Ln hr hl] at hp
    exact br_t (nI_le (Nat.le_refl _) (by omega)) hp
theorem xf_w (hn : n ≤ 32) (hT : ow_T g tf n) {t : Nat} (ht : t < 32) {w r : Int32} (hr : ow_L n (fun x => ow_O g t x ∧ g x = w) r) (post : Int32 → Prop) (hp : post r) : wpX_findPart post (cm, ct, nI n, cp, cf, xo, xi, xs, xh, dd, pp, ac, tl, st, rs, ut, cr, fr, g, a, fs, tf, xot, xop, ft, fp, fy, tr) (nI t) w :=
  ⟨n + 1, xf_2 hn hT ht hr post hp (n + 1) 0 (Nat.zero_le _) (by omega) (fun y h => absurd h (Nat.not_lt_zero _))⟩
/-- clause x of t takes type ty -/
def ow_H (g a : Nat → Int32) (t : Nat) (ty : Int32) (x : Nat) : Prop := ow_O g t x ∧ g x = 4 ∧ (a x = 0 ∨ a x = ty)
theorem xa_14 (hn : n ≤ 32) (hT : ow_T g tf n) {t j : Nat} (ht : t < 32) (hj : j < 32) (hft : ft j = nI t) {ty r : Int32} (hr : ow_L n (ow_H g a t ty) r) (post : Int32 → Prop) (hp : post r) : ∀ f i, i ≤ n → n - i < f → (∀ y, y < i → ¬ ow_H g a t ty y) → wX_activeClause_14 post (nI j) ty cm ct (nI n) cp cf xo xi xs xh dd pp ac tl st rs ut cr fr g a fs tf xot xop ft fp fy tr f (nI i) := by
  have c2 : vp_in (nI j) 32 := vp_in_nI hj (by omega)
  have c3 : (nI j).toNatClampNeg = j := nI_clamp (by omega)
  intro f
  induction f with
  | zero => intro i _ h; omega
  | succ f ih =>
  intro i hi hf hl
  rcases Nat.lt_or_ge i n with z | z
  · have b1 : ¬ nI n ≤ nI i := nI_ge z (by omega)
    have b2 : vp_in (nI i) 32 := vp_in_nI (by omega) (by omega)
    have b3 : (nI i).toNatClampNeg = i := nI_clamp (by omega)
    have hT1 := hT i z t ht
    have n10 : ¬ (1 : Int32) = 0 := by decide
    have go : ¬ ow_H g a t ty i → wX_activeClause_14 post (nI j) ty cm ct (nI n) cp cf xo xi xs xh dd pp ac tl st rs ut cr fr g a fs tf xot xop ft fp fy tr f (nI (i + 1)) := fun h => ih (i + 1) (by omega) (by omega) (fun y hy => by
      by_cases e : y = i
      · rw [e]; exact h
      · exact hl y (by omega))
    by_cases k : g i = 4
    · by_cases o : ow_O g t i
      · have eo : tf (nI i).toNatClampNeg = ft (nI j).toNatClampNeg := by rw [b3, c3, hft]; exact hT1.mpr o
        by_cases a0 : a i = 0
        · rw [ow_Lh hr z ⟨o, k, Or.inl a0⟩ hl] at hp
          exact br_f b1 ⟨b2, br_t (by rw [b3]; exact k) ⟨b2, c2, br_t eo (br_f n10 ⟨b2, br_t (by rw [b3]; exact a0) hp⟩)⟩⟩
        · by_cases a1 : a i = ty
          · rw [ow_Lh hr z ⟨o, k, Or.inr a1⟩ hl] at hp
            exact br_f b1 ⟨b2, br_t (by rw [b3]; exact k) ⟨b2, c2, br_t eo (br_f n10 ⟨b2, br_f (by rw [b3]; exact a0) ⟨b2, br_t (by rw [b3]; exact a1) hp⟩⟩)⟩⟩
          · exact br_f b1 ⟨b2, br_t (by rw [b3]; exact k) ⟨b2, c2, br_t eo (br_f n10 ⟨b2, br_f (by rw [b3]; exact a0) ⟨b2, br_f (by rw [b3]; exact a1) (nm_r (nI_1 i) (go fun h => by rcases h.2.2 with q | q; exact a0 q; exact a1 q))⟩⟩)⟩⟩
      · have eo : ¬ tf (nI i).toNatClampNeg = ft (nI j).toNatClampNeg := by rw [b3, c3, hft]; exact fun h => o (hT1.mp h)
        exact br_f b1 ⟨b2, br_t (by rw [b3]; exact k) ⟨b2, c2, br_f eo (br_t rfl (nm_r (nI_1 i) (go fun h => o h.1)))⟩⟩
    · exact br_f b1 ⟨b2, br_f (by rw [b3]; exact k) (br_t rfl (nm_r (nI_1 i) (go fun h => k h.2.1)))⟩
  · have : i = n := by omega
    subst this
    rw [ow_Ln hr hl] at hp
    exact br_t (nI_le (Nat.le_refl _) (by omega)) hp
theorem xa_w (hn : n ≤ 32) (hT : ow_T g tf n) {t j : Nat} (ht : t < 32) (hj : j < 32) (hft : ft j = nI t) (hfp : fp j = 1) {ty r : Int32} (hr : ow_L n (ow_H g a t ty) r) (post : Int32 → Prop) (hp : post r) : wpX_activeClause post (cm, ct, nI n, cp, cf, xo, xi, xs, xh, dd, pp, ac, tl, st, rs, ut, cr, fr, g, a, fs, tf, xot, xop, ft, fp, fy, tr) (nI j) ty :=
  ⟨vp_in_nI hj (by omega), br_t (by rw [nI_clamp (show j < 2 ^ 31 by omega)]; exact hfp) ⟨n + 1, xa_14 hn hT ht hj hft hr post hp (n + 1) 0 (Nat.zero_le _) (by omega) (fun y h => absurd h (Nat.not_lt_zero _))⟩⟩
theorem xa_n {j : Nat} (hj : j < 32) (hfp : ¬ fp j = 1) {ty : Int32} (post : Int32 → Prop) (hp : post (-1)) : wpX_activeClause post (cm, ct, nI n, cp, cf, xo, xi, xs, xh, dd, pp, ac, tl, st, rs, ut, cr, fr, g, a, fs, tf, xot, xop, ft, fp, fy, tr) (nI j) ty :=
  ⟨vp_in_nI hj (by omega), br_f (by rw [nI_clamp (show j < 2 ^ 31 by omega)]; exact hfp) hp⟩
theorem xo_3 {j : Nat} (hj : j < 32) (hfp : fp j = 3) (post : Int32 → Prop) (hp : post (-1)) : wpX_owedFinally post (cm, ct, nI n, cp, cf, xo, xi, xs, xh, dd, pp, ac, tl, st, rs, ut, cr, fr, g, a, fs, tf, xot, xop, ft, fp, fy, tr) (nI j) :=
  ⟨vp_in_nI hj (by omega), br_t (by rw [nI_clamp (show j < 2 ^ 31 by omega)]; exact hfp) hp⟩
theorem xo_w (hn : n ≤ 32) (hT : ow_T g tf n) {t j : Nat} (ht : t < 32) (hj : j < 32) (hft : ft j = nI t) (hfp : ¬ fp j = 3) {r : Int32} (hr : ow_L n (fun x => ow_O g t x ∧ g x = 5) r) (post : Int32 → Prop) (hp : post r) : wpX_owedFinally post (cm, ct, nI n, cp, cf, xo, xi, xs, xh, dd, pp, ac, tl, st, rs, ut, cr, fr, g, a, fs, tf, xot, xop, ft, fp, fy, tr) (nI j) := by
  have c3 : (nI j).toNatClampNeg = j := nI_clamp (by omega)
  refine ⟨vp_in_nI hj (by omega), br_f (by rw [c3]; exact hfp) ⟨vp_in_nI hj (by omega), ?_⟩⟩
  rw [c3, hft]
  exact xf_w hn hT ht hr _ hp
end HS
