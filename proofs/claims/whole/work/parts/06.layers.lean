/-! the layers' methods -/
theorem lm_uu {bs : Nat → Int32} {n : Nat} (hn : 1 ≤ n) (x y : Int32) : upd (upd bs 0 y) n x = upd (upd bs n x) 0 y := by
  funext j
  by_cases e : j = n
  · subst e
    rw [pk_us, pk_un (by omega), pk_us]
  · rw [pk_un e]
    by_cases z : j = 0
    · subst z
      rw [pk_us, pk_us]
    · rw [pk_un z, pk_un z, pk_un e]
theorem lm_invC {n : Nat} {f us bg bs : Nat → Int32} {m : Nat} (hI : lm_Inv n f us bg bs) (hm : m < 4) (hu : ¬ us m = 0) (h6 : n < 6) (t : Nat) : lm_Inv (n + 1) (upd f t (f m)) us (upd bg m (nI n)) (upd bs n (bg m)) := by
  obtain ⟨h1, h2, h3, h4, h5⟩ := hI
  refine ⟨by omega, by omega, lm_byU h3 (h3 m), fun m' hm' hu' => ?_, fun l hl1 hl => ?_⟩
  · by_cases e : m' = m
    · subst e
      exact ⟨n, by omega, pk_us⟩
    · obtain ⟨b, hb, eb⟩ := h4 m' hm' hu'
      exact ⟨b, by omega, by rw [pk_un e]; exact eb⟩
  · by_cases e : l = n
    · subst e
      obtain ⟨b, hb, eb⟩ := h4 m hm hu
      exact ⟨b, hb, by rw [pk_us]; exact eb⟩
    · obtain ⟨b, hb, eb⟩ := h5 l hl1 (by omega)
      exact ⟨b, hb, by rw [pk_un e]; exact eb⟩
theorem i_vc_commit {k : Nat} {u : SX} {v : SY} (I : i_Rel k u v) (hk : k + 4 ≤ 2048) (v1 : Int32) : wpX_commit (fun r u' => wpY_commit (fun r' v' => r' = r ∧ i_Rel (k + 4) u' v') v v1) u v1 := by
  obtain ⟨n, d, f, c, us, bg, bs, rfl, rfl, hI⟩ := I
  have hn1 := hI.1
  have hn6 := hI.2.1
  obtain ⟨r, hX, hY, hr⟩ := lm_ref n d f c us bg bs (fun j => d (lm_tau j)) (fun j => f (lm_tau j)) (fun j => c (lm_kap j)) (upd bs 0 (-4)) v1
  unfold wpX_commit wpY_commit
  dsimp only
  refine hX _ ?_
  rcases hr with hr | ⟨rfl, m, hm, rfl, hu⟩
  · exact br_f hr (hY _ (br_f hr ⟨rfl, lm_R hI⟩))
  · refine br_t rfl ?_
    have e : (nI m).toNatClampNeg = m := nI_clamp (by omega)
    have en : (nI n).toNatClampNeg = n := nI_clamp (by omega)
    have vm := vp_in_nI (N := 4) hm (by decide)
    rw [e, en]
    by_cases h6 : n < 6
    · have hX6 : nI n < 6 := nI_lt (b := 6) h6 (by decide)
      have hY6 : ¬ nI n = 6 := fun z => absurd ((nI_eq (b := 6) (by omega) (by decide)).mp z) (by omega)
      have vn := vp_in_nI (N := 6) h6 (by decide)
      refine br_t hX6 (lm_xct rfl (by omega) (nI_add 4 n) (by omega) ?_)
      dsimp only
      refine ⟨vm, vn, nm_e ⟨vm, nm_e (nm_r (nI_1 n) (hY _ (br_t rfl (br_f hY6 (lm_yct (nI_add 6 m) (by omega) rfl (by omega) ?_)))))⟩⟩
      dsimp only
      rw [en]
      refine ⟨vm, vn, nm_e ⟨vm, nm_e (nm_r (nI_1 n) ⟨nI_pred n, ?_⟩)⟩⟩
      exact lm_mk (lm_updT d (lm_tauL h6) (by rw [lm_tauM hm])) (lm_updT f (lm_tauL h6) (by rw [lm_tauM hm])) (lm_cpK 8 (fun i hi => lm_kapM hm hi) (fun i hi => by rw [lm_kapT (by omega) hi, lm_tauL h6])) (lm_uu hn1 _ _) (lm_invC hI hm hu h6 _)
    · obtain rfl : n = 6 := by omega
      exact br_f (by decide) (hY _ (br_t rfl (br_t rfl ⟨rfl, lm_R hI⟩)))
theorem lm_m4 {p : Nat} (hp : p < 2 ^ 31) : ¬ (-4 : Int32) = nI p := fun z => nI_pos hp (by rw [← z]; decide)
theorem i_vc_drop {k : Nat} {u : SX} {v : SY} (I : i_Rel k u v) (hk : k + 4 ≤ 2048) : wpX_drop (fun r u' => wpY_drop (fun r' v' => r' = r ∧ i_Rel (k + 4) u' v') v) u := by
  obtain ⟨n, d, f, c, us, bg, bs, rfl, rfl, hI⟩ := I
  have hI' := hI
  obtain ⟨h1, h2, h3, h4, h5⟩ := hI'
  obtain ⟨p, rfl⟩ : ∃ p, n = p + 1 := ⟨n - 1, by omega⟩
  unfold wpX_drop wpY_drop
  dsimp only
  refine nm_r (nI_pred p) ?_
  by_cases hp : p = 0
  · subst hp
    exact br_t rfl (br_t rfl ⟨rfl, lm_R hI⟩)
  · have hX0 : ¬ nI p = 0 := nI_ne0 (by omega) (by omega)
    have hY1 : ¬ nI (p + 1) = 1 := fun z => absurd ((nI_eq (b := 1) (by omega) (by decide)).mp z) (by omega)
    refine br_f hX0 ?_
    rw [nI_pred p]
    rcases lm_isM (L := nI (p + 1)) (L' := nI (p + 1)) (x := nI p) (d := d) (f := f) (c := c) (us := us) (bg := bg) (bs := bs) (d' := fun j => d (lm_tau j)) (f' := fun j => f (lm_tau j)) (c' := fun j => c (lm_kap j)) (b' := upd bs 0 (-4)) 4 0 rfl with ⟨gX, gY⟩ | ⟨gN, gX, gY⟩
    · exact ⟨5, gX _ (br_f lm_ne10 (br_f hY1 ⟨5, gY _ (br_t rfl ⟨rfl, lm_R hI⟩)⟩))⟩
    · refine ⟨5, gX _ (br_t rfl (br_f hY1 ⟨5, gY _ ⟨p + 2, lm_isF (by omega) ?_ (br_f lm_ne10 (nm_e ⟨rfl, lm_mk rfl rfl rfl rfl ?_⟩)) (p + 1) 0 (by omega)⟩⟩))⟩
      · intro l hl
        by_cases e : l = 0
        · subst e
          rw [pk_us]
          exact lm_m4 (by omega)
        · rw [pk_un e]
          obtain ⟨b, hb, eb⟩ := h5 l (by omega) hl
          rw [eb]
          exact fun z => absurd ((nI_eq (by omega) (by omega)).mp z) (by omega)
      · refine ⟨by omega, by omega, h3, fun m hm hu => ?_, fun l hl1 hl => h5 l hl1 (by omega)⟩
        obtain ⟨b, hb, eb⟩ := h4 m hm hu
        have hne : ¬ b = p := fun z => gN m (by omega) hm hu (by rw [eb, z])
        exact ⟨b, by omega, eb⟩
theorem i_vc_layers {k : Nat} {u : SX} {v : SY} (I : i_Rel k u v) (hk : k + 4 ≤ 2048) : wpX_layers (fun r => wpY_layers (fun r' => r' = r ∧ i_Rel (k + 4) u v) v) u := by
  obtain ⟨n, d, f, c, us, bg, bs, rfl, rfl, hI⟩ := I
  exact ⟨rfl, lm_R hI⟩
theorem i_vc_base {k : Nat} {u : SX} {v : SY} (I : i_Rel k u v) (hk : k + 4 ≤ 2048) (v1 : Int32) : wpX_base (fun r => wpY_base (fun r' => r' = r ∧ i_Rel (k + 4) u v) v v1) u v1 := by
  obtain ⟨n, d, f, c, us, bg, bs, rfl, rfl, hI⟩ := I
  have hn6 := hI.2.1
  unfold wpX_base wpY_base
  dsimp only
  rcases pk_ix v1 (n := n) (by omega) with h | h | ⟨l, hl, rfl⟩
  · exact lm_xlB (by omega) (Or.inl h) (br_t rfl (lm_ylB (by omega) (Or.inl h) (br_t rfl ⟨rfl, lm_R hI⟩)))
  · exact lm_xlB (by omega) (Or.inr h) (br_t rfl (lm_ylB (by omega) (Or.inr h) (br_t rfl ⟨rfl, lm_R hI⟩)))
  · have vl := vp_in_nI (n := l) (N := 6) (by omega) (by decide)
    have e : (nI l).toNatClampNeg = l := nI_clamp (by omega)
    rw [e]
    refine lm_xlK (by omega) hl (br_f lm_ne10 ?_)
    by_cases z : l = 0
    · subst z
      exact br_t rfl (lm_ylK (by omega) hl (br_f lm_ne10 ⟨vl, pk_us, lm_R hI⟩))
    · exact br_f (nI_ne0 (by omega) (by omega)) ⟨vl, lm_ylK (by omega) hl (br_f lm_ne10 ⟨vl, pk_un z, lm_R hI⟩)⟩
theorem lm_neX (p q : Int32) : p = q ↔ decide (¬ p = q) = false := by
  rw [decide_eq_false_iff_not, Decidable.not_not]
theorem i_vc_changes {k : Nat} {u : SX} {v : SY} (I : i_Rel k u v) (hk : k + 4 ≤ 2048) (v1 : Int32) : wpX_changes (fun r => wpY_changes (fun r' => r' = r ∧ i_Rel (k + 4) u v) v v1) u v1 := by
  obtain ⟨n, d, f, c, us, bg, bs, rfl, rfl, hI⟩ := I
  have hI' := hI
  obtain ⟨h1, h2, h3, h4, h5⟩ := hI'
  obtain ⟨r, hX, hY, hr⟩ := lm_ref n d f c us bg bs (fun j => d (lm_tau j)) (fun j => f (lm_tau j)) (fun j => c (lm_kap j)) (upd bs 0 (-4)) v1
  unfold wpX_changes wpY_changes
  dsimp only
  refine hX _ ?_
  rcases hr with hr | ⟨rfl, m, hm, rfl, hu⟩
  · exact br_f hr (hY _ (br_f hr ⟨rfl, lm_R hI⟩))
  · obtain ⟨b, hb, eb⟩ := h4 m hm hu
    have vm := vp_in_nI (N := 4) hm (by decide)
    have e : bg (nI m).toNatClampNeg = nI b := by rw [nI_clamp (by omega)]; exact eb
    rw [e]
    refine br_t rfl ⟨vm, lm_xdf (a := m) (b := 4 + b) (ne := fun j => decide (¬ c (m * 8 + j) = c ((4 + b) * 8 + j))) rfl (by omega) (nI_add 4 b) (by omega) (fun j hj => lm_neX _ _) (fun r hr => lm_xsz ?_)⟩
    refine hY _ (br_t rfl ⟨vm, lm_ydf (a := 6 + m) (b := b) (ne := fun j => decide (¬ c (m * 8 + j) = c ((4 + b) * 8 + j))) (nI_add 6 m) (by omega) rfl (by omega) (fun j hj => ?_) (fun r' hr' => ?_)⟩)
    · rw [lm_kapM hm hj, lm_kapT (by omega) hj, lm_tauL (by omega)]
      exact lm_neX _ _
    · rw [lm_tauM hm, lm_tauL (by omega)] at hr'
      have er := lm_same (h3 m) (h3 (4 + b)) hr hr'
      subst er
      exact lm_ysz ⟨rfl, lm_R hI⟩
theorem i_vc_compare {k : Nat} {u : SX} {v : SY} (I : i_Rel k u v) (hk : k + 4 ≤ 2048) (v1 : Int32) (v2 : Int32) : wpX_compare (fun r => wpY_compare (fun r' => r' = r ∧ i_Rel (k + 4) u v) v v1 v2) u v1 v2 := by
  obtain ⟨n, d, f, c, us, bg, bs, rfl, rfl, hI⟩ := I
  have hI' := hI
  obtain ⟨h1, h2, h3, h4, h5⟩ := hI'
  unfold wpX_compare wpY_compare
  dsimp only
  rcases pk_ix v1 (n := n) (by omega) with h | h | ⟨l, hl, rfl⟩
  · exact lm_xlB (by omega) (Or.inl h) (br_t rfl (lm_ylB (by omega) (Or.inl h) (br_t rfl ⟨rfl, lm_R hI⟩)))
  · exact lm_xlB (by omega) (Or.inr h) (br_t rfl (lm_ylB (by omega) (Or.inr h) (br_t rfl ⟨rfl, lm_R hI⟩)))
  · refine lm_xlK (by omega) hl (br_f lm_ne10 ?_)
    rcases pk_ix v2 (n := n) (by omega) with h | h | ⟨g, hg, rfl⟩
    · exact lm_xlB (by omega) (Or.inl h) (br_t rfl (lm_ylK (by omega) hl (br_f lm_ne10 (lm_ylB (by omega) (Or.inl h) (br_t rfl ⟨rfl, lm_R hI⟩)))))
    · exact lm_xlB (by omega) (Or.inr h) (br_t rfl (lm_ylK (by omega) hl (br_f lm_ne10 (lm_ylB (by omega) (Or.inr h) (br_t rfl ⟨rfl, lm_R hI⟩)))))
    · refine lm_xlK (by omega) hg (br_f lm_ne10 (lm_xdf (a := 4 + l) (b := 4 + g) (ne := fun j => decide (¬ c ((4 + l) * 8 + j) = c ((4 + g) * 8 + j))) (nI_add 4 l) (by omega) (nI_add 4 g) (by omega) (fun j hj => lm_neX _ _) (fun r hr => ?_)))
      refine lm_ylK (by omega) hl (br_f lm_ne10 (lm_ylK (by omega) hg (br_f lm_ne10 (lm_ydf (a := l) (b := g) (ne := fun j => decide (¬ c ((4 + l) * 8 + j) = c ((4 + g) * 8 + j))) rfl (by omega) rfl (by omega) (fun j hj => ?_) (fun r' hr' => ⟨?_, lm_R hI⟩)))))
      · rw [lm_kapT (by omega) hj, lm_kapT (by omega) hj, lm_tauL (by omega), lm_tauL (by omega)]
        exact lm_neX _ _
      · rw [lm_tauL (by omega), lm_tauL (by omega)] at hr'
        exact lm_same (h3 (4 + l)) (h3 (4 + g)) hr hr'
