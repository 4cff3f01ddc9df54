/-! the files' methods -/
theorem lm_d4 {q : Nat} (hq : q < 8) : nI q / 4 = nI (q / 4) := pk_div (d := 4) (by omega) (by decide) (by decide)
theorem lm_v8x {m q : Nat} (hm : m < 4) (hq : q < 8) : vp_in ((nI m * 8) + nI q) 80 := by rw [lm_ix]; exact vp_in_nI (by omega) (by decide)
theorem lm_v8y {m q : Nat} (hm : m < 4) (hq : q < 8) : vp_in ((8 * ((6 : Int32) + nI m)) + nI q) 80 := by rw [lm_i8]; exact vp_in_nI (by omega) (by decide)
theorem lm_c8x {m q : Nat} (hm : m < 4) (hq : q < 8) : ((nI m * 8) + nI q).toNatClampNeg = m * 8 + q := by rw [lm_ix]; exact nI_clamp (by omega)
theorem lm_c8y {m q : Nat} (hm : m < 4) (hq : q < 8) : ((8 * ((6 : Int32) + nI m)) + nI q).toNatClampNeg = 8 * (6 + m) + q := by rw [lm_i8]; exact nI_clamp (by omega)
theorem lm_gy (c : Nat → Int32) {m q : Nat} (hm : m < 4) (hq : q < 8) : (fun j => c (lm_kap j)) ((8 * ((6 : Int32) + nI m)) + nI q).toNatClampNeg = c (m * 8 + q) := by
  dsimp only
  rw [lm_c8y hm hq, lm_kapM hm hq]
theorem lm_gx (c : Nat → Int32) {m q : Nat} (hm : m < 4) (hq : q < 8) : c ((nI m * 8) + nI q).toNatClampNeg = c (m * 8 + q) := by rw [lm_c8x hm hq]
theorem lm_n4 : ¬ (4 : Int32) = 0 := by decide
/-- a put on both sides keeps the relation -/
theorem lm_putR {k n : Nat} {d f c us bg bs : Nat → Int32} {m q : Nat} {w : Int32} (hI : lm_Inv n f us bg bs) (hm : m < 4) (hq : q < 8) : i_Rel k (nI n, d, upd f m (f m ||| ((1 : Int32) <<< (nI q &&& 31))), upd c (m * 8 + q) w, us, bg, bs) (nI n, (fun j => d (lm_tau j)), upd (fun j => f (lm_tau j)) (6 + m) ((fun j => f (lm_tau j)) (6 + m) ||| ((1 : Int32) <<< (nI q &&& 31))), upd (fun j => c (lm_kap j)) (8 * (6 + m) + q) w, upd bs 0 (-4), us, bg) :=
  lm_mk rfl (lm_updT f (lm_tauM hm) (by dsimp only; rw [lm_tauM hm])) (lm_updK c (lm_kapM hm hq) rfl) rfl (lm_invF hI (lm_by_or (hI.2.2.1 m) hq))
theorem i_vc_write {k : Nat} {u : SX} {v : SY} (I : i_Rel k u v) (hk : k + 4 ≤ 2048) (v1 : Int32) (v2 : Int32) (v3 : Int32) : wpX_write (fun r u' => wpY_write (fun r' v' => r' = r ∧ i_Rel (k + 4) u' v') v v1 v2 v3) u v1 v2 v3 := by
  obtain ⟨n, d, f, c, us, bg, bs, rfl, rfl, hI⟩ := I
  obtain ⟨r, hX, hY, hr⟩ := lm_ref n d f c us bg bs (fun j => d (lm_tau j)) (fun j => f (lm_tau j)) (fun j => c (lm_kap j)) (upd bs 0 (-4)) v1
  unfold wpX_write wpY_write
  dsimp only
  refine hX _ ?_
  rcases hr with hr | ⟨rfl, m, hm, rfl, hu⟩
  · exact br_f hr (lm_tfN hY hr (br_f hr ⟨rfl, lm_R hI⟩))
  · refine br_t rfl ?_
    rcases pk_ix v2 (n := 8) (by decide) with h | h | ⟨q, hq, rfl⟩
    · exact lm_xfB (Or.inl h) (br_t rfl (lm_tfB hY (Or.inl h) (br_f (by decide) ⟨rfl, lm_R hI⟩)))
    · exact lm_xfB (Or.inr h) (br_t rfl (lm_tfB hY (Or.inr h) (br_f (by decide) ⟨rfl, lm_R hI⟩)))
    · refine lm_xfK hq (br_f lm_ne10 ⟨lm_n4, ?_⟩)
      cases hb : bt (d m) (q / 4)
      · exact lm_xhd rfl (by omega) (lm_d4 hq) (by omega) hb (br_t rfl (lm_tfK hY hq (br_t rfl ⟨lm_n4, lm_yhd (nI_add 6 m) (by omega) (lm_d4 hq) (by omega) (lm_hb hm hb) (br_t rfl ⟨rfl, lm_R hI⟩)⟩)))
      · refine lm_xhd rfl (by omega) (lm_d4 hq) (by omega) hb (br_f lm_ne10 (lm_xput rfl (by omega) rfl hq ?_))
        dsimp only
        refine lm_tfK hY hq (br_t rfl ⟨lm_n4, lm_yhd (nI_add 6 m) (by omega) (lm_d4 hq) (by omega) (lm_hb hm hb) (br_f lm_ne10 (lm_yput (nI_add 6 m) (by omega) rfl hq ⟨?_, lm_putR hI hm hq⟩))⟩)
        rw [lm_tauM hm]
theorem i_vc_grow {k : Nat} {u : SX} {v : SY} (I : i_Rel k u v) (hk : k + 4 ≤ 2048) (v1 : Int32) (v2 : Int32) (v3 : Int32) : wpX_grow (fun r u' => wpY_grow (fun r' v' => r' = r ∧ i_Rel (k + 4) u' v') v v1 v2 v3) u v1 v2 v3 := by
  obtain ⟨n, d, f, c, us, bg, bs, rfl, rfl, hI⟩ := I
  obtain ⟨r, hX, hY, hr⟩ := lm_ref n d f c us bg bs (fun j => d (lm_tau j)) (fun j => f (lm_tau j)) (fun j => c (lm_kap j)) (upd bs 0 (-4)) v1
  unfold wpX_grow wpY_grow
  dsimp only
  refine hX _ ?_
  rcases hr with hr | ⟨rfl, m, hm, rfl, hu⟩
  · exact br_f hr (lm_tfN hY hr (br_f hr ⟨rfl, lm_R hI⟩))
  · refine br_t rfl ?_
    rcases pk_ix v2 (n := 8) (by decide) with h | h | ⟨q, hq, rfl⟩
    · exact lm_xfB (Or.inl h) (br_t rfl (lm_tfB hY (Or.inl h) (br_f (by decide) ⟨rfl, lm_R hI⟩)))
    · exact lm_xfB (Or.inr h) (br_t rfl (lm_tfB hY (Or.inr h) (br_f (by decide) ⟨rfl, lm_R hI⟩)))
    · refine lm_xfK hq (br_f lm_ne10 ?_)
      cases hb : bt (f m) q
      · exact lm_xhf rfl (by omega) rfl (by omega) hb (br_t rfl (lm_tfK hY hq (br_t rfl (lm_yhf (nI_add 6 m) (by omega) rfl (by omega) (lm_hb hm hb) (br_t rfl ⟨rfl, lm_R hI⟩)))))
      · have e1 : upd c ((nI m * 8) + nI q).toNatClampNeg (c ((nI m * 8) + nI q).toNatClampNeg + v3) = upd c (m * 8 + q) (c (m * 8 + q) + v3) := by rw [lm_c8x hm hq]
        have e2 : upd (fun j => c (lm_kap j)) ((8 * ((6 : Int32) + nI m)) + nI q).toNatClampNeg ((fun j => c (lm_kap j)) ((8 * ((6 : Int32) + nI m)) + nI q).toNatClampNeg + v3) = fun j => upd c (m * 8 + q) (c (m * 8 + q) + v3) (lm_kap j) := by
          rw [lm_gy c hm hq, lm_c8y hm hq]
          exact lm_updK c (lm_kapM hm hq) rfl
        exact lm_xhf rfl (by omega) rfl (by omega) hb (br_f lm_ne10 ⟨lm_v8x hm hq, lm_v8x hm hq, nm_r e1 (lm_tfK hY hq (br_t rfl (lm_yhf (nI_add 6 m) (by omega) rfl (by omega) (lm_hb hm hb) (br_f lm_ne10 ⟨lm_v8y hm hq, lm_v8y hm hq, nm_r e2 ⟨rfl, lm_R hI⟩⟩))))⟩)
theorem i_vc_remove {k : Nat} {u : SX} {v : SY} (I : i_Rel k u v) (hk : k + 4 ≤ 2048) (v1 : Int32) (v2 : Int32) : wpX_remove (fun r u' => wpY_remove (fun r' v' => r' = r ∧ i_Rel (k + 4) u' v') v v1 v2) u v1 v2 := by
  obtain ⟨n, d, f, c, us, bg, bs, rfl, rfl, hI⟩ := I
  have hB := hI.2.2.1
  obtain ⟨r, hX, hY, hr⟩ := lm_ref n d f c us bg bs (fun j => d (lm_tau j)) (fun j => f (lm_tau j)) (fun j => c (lm_kap j)) (upd bs 0 (-4)) v1
  unfold wpX_remove wpY_remove
  dsimp only
  refine hX _ ?_
  rcases hr with hr | ⟨rfl, m, hm, rfl, hu⟩
  · exact br_f hr (lm_tfN hY hr (br_f hr ⟨rfl, lm_R hI⟩))
  · refine br_t rfl ?_
    rcases pk_ix v2 (n := 8) (by decide) with h | h | ⟨q, hq, rfl⟩
    · exact lm_xfB (Or.inl h) (br_t rfl (lm_tfB hY (Or.inl h) (br_f (by decide) ⟨rfl, lm_R hI⟩)))
    · exact lm_xfB (Or.inr h) (br_t rfl (lm_tfB hY (Or.inr h) (br_f (by decide) ⟨rfl, lm_R hI⟩)))
    · refine lm_xfK hq (br_f lm_ne10 ?_)
      cases hb : bt (f m) q
      · exact lm_xhf rfl (by omega) rfl (by omega) hb (br_t rfl (lm_tfK hY hq (br_t rfl (lm_yhf (nI_add 6 m) (by omega) rfl (by omega) (lm_hb hm hb) (br_t rfl ⟨rfl, lm_R hI⟩)))))
      · refine lm_xhf rfl (by omega) rfl (by omega) hb (br_f lm_ne10 (lm_xtk (by omega) ?_))
        dsimp only
        exact lm_tfK hY hq (br_t rfl (lm_yhf (nI_add 6 m) (by omega) rfl (by omega) (lm_hb hm hb) (br_f lm_ne10 ⟨lm_v6 hm, lm_v6 hm, nm_r (lm_yan f hm _) ⟨rfl, lm_R (lm_invF hI (lm_by_and _ (hB m)))⟩⟩)))
theorem i_vc_rename {k : Nat} {u : SX} {v : SY} (I : i_Rel k u v) (hk : k + 4 ≤ 2048) (v1 : Int32) (v2 : Int32) (v3 : Int32) : wpX_rename (fun r u' => wpY_rename (fun r' v' => r' = r ∧ i_Rel (k + 4) u' v') v v1 v2 v3) u v1 v2 v3 := by
  obtain ⟨n, d, f, c, us, bg, bs, rfl, rfl, hI⟩ := I
  have hB := hI.2.2.1
  obtain ⟨r, hX, hY, hr⟩ := lm_ref n d f c us bg bs (fun j => d (lm_tau j)) (fun j => f (lm_tau j)) (fun j => c (lm_kap j)) (upd bs 0 (-4)) v1
  unfold wpX_rename wpY_rename
  dsimp only
  refine hX _ ?_
  rcases hr with hr | ⟨rfl, m, hm, rfl, hu⟩
  · exact br_f hr (lm_tfN hY hr (br_f hr (br_f hr (br_f hr ⟨rfl, lm_R hI⟩))))
  · refine br_t rfl ?_
    have nm : ¬ (-1 : Int32) = 0 := by decide
    rcases pk_ix v2 (n := 8) (by decide) with h | h | ⟨q, hq, rfl⟩
    · exact lm_xfB (Or.inl h) (br_t rfl (lm_tfB hY (Or.inl h) (br_f nm (br_f nm (br_f nm ⟨rfl, lm_R hI⟩)))))
    · exact lm_xfB (Or.inr h) (br_t rfl (lm_tfB hY (Or.inr h) (br_f nm (br_f nm (br_f nm ⟨rfl, lm_R hI⟩)))))
    · refine lm_xfK hq (br_f lm_ne10 ?_)
      rcases pk_ix v3 (n := 8) (by decide) with h | h | ⟨g, hg, rfl⟩
      · exact lm_xfB (Or.inl h) (br_t rfl (lm_tfK hY hq (br_t rfl (lm_tfB hY (Or.inl h) (br_f nm (br_f nm ⟨rfl, lm_R hI⟩))))))
      · exact lm_xfB (Or.inr h) (br_t rfl (lm_tfK hY hq (br_t rfl (lm_tfB hY (Or.inr h) (br_f nm (br_f nm ⟨rfl, lm_R hI⟩))))))
      · refine lm_xfK hg (br_f lm_ne10 ?_)
        by_cases he : nI q = nI g
        · exact br_t he (lm_tfK hY hq (br_t rfl (lm_tfK hY hg (br_t rfl (br_t he (br_f nm ⟨rfl, lm_R hI⟩))))))
        · refine br_f he ?_
          cases hb : bt (f m) q
          · exact lm_xhf rfl (by omega) rfl (by omega) hb (br_t rfl (lm_tfK hY hq (br_t rfl (lm_tfK hY hg (br_t rfl (br_f he (br_t rfl (lm_yhf (nI_add 6 m) (by omega) rfl (by omega) (lm_hb hm hb) (br_t rfl ⟨rfl, lm_R hI⟩)))))))))
          · refine lm_xhf rfl (by omega) rfl (by omega) hb (br_f lm_ne10 ⟨lm_n4, ?_⟩)
            cases hd : bt (d m) (g / 4)
            · exact lm_xhd rfl (by omega) (lm_d4 hg) (by omega) hd (br_t rfl (lm_tfK hY hq (br_t rfl (lm_tfK hY hg (br_t rfl (br_f he (br_t rfl (lm_yhf (nI_add 6 m) (by omega) rfl (by omega) (lm_hb hm hb) (br_f lm_ne10 ⟨lm_n4, lm_yhd (nI_add 6 m) (by omega) (lm_d4 hg) (by omega) (lm_hb hm hd) (br_t rfl ⟨rfl, lm_R hI⟩)⟩)))))))))
            · refine lm_xhd rfl (by omega) (lm_d4 hg) (by omega) hd (br_f lm_ne10 (lm_xtk (by omega) ?_))
              dsimp only
              rw [lm_gx c hm hq]
              refine ⟨lm_v8x hm hq, lm_xput rfl (by omega) rfl hg ?_⟩
              dsimp only
              refine lm_tfK hY hq (br_t rfl (lm_tfK hY hg (br_t rfl (br_f he (br_t rfl (lm_yhf (nI_add 6 m) (by omega) rfl (by omega) (lm_hb hm hb) (br_f lm_ne10 ⟨lm_n4, lm_yhd (nI_add 6 m) (by omega) (lm_d4 hg) (by omega) (lm_hb hm hd) (br_f lm_ne10 ⟨lm_v6 hm, lm_v6 hm, nm_r (lm_yan f hm _) ⟨lm_v8y hm hq, ?_⟩⟩)⟩)))))))
              rw [lm_gy c hm hq]
              refine lm_yput (nI_add 6 m) (by omega) rfl hg ⟨?_, lm_putR (lm_invF hI (lm_by_and _ (hB m))) hm hg⟩
              rw [lm_tauM hm]
theorem i_vc_read {k : Nat} {u : SX} {v : SY} (I : i_Rel k u v) (hk : k + 4 ≤ 2048) (v1 : Int32) (v2 : Int32) : wpX_read (fun r => wpY_read (fun r' => r' = r ∧ i_Rel (k + 4) u v) v v1 v2) u v1 v2 := by
  obtain ⟨n, d, f, c, us, bg, bs, rfl, rfl, hI⟩ := I
  obtain ⟨r, hX, hY, hr⟩ := lm_ref n d f c us bg bs (fun j => d (lm_tau j)) (fun j => f (lm_tau j)) (fun j => c (lm_kap j)) (upd bs 0 (-4)) v1
  unfold wpX_read wpY_read
  dsimp only
  refine hX _ ?_
  rcases hr with hr | ⟨rfl, m, hm, rfl, hu⟩
  · exact br_f hr (lm_tfN hY hr (br_f hr ⟨rfl, lm_R hI⟩))
  · refine br_t rfl ?_
    rcases pk_ix v2 (n := 8) (by decide) with h | h | ⟨q, hq, rfl⟩
    · exact lm_xfB (Or.inl h) (br_t rfl (lm_tfB hY (Or.inl h) (br_f (by decide) ⟨rfl, lm_R hI⟩)))
    · exact lm_xfB (Or.inr h) (br_t rfl (lm_tfB hY (Or.inr h) (br_f (by decide) ⟨rfl, lm_R hI⟩)))
    · refine lm_xfK hq (br_f lm_ne10 ?_)
      cases hb : bt (f m) q
      · exact lm_xhf rfl (by omega) rfl (by omega) hb (br_t rfl (lm_tfK hY hq (br_t rfl (lm_yhf (nI_add 6 m) (by omega) rfl (by omega) (lm_hb hm hb) (br_t rfl ⟨rfl, lm_R hI⟩)))))
      · refine lm_xhf rfl (by omega) rfl (by omega) hb (br_f lm_ne10 ⟨lm_v8x hm hq, lm_tfK hY hq (br_t rfl (lm_yhf (nI_add 6 m) (by omega) rfl (by omega) (lm_hb hm hb) (br_f lm_ne10 ⟨lm_v8y hm hq, ?_, lm_R hI⟩)))⟩)
        rw [lm_gx c hm hq]
        exact lm_gy c hm hq
theorem i_vc_files {k : Nat} {u : SX} {v : SY} (I : i_Rel k u v) (hk : k + 4 ≤ 2048) (v1 : Int32) : wpX_files (fun r => wpY_files (fun r' => r' = r ∧ i_Rel (k + 4) u v) v v1) u v1 := by
  obtain ⟨n, d, f, c, us, bg, bs, rfl, rfl, hI⟩ := I
  obtain ⟨r, hX, hY, hr⟩ := lm_ref n d f c us bg bs (fun j => d (lm_tau j)) (fun j => f (lm_tau j)) (fun j => c (lm_kap j)) (upd bs 0 (-4)) v1
  unfold wpX_files wpY_files
  dsimp only
  refine hX _ ?_
  rcases hr with hr | ⟨rfl, m, hm, rfl, hu⟩
  · exact br_f hr (hY _ (br_f hr ⟨rfl, lm_R hI⟩))
  · refine br_t rfl ⟨vp_in_nI (by omega) (by decide), hY _ (br_t rfl ⟨lm_v6 hm, ?_, lm_R hI⟩)⟩
    rw [lm_e6 hm, lm_tauM hm, nI_clamp (by omega)]
theorem i_vc_directories {k : Nat} {u : SX} {v : SY} (I : i_Rel k u v) (hk : k + 4 ≤ 2048) (v1 : Int32) : wpX_directories (fun r => wpY_directories (fun r' => r' = r ∧ i_Rel (k + 4) u v) v v1) u v1 := by
  obtain ⟨n, d, f, c, us, bg, bs, rfl, rfl, hI⟩ := I
  obtain ⟨r, hX, hY, hr⟩ := lm_ref n d f c us bg bs (fun j => d (lm_tau j)) (fun j => f (lm_tau j)) (fun j => c (lm_kap j)) (upd bs 0 (-4)) v1
  unfold wpX_directories wpY_directories
  dsimp only
  refine hX _ ?_
  rcases hr with hr | ⟨rfl, m, hm, rfl, hu⟩
  · exact br_f hr (hY _ (br_f hr ⟨rfl, lm_R hI⟩))
  · refine br_t rfl ⟨vp_in_nI (by omega) (by decide), hY _ (br_t rfl ⟨lm_v6 hm, ?_, lm_R hI⟩)⟩
    rw [lm_e6 hm, lm_tauM hm, nI_clamp (by omega)]
