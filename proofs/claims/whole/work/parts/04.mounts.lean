/-! the mounts' methods -/
theorem lm_e6 {m : Nat} (hm : m < 4) : ((6 : Int32) + nI m).toNatClampNeg = 6 + m := by
  rw [show (6 : Int32) + nI m = nI (6 + m) from nI_add 6 m]
  exact nI_clamp (by omega)
theorem lm_v6 {m : Nat} (hm : m < 4) : vp_in ((6 : Int32) + nI m) 10 := by
  rw [show (6 : Int32) + nI m = nI (6 + m) from nI_add 6 m]
  exact vp_in_nI (by omega) (by decide)
theorem lm_hb {d : Nat → Int32} {m q : Nat} {b : Bool} (hm : m < 4) (hb : bt (d m) q = b) : bt ((fun j => d (lm_tau j)) (6 + m)) q = b := by
  show bt (d (lm_tau (6 + m))) q = b
  rw [lm_tauM hm]
  exact hb
theorem lm_xor (d : Nat → Int32) {m : Nat} (hm : m < 4) (y : Int32) : upd d (nI m).toNatClampNeg ((d (nI m).toNatClampNeg) ||| y) = upd d m (d m ||| y) := by rw [nI_clamp (by omega)]
theorem lm_xan (d : Nat → Int32) {m : Nat} (hm : m < 4) (y : Int32) : upd d (nI m).toNatClampNeg ((d (nI m).toNatClampNeg) &&& y) = upd d m (d m &&& y) := by rw [nI_clamp (by omega)]
theorem lm_yor (d : Nat → Int32) {m : Nat} (hm : m < 4) (y : Int32) : upd (fun j => d (lm_tau j)) ((6 : Int32) + nI m).toNatClampNeg ((fun j => d (lm_tau j)) ((6 : Int32) + nI m).toNatClampNeg ||| y) = fun j => upd d m (d m ||| y) (lm_tau j) := by
  rw [lm_e6 hm]
  exact lm_updT d (lm_tauM hm) (by dsimp only; rw [lm_tauM hm])
theorem lm_yan (d : Nat → Int32) {m : Nat} (hm : m < 4) (y : Int32) : upd (fun j => d (lm_tau j)) ((6 : Int32) + nI m).toNatClampNeg ((fun j => d (lm_tau j)) ((6 : Int32) + nI m).toNatClampNeg &&& y) = fun j => upd d m (d m &&& y) (lm_tau j) := by
  rw [lm_e6 hm]
  exact lm_updT d (lm_tauM hm) (by dsimp only; rw [lm_tauM hm])
theorem lm_i8 {m q : Nat} : ((8 : Int32) * ((6 : Int32) + nI m)) + nI q = nI (8 * (6 + m) + q) := by
  rw [show (6 : Int32) + nI m = nI (6 + m) from nI_add 6 m]
  exact lm_iy (6 + m) q
theorem lm_kapM {m q : Nat} (hm : m < 4) (hq : q < 8) : lm_kap (8 * (6 + m) + q) = m * 8 + q := by
  rw [lm_kapT (by omega) hq, lm_tauM hm]
theorem lm_invU {n : Nat} {f us bg bs : Nat → Int32} {m : Nat} {x : Int32} (hI : lm_Inv n f us bg bs) (hm : m < 4) (hu : ¬ us m = 0) : lm_Inv n f (upd us m x) bg bs := by
  obtain ⟨h1, h2, h3, h4, h5⟩ := hI
  refine ⟨h1, h2, h3, fun m' hm' hu' => ?_, h5⟩
  by_cases e : m' = m
  · subst e
    exact h4 m' hm' hu
  · rw [pk_un e] at hu'
    exact h4 m' hm' hu'
theorem lm_invF {n : Nat} {f us bg bs : Nat → Int32} {k : Nat} {x : Int32} (hI : lm_Inv n f us bg bs) (hx : lm_By x) : lm_Inv n (upd f k x) us bg bs := by
  obtain ⟨h1, h2, h3, h4, h5⟩ := hI
  exact ⟨h1, h2, lm_byU h3 hx, h4, h5⟩
theorem lm_invM {n : Nat} {f us bg bs : Nat → Int32} {m l : Nat} {x : Int32} (hI : lm_Inv n f us bg bs) (hl : l < n) : lm_Inv n f (upd us m x) (upd bg m (nI l)) bs := by
  obtain ⟨h1, h2, h3, h4, h5⟩ := hI
  refine ⟨h1, h2, h3, fun m' hm' hu' => ?_, h5⟩
  by_cases e : m' = m
  · subst e
    exact ⟨l, hl, pk_us⟩
  · rw [pk_un e] at hu'
    rw [pk_un e]
    exact h4 m' hm' hu'
theorem i_vc_mount {k : Nat} {u : SX} {v : SY} (I : i_Rel k u v) (hk : k + 4 ≤ 2048) (v1 : Int32) (v2 : Int32) : wpX_mount (fun r u' => wpY_mount (fun r' v' => r' = r ∧ i_Rel (k + 4) u' v') v v1 v2) u v1 v2 := by
  obtain ⟨n, d, f, c, us, bg, bs, rfl, rfl, hI⟩ := I
  have hn1 := hI.1
  have hn6 := hI.2.1
  have hB := hI.2.2.1
  unfold wpX_mount wpY_mount
  dsimp only
  have bad : v1 < 0 ∨ nI 4 ≤ v1 → wpX_mount (fun r u' => wpY_mount (fun r' v' => r' = r ∧ i_Rel (k + 4) u' v') (nI n, (fun j => d (lm_tau j)), (fun j => f (lm_tau j)), (fun j => c (lm_kap j)), upd bs 0 (-4), us, bg) v1 v2) (nI n, d, f, c, us, bg, bs) v1 v2 := by
    intro h
    unfold wpX_mount wpY_mount
    dsimp only
    exact lm_xmB h (br_t rfl (lm_ytB h (br_f (by decide) (br_f (by decide) ⟨rfl, lm_R hI⟩))))
  rcases pk_ix v1 (n := 4) (by decide) with h | h | ⟨m, hm, rfl⟩
  · exact bad (Or.inl h)
  · exact bad (Or.inr h)
  · have e : (nI m).toNatClampNeg = m := nI_clamp (by omega)
    have vm := vp_in_nI (N := 4) hm (by decide)
    refine lm_xmK hm (br_f lm_ne10 ⟨vm, ?_⟩)
    rw [e]
    by_cases hu : us m = 0
    · refine br_t hu ?_
      rcases pk_ix v2 (n := n) (by omega) with hl | hl | ⟨l, hl, rfl⟩
      · exact lm_xlB (by omega) (Or.inl hl) (br_t rfl (lm_ytU hm hu (br_t rfl (lm_ylB (by omega) (Or.inl hl) (br_t rfl ⟨rfl, lm_R hI⟩)))))
      · exact lm_xlB (by omega) (Or.inr hl) (br_t rfl (lm_ytU hm hu (br_t rfl (lm_ylB (by omega) (Or.inr hl) (br_t rfl ⟨rfl, lm_R hI⟩)))))
      · refine lm_xlK (by omega) hl (br_f lm_ne10 (lm_xct (a := 4 + l) (b := m) (nI_add 4 l) (by omega) rfl (by omega) ?_))
        dsimp only
        refine ⟨vm, nm_e ⟨vm, nm_e ?_⟩⟩
        refine lm_ytU hm hu (br_t rfl (lm_ylK (by omega) hl (br_f lm_ne10 ⟨vm, nm_e ⟨vm, nm_e (lm_yct (a := l) (b := 6 + m) rfl (by omega) (nI_add 6 m) (by omega) ⟨rfl, ?_⟩)⟩⟩)))
        exact lm_mk (lm_updT d (lm_tauM hm) (by rw [lm_tauL (by omega)])) (lm_updT f (lm_tauM hm) (by rw [lm_tauL (by omega)])) (lm_cpK 8 (fun i hi => by rw [lm_kapT (by omega) hi, lm_tauL (by omega)]) (fun i hi => lm_kapM hm hi)) rfl (lm_invM (lm_invF hI (hB _)) hl)
    · exact br_f hu (lm_ytV hm hu (br_f (by decide) (br_t rfl ⟨rfl, lm_R hI⟩)))
theorem i_vc_unmount {k : Nat} {u : SX} {v : SY} (I : i_Rel k u v) (hk : k + 4 ≤ 2048) (v1 : Int32) : wpX_unmount (fun r u' => wpY_unmount (fun r' v' => r' = r ∧ i_Rel (k + 4) u' v') v v1) u v1 := by
  obtain ⟨n, d, f, c, us, bg, bs, rfl, rfl, hI⟩ := I
  obtain ⟨r, hX, hY, hr⟩ := lm_ref n d f c us bg bs (fun j => d (lm_tau j)) (fun j => f (lm_tau j)) (fun j => c (lm_kap j)) (upd bs 0 (-4)) v1
  unfold wpX_unmount wpY_unmount
  dsimp only
  refine hX _ ?_
  rcases hr with hr | ⟨rfl, m, hm, rfl, hu⟩
  · exact br_f hr (hY _ (br_f hr ⟨rfl, lm_R hI⟩))
  · have e : (nI m).toNatClampNeg = m := nI_clamp (by omega)
    have vm := vp_in_nI (N := 4) hm (by decide)
    rw [e]
    exact br_t rfl ⟨vm, nm_e (hY _ (br_t rfl ⟨vm, nm_e ⟨rfl, lm_mk rfl rfl rfl rfl (lm_invU hI hm hu)⟩⟩))⟩
theorem i_vc_mkdir {k : Nat} {u : SX} {v : SY} (I : i_Rel k u v) (hk : k + 4 ≤ 2048) (v1 : Int32) (v2 : Int32) : wpX_mkdir (fun r u' => wpY_mkdir (fun r' v' => r' = r ∧ i_Rel (k + 4) u' v') v v1 v2) u v1 v2 := by
  obtain ⟨n, d, f, c, us, bg, bs, rfl, rfl, hI⟩ := I
  obtain ⟨r, hX, hY, hr⟩ := lm_ref n d f c us bg bs (fun j => d (lm_tau j)) (fun j => f (lm_tau j)) (fun j => c (lm_kap j)) (upd bs 0 (-4)) v1
  unfold wpX_mkdir wpY_mkdir
  dsimp only
  refine hX _ ?_
  rcases hr with hr | ⟨rfl, m, hm, rfl, hu⟩
  · exact br_f hr (lm_tdN hY hr (br_f hr ⟨rfl, lm_R hI⟩))
  · have vm := vp_in_nI (n := m) (N := 10) (by omega) (by decide)
    refine br_t rfl ?_
    rcases pk_ix v2 (n := 2) (by decide) with h | h | ⟨q, hq, rfl⟩
    · exact lm_xdB (Or.inl h) (br_t rfl (lm_tdB hY (Or.inl h) (br_f (by decide) ⟨rfl, lm_R hI⟩)))
    · exact lm_xdB (Or.inr h) (br_t rfl (lm_tdB hY (Or.inr h) (br_f (by decide) ⟨rfl, lm_R hI⟩)))
    · refine lm_xdK hq (br_f lm_ne10 ?_)
      cases hb : bt (d m) q
      · refine lm_xhd rfl (by omega) rfl (by omega) hb (br_t rfl ⟨vm, vm, nm_r (lm_xor d hm _) ?_⟩)
        exact lm_tdK hY hq (br_t rfl (lm_yhd (nI_add 6 m) (by omega) rfl (by omega) (lm_hb hm hb) (br_t rfl ⟨lm_v6 hm, lm_v6 hm, nm_r (lm_yor d hm _) ⟨rfl, lm_R hI⟩⟩)))
      · exact lm_xhd rfl (by omega) rfl (by omega) hb (br_f lm_ne10 (lm_tdK hY hq (br_t rfl (lm_yhd (nI_add 6 m) (by omega) rfl (by omega) (lm_hb hm hb) (br_f lm_ne10 ⟨rfl, lm_R hI⟩)))))
theorem i_vc_rmdir {k : Nat} {u : SX} {v : SY} (I : i_Rel k u v) (hk : k + 4 ≤ 2048) (v1 : Int32) (v2 : Int32) : wpX_rmdir (fun r u' => wpY_rmdir (fun r' v' => r' = r ∧ i_Rel (k + 4) u' v') v v1 v2) u v1 v2 := by
  obtain ⟨n, d, f, c, us, bg, bs, rfl, rfl, hI⟩ := I
  have hB := hI.2.2.1
  obtain ⟨r, hX, hY, hr⟩ := lm_ref n d f c us bg bs (fun j => d (lm_tau j)) (fun j => f (lm_tau j)) (fun j => c (lm_kap j)) (upd bs 0 (-4)) v1
  unfold wpX_rmdir wpY_rmdir
  dsimp only
  refine hX _ ?_
  rcases hr with hr | ⟨rfl, m, hm, rfl, hu⟩
  · exact br_f hr (lm_tdN hY hr (br_f hr ⟨rfl, lm_R hI⟩))
  · have vm := vp_in_nI (n := m) (N := 10) (by omega) (by decide)
    have e : (nI m).toNatClampNeg = m := nI_clamp (by omega)
    refine br_t rfl ?_
    rcases pk_ix v2 (n := 2) (by decide) with h | h | ⟨q, hq, rfl⟩
    · exact lm_xdB (Or.inl h) (br_t rfl (lm_tdB hY (Or.inl h) (br_f (by decide) ⟨rfl, lm_R hI⟩)))
    · exact lm_xdB (Or.inr h) (br_t rfl (lm_tdB hY (Or.inr h) (br_f (by decide) ⟨rfl, lm_R hI⟩)))
    · refine lm_xdK hq (br_f lm_ne10 ?_)
      cases hb : bt (d m) q
      · exact lm_xhd rfl (by omega) rfl (by omega) hb (br_t rfl (lm_tdK hY hq (br_t rfl (lm_yhd (nI_add 6 m) (by omega) rfl (by omega) (lm_hb hm hb) (br_t rfl ⟨rfl, lm_R hI⟩)))))
      · have e1 : (f (nI m).toNatClampNeg) &&& ((15 : Int32) <<< ((nI q * 4) &&& 31)) = f m &&& ((15 : Int32) <<< ((nI q * 4) &&& 31)) := by rw [e]
        have e2 : upd f (nI m).toNatClampNeg ((f (nI m).toNatClampNeg) &&& ((f m &&& ((15 : Int32) <<< ((nI q * 4) &&& 31))) ^^^ (-1))) = upd f m (f m &&& (((15 : Int32) <<< ((nI q * 4) &&& 31)) ^^^ (-1))) := by rw [e, lm_andnot]
        refine lm_xhd rfl (by omega) rfl (by omega) hb (br_f lm_ne10 ⟨vm, nm_r e1 ⟨vm, vm, nm_r e2 ⟨vm, vm, nm_r (lm_xan d hm _) (lm_xsz ?_)⟩⟩⟩)
        refine lm_tdK hY hq (br_t rfl (lm_yhd (nI_add 6 m) (by omega) rfl (by omega) (lm_hb hm hb) (br_f lm_ne10 (nm_r (pk_mul 4 q) ⟨5, lm_yrl hm hq ⟨?_, ?_⟩ 4 0 rfl⟩))))
        · show lm_ct (f (lm_tau (6 + m))) (4 * q) 4 = _
          rw [lm_tauM hm]
          exact lm_cnt (hB m) hq
        · exact lm_mk (lm_updT d (lm_tauM hm) (by rw [lm_tauM hm])) (lm_updT f (lm_tauM hm) (by rw [lm_tauM hm, Int32.mul_comm 4 (nI q)])) rfl rfl (lm_invF hI (lm_by_and _ (hB m)))
