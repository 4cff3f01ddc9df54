theorem i_vc_squash {k : Nat} {u : SX} {v : SY} (I : i_Rel k u v) (hk : k + 4 ≤ 2048) (v1 : Int32) : wpX_squash (fun r => wpY_squash (fun r' => r' = r ∧ i_Rel (k + 4) u v) v v1) u v1 := by
  obtain ⟨n, d, f, c, us, bg, bs, rfl, rfl, hI⟩ := I
  obtain ⟨r, hX, hY, hr⟩ := lm_ref n d f c us bg bs (fun j => d (lm_tau j)) (fun j => f (lm_tau j)) (fun j => c (lm_kap j)) (upd bs 0 (-4)) v1
  unfold wpX_squash wpY_squash
  dsimp only
  exact hX _ (hY _ ⟨rfl, lm_R hI⟩)
