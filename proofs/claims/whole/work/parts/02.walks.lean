/-! the small walks of both sides -/
theorem lm_nn {x : Int32} {n : Nat} (hn : n < 2 ^ 31) (h : nI n ≤ x) : ¬ x < 0 := Int32.not_lt.mpr (Int32.le_trans (nI_pos' hn) h)
theorem lm_nle {x : Int32} {n m : Nat} (hn : n < 2 ^ 31) (hm : m < n) (h : nI n ≤ x) : ¬ x ≤ nI m := fun z => nI_ge hm hn (Int32.le_trans h z)
theorem lm_ne10 : ¬ (1 : Int32) = 0 := by decide
theorem lm_xmB {post : Int32 → Prop} {x : Int32} (h : x < 0 ∨ nI 4 ≤ x) (hp : post 0) : wpX_isMount post x := by
  rcases h with h | h
  · exact br_t h hp
  · exact br_f (lm_nn (by decide) h) (br_t h hp)
theorem lm_xmK {post : Int32 → Prop} {m : Nat} (hm : m < 4) (hp : post 1) : wpX_isMount post (nI m) :=
  br_f (nI_pos (by omega)) (br_f (nI_ge (b := 4) hm (by decide)) hp)
theorem lm_xdB {post : Int32 → Prop} {x : Int32} (h : x < 0 ∨ nI 2 ≤ x) (hp : post 0) : wpX_isDirectory post x := by
  rcases h with h | h
  · exact br_t h hp
  · exact br_f (lm_nn (by decide) h) (br_t h hp)
theorem lm_xdK {post : Int32 → Prop} {m : Nat} (hm : m < 2) (hp : post 1) : wpX_isDirectory post (nI m) :=
  br_f (nI_pos (by omega)) (br_f (nI_ge (b := 2) hm (by decide)) hp)
theorem lm_xfB {post : Int32 → Prop} {x : Int32} (h : x < 0 ∨ nI 8 ≤ x) (hp : post 0) : wpX_isFile post x := by
  rcases h with h | h
  · exact br_t h hp
  · exact br_f (lm_nn (by decide) h) (br_t h hp)
theorem lm_xfK {post : Int32 → Prop} {m : Nat} (hm : m < 8) (hp : post 1) : wpX_isFile post (nI m) :=
  br_f (nI_pos (by omega)) (br_f (nI_ge (b := 8) hm (by decide)) hp)
theorem lm_xlB {post : Int32 → Prop} {n : Nat} {d f c us bg bs : Nat → Int32} {x : Int32} (hn : n < 2 ^ 31) (h : x < 0 ∨ nI n ≤ x) (hp : post 0) : wpX_isLayer post (nI n, d, f, c, us, bg, bs) x := by
  rcases h with h | h
  · exact br_t h hp
  · exact br_f (lm_nn hn h) (br_t h hp)
theorem lm_xlK {post : Int32 → Prop} {n : Nat} {d f c us bg bs : Nat → Int32} {l : Nat} (hn : n < 2 ^ 31) (hl : l < n) (hp : post 1) : wpX_isLayer post (nI n, d, f, c, us, bg, bs) (nI l) :=
  br_f (nI_pos (by omega)) (br_f (nI_ge hl hn) hp)
theorem lm_ylB {post : Int32 → Prop} {n : Nat} {d f c us bg bs : Nat → Int32} {x : Int32} (hn : n < 2 ^ 31) (h : x < 0 ∨ nI n ≤ x) (hp : post 0) : wpY_isLayer post (nI n, d, f, c, bs, us, bg) x := by
  rcases h with h | h
  · exact br_t h hp
  · exact br_f (lm_nn hn h) (br_t h hp)
theorem lm_ylK {post : Int32 → Prop} {n : Nat} {d f c us bg bs : Nat → Int32} {l : Nat} (hn : n < 2 ^ 31) (hl : l < n) (hp : post 1) : wpY_isLayer post (nI n, d, f, c, bs, us, bg) (nI l) :=
  br_f (nI_pos (by omega)) (br_f (nI_ge hl hn) hp)
theorem lm_ytB {post : Int32 → Prop} {L : Int32} {d f c us bg bs : Nat → Int32} {x : Int32} (h : x < 0 ∨ nI 4 ≤ x) (hp : post (-1)) : wpY_test post (L, d, f, c, bs, us, bg) x := by
  rcases h with h | h
  · exact br_t h hp
  · exact br_f (lm_nn (by decide) h) (br_f (lm_nle (m := 3) (by decide) (by decide) h) hp)
theorem lm_ytU {post : Int32 → Prop} {L : Int32} {d f c us bg bs : Nat → Int32} {m : Nat} (hm : m < 4) (hu : us m = 0) (hp : post (-3)) : wpY_test post (L, d, f, c, bs, us, bg) (nI m) := by
  have e : us (nI m).toNatClampNeg = 0 := by rw [nI_clamp (by omega)]; exact hu
  exact br_f (nI_pos (by omega)) (br_t (nI_le (b := 3) (by omega) (by decide)) ⟨vp_in_nI hm (by decide), br_t e hp⟩)
theorem lm_ytV {post : Int32 → Prop} {L : Int32} {d f c us bg bs : Nat → Int32} {m : Nat} (hm : m < 4) (hu : ¬ us m = 0) (hp : post 0) : wpY_test post (L, d, f, c, bs, us, bg) (nI m) := by
  have e : ¬ us (nI m).toNatClampNeg = 0 := by rw [nI_clamp (by omega)]; exact hu
  exact br_f (nI_pos (by omega)) (br_t (nI_le (b := 3) (by omega) (by decide)) ⟨vp_in_nI hm (by decide), br_f e hp⟩)
theorem lm_xrB {post : Int32 → Prop} {L : Int32} {d f c us bg bs : Nat → Int32} {x : Int32} (h : x < 0 ∨ nI 4 ≤ x) (hp : post (-1)) : wpX_refusalOf post (L, d, f, c, us, bg, bs) x := by
  unfold wpX_refusalOf
  exact lm_xmB h (br_t rfl hp)
theorem lm_xrU {post : Int32 → Prop} {L : Int32} {d f c us bg bs : Nat → Int32} {m : Nat} (hm : m < 4) (hu : us m = 0) (hp : post (-3)) : wpX_refusalOf post (L, d, f, c, us, bg, bs) (nI m) := by
  have e : us (nI m).toNatClampNeg = 0 := by rw [nI_clamp (by omega)]; exact hu
  unfold wpX_refusalOf
  exact lm_xmK hm (br_f lm_ne10 ⟨vp_in_nI hm (by decide), br_t e hp⟩)
theorem lm_xrV {post : Int32 → Prop} {L : Int32} {d f c us bg bs : Nat → Int32} {m : Nat} (hm : m < 4) (hu : ¬ us m = 0) (hp : post 0) : wpX_refusalOf post (L, d, f, c, us, bg, bs) (nI m) := by
  have e : ¬ us (nI m).toNatClampNeg = 0 := by rw [nI_clamp (by omega)]; exact hu
  unfold wpX_refusalOf
  exact lm_xmK hm (br_f lm_ne10 ⟨vp_in_nI hm (by decide), br_f e hp⟩)
/-- both sides refuse alike -/
theorem lm_ref (n : Nat) (d f c us bg bs d' f' c' b' : Nat → Int32) (x : Int32) : ∃ r : Int32, (∀ post : Int32 → Prop, post r → wpX_refusalOf post (nI n, d, f, c, us, bg, bs) x) ∧ (∀ post : Int32 → Prop, post r → wpY_test post (nI n, d', f', c', b', us, bg) x) ∧ (¬ r = 0 ∨ (r = 0 ∧ ∃ m : Nat, m < 4 ∧ x = nI m ∧ ¬ us m = 0)) := by
  rcases pk_ix x (n := 4) (by decide) with h | h | ⟨m, hm, rfl⟩
  · exact ⟨-1, fun _ hp => lm_xrB (Or.inl h) hp, fun _ hp => lm_ytB (Or.inl h) hp, Or.inl (by decide)⟩
  · exact ⟨-1, fun _ hp => lm_xrB (Or.inr h) hp, fun _ hp => lm_ytB (Or.inr h) hp, Or.inl (by decide)⟩
  · by_cases hu : us m = 0
    · exact ⟨-3, fun _ hp => lm_xrU hm hu hp, fun _ hp => lm_ytU hm hu hp, Or.inl (by decide)⟩
    · exact ⟨0, fun _ hp => lm_xrV hm hu hp, fun _ hp => lm_ytV hm hu hp, Or.inr ⟨rfl, m, hm, rfl, hu⟩⟩
theorem lm_tdN {post : Int32 → Prop} {L : Int32} {d f c us bg bs : Nat → Int32} {x y r : Int32} (hY : ∀ post : Int32 → Prop, post r → wpY_test post (L, d, f, c, bs, us, bg) x) (hr : ¬ r = 0) (hp : post r) : wpY_testDirectory post (L, d, f, c, bs, us, bg) x y := by
  unfold wpY_testDirectory
  exact hY _ (br_f hr hp)
theorem lm_tdB {post : Int32 → Prop} {L : Int32} {d f c us bg bs : Nat → Int32} {x y : Int32} (hY : ∀ post : Int32 → Prop, post 0 → wpY_test post (L, d, f, c, bs, us, bg) x) (h : y < 0 ∨ nI 2 ≤ y) (hp : post (-1)) : wpY_testDirectory post (L, d, f, c, bs, us, bg) x y := by
  unfold wpY_testDirectory
  refine hY _ (br_t rfl ?_)
  rcases h with h | h
  · exact br_t h hp
  · exact br_f (lm_nn (by decide) h) (br_f (lm_nle (m := 1) (by decide) (by decide) h) hp)
theorem lm_tdK {post : Int32 → Prop} {L : Int32} {d f c us bg bs : Nat → Int32} {x : Int32} {j : Nat} (hY : ∀ post : Int32 → Prop, post 0 → wpY_test post (L, d, f, c, bs, us, bg) x) (hj : j < 2) (hp : post 0) : wpY_testDirectory post (L, d, f, c, bs, us, bg) x (nI j) := by
  unfold wpY_testDirectory
  exact hY _ (br_t rfl (br_f (nI_pos (by omega)) (br_t (nI_le (b := 1) (by omega) (by decide)) hp)))
theorem lm_tfN {post : Int32 → Prop} {L : Int32} {d f c us bg bs : Nat → Int32} {x y r : Int32} (hY : ∀ post : Int32 → Prop, post r → wpY_test post (L, d, f, c, bs, us, bg) x) (hr : ¬ r = 0) (hp : post r) : wpY_testFile post (L, d, f, c, bs, us, bg) x y := by
  unfold wpY_testFile
  exact hY _ (br_f hr hp)
theorem lm_tfB {post : Int32 → Prop} {L : Int32} {d f c us bg bs : Nat → Int32} {x y : Int32} (hY : ∀ post : Int32 → Prop, post 0 → wpY_test post (L, d, f, c, bs, us, bg) x) (h : y < 0 ∨ nI 8 ≤ y) (hp : post (-1)) : wpY_testFile post (L, d, f, c, bs, us, bg) x y := by
  unfold wpY_testFile
  refine hY _ (br_t rfl ?_)
  rcases h with h | h
  · exact br_t h hp
  · exact br_f (lm_nn (by decide) h) (br_f (lm_nle (m := 7) (by decide) (by decide) h) hp)
theorem lm_tfK {post : Int32 → Prop} {L : Int32} {d f c us bg bs : Nat → Int32} {x : Int32} {j : Nat} (hY : ∀ post : Int32 → Prop, post 0 → wpY_test post (L, d, f, c, bs, us, bg) x) (hj : j < 8) (hp : post 0) : wpY_testFile post (L, d, f, c, bs, us, bg) x (nI j) := by
  unfold wpY_testFile
  exact hY _ (br_t rfl (br_f (nI_pos (by omega)) (br_t (nI_le (b := 7) (by omega) (by decide)) hp)))
theorem lm_bitX {A B : Prop} {b : Bool} {x : Int32} {j : Nat} (hj : j < 32) (hb : bt x j = b) (h0 : b = false → A) (h1 : b = true → B) : ((x &&& ((1 : Int32) <<< (nI j &&& 31))) = 0 → A) ∧ (¬ (x &&& ((1 : Int32) <<< (nI j &&& 31))) = 0 → B) := by
  rw [lm_bit x hj, hb]
  exact ⟨h0, fun z => h1 (by cases b; exact absurd rfl z; rfl)⟩
theorem lm_bitY {A B : Prop} {b : Bool} {x : Int32} {j : Nat} (hj : j < 32) (hb : bt x j = b) (h0 : b = false → B) (h1 : b = true → A) : (((x >>> (nI j &&& 31)) &&& 1) = 1 → A) ∧ (¬ ((x >>> (nI j &&& 31)) &&& 1) = 1 → B) := by
  rw [lm_bit1 x hj, hb]
  cases b
  · exact ⟨fun z => absurd z (by decide), fun _ => h0 rfl⟩
  · exact ⟨fun _ => h1 rfl, fun z => absurd rfl z⟩
theorem lm_xhd {post : Int32 → Prop} {L : Int32} {d f c us bg bs : Nat → Int32} {x y : Int32} {t j : Nat} {b : Bool} (hx : x = nI t) (ht : t < 10) (hy : y = nI j) (hj : j < 32) (hb : bt (d t) j = b) (hp : post (lm_i b)) : wpX_hasDirectory post (L, d, f, c, us, bg, bs) x y := by
  subst hx hy
  have e : bt (d (nI t).toNatClampNeg) j = b := by rw [nI_clamp (by omega)]; exact hb
  exact ⟨vp_in_nI ht (by decide), lm_bitX hj e (fun z => by subst z; exact hp) (fun z => by subst z; exact hp)⟩
theorem lm_xhf {post : Int32 → Prop} {L : Int32} {d f c us bg bs : Nat → Int32} {x y : Int32} {t j : Nat} {b : Bool} (hx : x = nI t) (ht : t < 10) (hy : y = nI j) (hj : j < 32) (hb : bt (f t) j = b) (hp : post (lm_i b)) : wpX_hasFile post (L, d, f, c, us, bg, bs) x y := by
  subst hx hy
  have e : bt (f (nI t).toNatClampNeg) j = b := by rw [nI_clamp (by omega)]; exact hb
  exact ⟨vp_in_nI ht (by decide), lm_bitX hj e (fun z => by subst z; exact hp) (fun z => by subst z; exact hp)⟩
theorem lm_yhd {post : Int32 → Prop} {L : Int32} {d f c us bg bs : Nat → Int32} {x y : Int32} {t j : Nat} {b : Bool} (hx : x = nI t) (ht : t < 10) (hy : y = nI j) (hj : j < 32) (hb : bt (d t) j = b) (hp : post (lm_i b)) : wpY_hasDirectory post (L, d, f, c, bs, us, bg) x y := by
  subst hx hy
  have e : bt (d (nI t).toNatClampNeg) j = b := by rw [nI_clamp (by omega)]; exact hb
  exact ⟨vp_in_nI ht (by decide), lm_bitY hj e (fun z => by subst z; exact hp) (fun z => by subst z; exact hp)⟩
theorem lm_yhf {post : Int32 → Prop} {L : Int32} {d f c us bg bs : Nat → Int32} {x y : Int32} {t j : Nat} {b : Bool} (hx : x = nI t) (ht : t < 10) (hy : y = nI j) (hj : j < 32) (hb : bt (f t) j = b) (hp : post (lm_i b)) : wpY_has post (L, d, f, c, bs, us, bg) x y := by
  subst hx hy
  have e : bt (f (nI t).toNatClampNeg) j = b := by rw [nI_clamp (by omega)]; exact hb
  exact ⟨vp_in_nI ht (by decide), lm_bitY hj e (fun z => by subst z; exact hp) (fun z => by subst z; exact hp)⟩
theorem lm_ix (t j : Nat) : (nI t * 8) + nI j = nI (t * 8 + j) := by
  rw [show nI t * 8 = nI (t * 8) from pk_mul t 8, nI_add]
theorem lm_iy (t j : Nat) : (8 * nI t) + nI j = nI (8 * t + j) := by
  rw [show 8 * nI t = nI (8 * t) from pk_mul 8 t, nI_add]
theorem lm_xput {post : Int32 → SX → Prop} {L : Int32} {d f c us bg bs : Nat → Int32} {x y w : Int32} {t j : Nat} (hx : x = nI t) (ht : t < 10) (hy : y = nI j) (hj : j < 8) (hp : post (lm_i (bt (f t) j)) (L, d, upd f t (f t ||| ((1 : Int32) <<< (nI j &&& 31))), upd c (t * 8 + j) w, us, bg, bs)) : wpX_putFile post (L, d, f, c, us, bg, bs) x y w := by
  subst hx hy
  have v := vp_in_nI (N := 10) ht (by decide)
  have q : vp_in ((nI t * 8) + nI j) 80 := by rw [lm_ix]; exact vp_in_nI (by omega) (by decide)
  have e1 : upd f (nI t).toNatClampNeg ((f (nI t).toNatClampNeg) ||| ((1 : Int32) <<< (nI j &&& 31))) = upd f t (f t ||| ((1 : Int32) <<< (nI j &&& 31))) := by rw [nI_clamp (by omega)]
  have e2 : upd c ((nI t * 8) + nI j).toNatClampNeg w = upd c (t * 8 + j) w := by rw [lm_ix, nI_clamp (by omega)]
  unfold wpX_putFile
  refine lm_xhf rfl ht rfl (by omega) rfl ?_
  revert hp
  cases bt (f t) j
  · exact fun hp => br_t rfl ⟨v, v, nm_r e1 ⟨q, nm_r e2 hp⟩⟩
  · exact fun hp => br_f lm_ne10 ⟨v, v, nm_r e1 ⟨q, nm_r e2 hp⟩⟩
theorem lm_yput {post : Int32 → SY → Prop} {L : Int32} {d f c us bg bs : Nat → Int32} {x y w : Int32} {t j : Nat} (hx : x = nI t) (ht : t < 10) (hy : y = nI j) (hj : j < 8) (hp : post (lm_i (bt (f t) j)) (L, d, upd f t (f t ||| ((1 : Int32) <<< (nI j &&& 31))), upd c (8 * t + j) w, bs, us, bg)) : wpY_put post (L, d, f, c, bs, us, bg) x y w := by
  subst hx hy
  have v := vp_in_nI (N := 10) ht (by decide)
  have q : vp_in ((8 * nI t) + nI j) 80 := by rw [lm_iy]; exact vp_in_nI (by omega) (by decide)
  have e1 : upd f (nI t).toNatClampNeg ((f (nI t).toNatClampNeg) ||| ((1 : Int32) <<< (nI j &&& 31))) = upd f t (f t ||| ((1 : Int32) <<< (nI j &&& 31))) := by rw [nI_clamp (by omega)]
  have e2 : upd c ((8 * nI t) + nI j).toNatClampNeg w = upd c (8 * t + j) w := by rw [lm_iy, nI_clamp (by omega)]
  unfold wpY_put
  refine lm_yhf rfl ht rfl (by omega) rfl ?_
  revert hp
  cases bt (f t) j
  · exact fun hp => br_t rfl ⟨v, v, nm_r e1 ⟨q, nm_r e2 hp⟩⟩
  · exact fun hp => br_f lm_ne10 ⟨v, v, nm_r e1 ⟨q, nm_r e2 hp⟩⟩
theorem lm_xtk {post : SX → Prop} {L : Int32} {d f c us bg bs : Nat → Int32} {t : Nat} {y : Int32} (ht : t < 10) (hp : post (L, d, upd f t (f t &&& (((1 : Int32) <<< (y &&& 31)) ^^^ (-1))), c, us, bg, bs)) : wpX_takeFile post (L, d, f, c, us, bg, bs) (nI t) y := by
  have v := vp_in_nI (N := 10) ht (by decide)
  have e1 : upd f (nI t).toNatClampNeg ((f (nI t).toNatClampNeg) &&& (((1 : Int32) <<< (y &&& 31)) ^^^ (-1))) = upd f t (f t &&& (((1 : Int32) <<< (y &&& 31)) ^^^ (-1))) := by rw [nI_clamp (by omega)]
  exact ⟨v, v, nm_r e1 hp⟩
