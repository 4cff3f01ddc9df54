/-! the loops: copying a tree, counting bits, who holds a layer, differences -/
def lm_cp (c : Nat → Int32) (so de : Nat) : Nat → (Nat → Int32)
  | 0 => c
  | k + 1 => upd (lm_cp c so de k) (de + k) (lm_cp c so de k (so + k))
theorem lm_cpK {c : Nat → Int32} {so de so' de' : Nat} : ∀ k : Nat, (∀ i, i < k → lm_kap (so + i) = so' + i) → (∀ i, i < k → lm_kap (de + i) = de' + i) → lm_cp (fun j => c (lm_kap j)) so de k = fun j => lm_cp c so' de' k (lm_kap j) := by
  intro k
  induction k with
  | zero => intro _ _; rfl
  | succ k ih =>
    intro h1 h2
    have e := ih (fun i hi => h1 i (by omega)) (fun i hi => h2 i (by omega))
    show upd (lm_cp (fun j => c (lm_kap j)) so de k) (de + k) (lm_cp (fun j => c (lm_kap j)) so de k (so + k)) = fun j => upd (lm_cp c so' de' k) (de' + k) (lm_cp c so' de' k (so' + k)) (lm_kap j)
    rw [e]
    exact lm_updK _ (h2 k (by omega)) (congrArg (lm_cp c so' de' k) (h1 k (by omega)))
theorem lm_xcl {post : SX → Prop} {L : Int32} {d f c us bg bs : Nat → Int32} {a b : Nat} (ha : a < 10) (hb : b < 10) (hp : post (L, d, f, lm_cp c (a * 8) (b * 8) 8, us, bg, bs)) : ∀ e i : Nat, i + e = 8 → wX_copyTree_26 post (nI a) (nI b) L (e + 1) (nI i) d f (lm_cp c (a * 8) (b * 8) i) us bg bs := by
  intro e
  induction e with
  | zero =>
    intro i hi
    obtain rfl : i = 8 := by omega
    exact br_t (nI_le (a := 8) (b := 8) (by omega) (by decide)) hp
  | succ e ih =>
    intro i hi
    have h8 : ¬ (8 : Int32) ≤ nI i := nI_ge (b := 8) (by omega) (by decide)
    have qa : vp_in ((nI a * 8) + nI i) 80 := by rw [lm_ix]; exact vp_in_nI (by omega) (by decide)
    have qb : vp_in ((nI b * 8) + nI i) 80 := by rw [lm_ix]; exact vp_in_nI (by omega) (by decide)
    have ec : upd (lm_cp c (a * 8) (b * 8) i) ((nI b * 8) + nI i).toNatClampNeg (lm_cp c (a * 8) (b * 8) i ((nI a * 8) + nI i).toNatClampNeg) = lm_cp c (a * 8) (b * 8) (i + 1) := by
      rw [lm_ix, lm_ix, nI_clamp (by omega), nI_clamp (by omega)]
      rfl
    exact br_f h8 ⟨qa, qb, nm_r ec (nm_r (nI_1 i) (ih (i + 1) (by omega)))⟩
theorem lm_xct {post : SX → Prop} {L : Int32} {d f c us bg bs : Nat → Int32} {x y : Int32} {a b : Nat} (hx : x = nI a) (ha : a < 10) (hy : y = nI b) (hb : b < 10) (hp : post (L, upd d b (d a), upd f b (f a), lm_cp c (a * 8) (b * 8) 8, us, bg, bs)) : wpX_copyTree post (L, d, f, c, us, bg, bs) x y := by
  subst hx hy
  have va := vp_in_nI (N := 10) ha (by decide)
  have vb := vp_in_nI (N := 10) hb (by decide)
  have e1 : upd d (nI b).toNatClampNeg (d (nI a).toNatClampNeg) = upd d b (d a) := by rw [nI_clamp (by omega), nI_clamp (by omega)]
  have e2 : upd f (nI b).toNatClampNeg (f (nI a).toNatClampNeg) = upd f b (f a) := by rw [nI_clamp (by omega), nI_clamp (by omega)]
  exact ⟨va, vb, nm_r e1 ⟨va, vb, nm_r e2 ⟨9, lm_xcl ha hb hp 8 0 rfl⟩⟩⟩
theorem lm_ycl {post : SY → Prop} {L : Int32} {d f c us bg bs : Nat → Int32} {a b : Nat} (ha : a < 10) (hb : b < 10) (hp : post (L, d, f, lm_cp c (8 * a) (8 * b) 8, bs, us, bg)) : ∀ e i : Nat, i + e = 8 → wY_copy_26 post (nI a) (nI b) L (e + 1) (nI i) d f (lm_cp c (8 * a) (8 * b) i) bs us bg := by
  intro e
  induction e with
  | zero =>
    intro i hi
    obtain rfl : i = 8 := by omega
    exact br_t (nI_le (a := 8) (b := 8) (by omega) (by decide)) hp
  | succ e ih =>
    intro i hi
    have h8 : ¬ (8 : Int32) ≤ nI i := nI_ge (b := 8) (by omega) (by decide)
    have qa : vp_in ((8 * nI a) + nI i) 80 := by rw [lm_iy]; exact vp_in_nI (by omega) (by decide)
    have qb : vp_in ((8 * nI b) + nI i) 80 := by rw [lm_iy]; exact vp_in_nI (by omega) (by decide)
    have ec : upd (lm_cp c (8 * a) (8 * b) i) ((8 * nI b) + nI i).toNatClampNeg (lm_cp c (8 * a) (8 * b) i ((8 * nI a) + nI i).toNatClampNeg) = lm_cp c (8 * a) (8 * b) (i + 1) := by
      rw [lm_iy, lm_iy, nI_clamp (by omega), nI_clamp (by omega)]
      rfl
    exact br_f h8 ⟨qa, qb, nm_r ec (nm_r (nI_1 i) (ih (i + 1) (by omega)))⟩
theorem lm_yct {post : SY → Prop} {L : Int32} {d f c us bg bs : Nat → Int32} {x y : Int32} {a b : Nat} (hx : x = nI a) (ha : a < 10) (hy : y = nI b) (hb : b < 10) (hp : post (L, upd d b (d a), upd f b (f a), lm_cp c (8 * a) (8 * b) 8, bs, us, bg)) : wpY_copy post (L, d, f, c, bs, us, bg) x y := by
  subst hx hy
  have va := vp_in_nI (N := 10) ha (by decide)
  have vb := vp_in_nI (N := 10) hb (by decide)
  have e1 : upd d (nI b).toNatClampNeg (d (nI a).toNatClampNeg) = upd d b (d a) := by rw [nI_clamp (by omega), nI_clamp (by omega)]
  have e2 : upd f (nI b).toNatClampNeg (f (nI a).toNatClampNeg) = upd f b (f a) := by rw [nI_clamp (by omega), nI_clamp (by omega)]
  exact ⟨va, vb, nm_r e1 ⟨va, vb, nm_r e2 ⟨9, lm_ycl ha hb hp 8 0 rfl⟩⟩⟩
/-- the number of the bits 0 to k - 1 -/
def lm_sz (x : Int32) : Nat → Int32
  | 0 => 0
  | k + 1 => lm_sz x k + ((x >>> (nI k &&& 31)) &&& 1)
theorem lm_xsl {post : Int32 → Prop} {x : Int32} (hp : post (lm_sz x 8)) : ∀ e i : Nat, i + e = 8 → wX_sizeOf_4 post x (e + 1) (lm_sz x i) (nI i) := by
  intro e
  induction e with
  | zero =>
    intro i hi
    obtain rfl : i = 8 := by omega
    exact br_t (nI_le (a := 8) (b := 8) (by omega) (by decide)) hp
  | succ e ih =>
    intro i hi
    have h8 : ¬ (8 : Int32) ≤ nI i := nI_ge (b := 8) (by omega) (by decide)
    exact br_f h8 (nm_r (e' := lm_sz x (i + 1)) rfl (nm_r (nI_1 i) (ih (i + 1) (by omega))))
theorem lm_xsz {post : Int32 → Prop} {x : Int32} (hp : post (lm_sz x 8)) : wpX_sizeOf post x := ⟨9, lm_xsl hp 8 0 rfl⟩
theorem lm_ysl {post : Int32 → Prop} {x : Int32} {L : Int32} {d f c us bg bs : Nat → Int32} (hp : post (lm_sz x 8)) : ∀ e i : Nat, i + e = 8 → wY_changes_33 post x L d f c bs us bg (e + 1) (lm_sz x i) (nI i) := by
  intro e
  induction e with
  | zero =>
    intro i hi
    obtain rfl : i = 8 := by omega
    exact br_t (nI_le (a := 8) (b := 8) (by omega) (by decide)) hp
  | succ e ih =>
    intro i hi
    have h8 : ¬ (8 : Int32) ≤ nI i := nI_ge (b := 8) (by omega) (by decide)
    exact br_f h8 (nm_r (e' := lm_sz x (i + 1)) rfl (nm_r (nI_1 i) (ih (i + 1) (by omega))))
theorem lm_ysz {post : Int32 → Prop} {x : Int32} {L : Int32} {d f c us bg bs : Nat → Int32} (hp : post (lm_sz x 8)) : ∃ n33 : Nat, wY_changes_33 post x L d f c bs us bg n33 0 0 := ⟨9, lm_ysl hp 8 0 rfl⟩
/-- does a mount hold layer x: in lockstep -/
theorem lm_isM {L L' x : Int32} {d f c us bg bs d' f' c' b' : Nat → Int32} : ∀ e i : Nat, i + e = 4 → ((∀ post : Int32 → Prop, post 1 → wX_isMounted_2 post x L d f c us bg bs (e + 1) (nI i)) ∧ (∀ post : Int32 → Prop, post 0 → wY_isFree_2 post x L' d' f' c' b' us bg (e + 1) (nI i))) ∨ ((∀ m, i ≤ m → m < 4 → ¬ us m = 0 → ¬ bg m = x) ∧ (∀ post : Int32 → Prop, post 0 → wX_isMounted_2 post x L d f c us bg bs (e + 1) (nI i)) ∧ (∀ post : Int32 → Prop, (∃ n36 : Nat, wY_isFree_36 post x L' d' f' c' b' us bg n36 0) → wY_isFree_2 post x L' d' f' c' b' us bg (e + 1) (nI i))) := by
  intro e
  induction e with
  | zero =>
    intro i hi
    obtain rfl : i = 4 := by omega
    have h : (4 : Int32) ≤ nI 4 := nI_le (a := 4) (b := 4) (by omega) (by decide)
    exact Or.inr ⟨fun m h1 h2 => by omega, fun _ hp => br_t h hp, fun _ hp => br_t h hp⟩
  | succ e ih =>
    intro i hi
    have h4 : ¬ (4 : Int32) ≤ nI i := nI_ge (b := 4) (by omega) (by decide)
    have v := vp_in_nI (n := i) (N := 4) (by omega) (by decide)
    have ec : (nI i).toNatClampNeg = i := nI_clamp (by omega)
    by_cases hu : us i = 0
    · have hu' : us (nI i).toNatClampNeg = 0 := by rw [ec]; exact hu
      rcases ih (i + 1) (by omega) with ⟨hX, hY⟩ | ⟨hN, hX, hY⟩
      · exact Or.inl ⟨fun post hp => br_f h4 ⟨v, br_t hu' (nm_r (nI_1 i) (hX post hp))⟩, fun post hp => br_f h4 ⟨v, br_t hu' (nm_r (nI_1 i) (hY post hp))⟩⟩
      · refine Or.inr ⟨fun m h1 h2 h3 => ?_, fun post hp => br_f h4 ⟨v, br_t hu' (nm_r (nI_1 i) (hX post hp))⟩, fun post hp => br_f h4 ⟨v, br_t hu' (nm_r (nI_1 i) (hY post hp))⟩⟩
        by_cases em : m = i
        · subst em
          exact absurd hu h3
        · exact hN m (by omega) h2 h3
    · have hu' : ¬ us (nI i).toNatClampNeg = 0 := by rw [ec]; exact hu
      by_cases hb : bg i = x
      · have hb' : bg (nI i).toNatClampNeg = x := by rw [ec]; exact hb
        exact Or.inl ⟨fun post hp => br_f h4 ⟨v, br_f hu' ⟨v, br_t hb' hp⟩⟩, fun post hp => br_f h4 ⟨v, br_f hu' ⟨v, br_t hb' hp⟩⟩⟩
      · have hb' : ¬ bg (nI i).toNatClampNeg = x := by rw [ec]; exact hb
        rcases ih (i + 1) (by omega) with ⟨hX, hY⟩ | ⟨hN, hX, hY⟩
        · exact Or.inl ⟨fun post hp => br_f h4 ⟨v, br_f hu' ⟨v, br_f hb' (nm_r (nI_1 i) (hX post hp))⟩⟩, fun post hp => br_f h4 ⟨v, br_f hu' ⟨v, br_f hb' (nm_r (nI_1 i) (hY post hp))⟩⟩⟩
        · refine Or.inr ⟨fun m h1 h2 h3 => ?_, fun post hp => br_f h4 ⟨v, br_f hu' ⟨v, br_f hb' (nm_r (nI_1 i) (hX post hp))⟩⟩, fun post hp => br_f h4 ⟨v, br_f hu' ⟨v, br_f hb' (nm_r (nI_1 i) (hY post hp))⟩⟩⟩
          by_cases em : m = i
          · subst em
            exact hb
          · exact hN m (by omega) h2 h3
theorem lm_isF {post : Int32 → Prop} {x : Int32} {n : Nat} {d f c us bg bs : Nat → Int32} (hn : n ≤ 6) (hb : ∀ l, l < n → ¬ bs l = x) (hp : post 1) : ∀ e i : Nat, i + e = n → wY_isFree_36 post x (nI n) d f c bs us bg (e + 1) (nI i) := by
  intro e
  induction e with
  | zero =>
    intro i hi
    obtain rfl : i = n := by omega
    exact br_t (nI_le (Nat.le_refl i) (by omega)) hp
  | succ e ih =>
    intro i hi
    have hl : ¬ nI n ≤ nI i := nI_ge (by omega) (by omega)
    have v := vp_in_nI (n := i) (N := 6) (by omega) (by decide)
    have hb' : ¬ bs (nI i).toNatClampNeg = x := by rw [nI_clamp (by omega)]; exact hb i (by omega)
    exact br_f hl ⟨v, br_f hb' (nm_r (nI_1 i) (ih (i + 1) (by omega)))⟩
/-- file j differs -/
def lm_D (fa fb : Int32) (ne : Nat → Bool) (j : Nat) : Bool := (bt fa j ^^ bt fb j) || (bt fa j && bt fb j && ne j)
def lm_S (D Z : Nat → Bool) (i : Nat) (s : Int32) : Prop := ∀ j, j < 32 → bt s j = if j < i then D j else Z j
theorem lm_S0 {D Z : Nat → Bool} {i : Nat} {s : Int32} (hi : i < 32) (hs : lm_S D Z i s) (hz : D i = Z i) : lm_S D Z (i + 1) s := by
  intro j hj
  rw [hs j hj]
  by_cases e : j = i
  · subst e
    rw [if_neg (by omega), if_pos (by omega), hz]
  · by_cases h : j < i
    · rw [if_pos h, if_pos (by omega)]
    · rw [if_neg h, if_neg (by omega)]
theorem lm_S1 {D Z : Nat → Bool} {i : Nat} {s : Int32} (hi : i < 32) (hs : lm_S D Z i s) (hz : D i = true) : lm_S D Z (i + 1) (s ||| ((1 : Int32) <<< (nI i &&& 31))) := by
  intro j hj
  rw [b_or, hs j hj, lm_b1 hi hj]
  by_cases e : j = i
  · subst e
    rw [if_pos (Nat.lt_succ_self j), hz, decide_eq_true (rfl : j = j), Bool.or_true]
  · rw [decide_eq_false e, Bool.or_false]
    by_cases h : j < i
    · rw [if_pos h, if_pos (by omega)]
    · rw [if_neg h, if_neg (by omega)]
theorem lm_xdl {post : Int32 → Prop} {L : Int32} {d f c us bg bs : Nat → Int32} {a b : Nat} (ha : a < 10) (hb : b < 10) {fa fb : Int32} {ne : Nat → Bool} (hne : ∀ j, j < 8 → (c (a * 8 + j) = c (b * 8 + j) ↔ ne j = false)) (hp : ∀ r : Int32, lm_S (lm_D fa fb ne) (fun j => bt fa j ^^ bt fb j) 8 r → post r) : ∀ (e i : Nat) (s : Int32), i + e = 8 → lm_S (lm_D fa fb ne) (fun j => bt fa j ^^ bt fb j) i s → wX_differences_32 post (nI a) (nI b) (fa &&& fb) L d f c us bg bs (e + 1) s (nI i) := by
  intro e
  induction e with
  | zero =>
    intro i s hi hs
    obtain rfl : i = 8 := by omega
    exact br_t (nI_le (a := 8) (b := 8) (by omega) (by decide)) (hp s hs)
  | succ e ih =>
    intro i s hi hs
    have h8 : ¬ (8 : Int32) ≤ nI i := nI_ge (b := 8) (by omega) (by decide)
    have qa : vp_in ((nI a * 8) + nI i) 80 := by rw [lm_ix]; exact vp_in_nI (by omega) (by decide)
    have qb : vp_in ((nI b * 8) + nI i) 80 := by rw [lm_ix]; exact vp_in_nI (by omega) (by decide)
    have ea : ((nI a * 8) + nI i).toNatClampNeg = a * 8 + i := by rw [lm_ix]; exact nI_clamp (by omega)
    have eb : ((nI b * 8) + nI i).toNatClampNeg = b * 8 + i := by rw [lm_ix]; exact nI_clamp (by omega)
    refine br_f h8 (lm_bitX (by omega) rfl (fun z => ?_) (fun z => ?_))
    · rw [b_and] at z
      have hz : lm_D fa fb ne i = (bt fa i ^^ bt fb i) := by unfold lm_D; rw [z, Bool.false_and, Bool.or_false]
      exact br_t rfl (nm_r (nI_1 i) (ih (i + 1) s (by omega) (lm_S0 (by omega) hs hz)))
    · rw [b_and] at z
      refine br_f lm_ne10 ⟨qa, qb, ?_⟩
      rw [ea, eb]
      refine br_c (fun h => ?_) (fun h => ?_)
      · have hz : lm_D fa fb ne i = (bt fa i ^^ bt fb i) := by unfold lm_D; rw [(hne i (by omega)).mp h, Bool.and_false, Bool.or_false]
        exact nm_r (nI_1 i) (ih (i + 1) s (by omega) (lm_S0 (by omega) hs hz))
      · have hn : ne i = true := by
          cases q : ne i
          · exact absurd ((hne i (by omega)).mpr q) h
          · rfl
        have hz : lm_D fa fb ne i = true := by unfold lm_D; rw [z, hn, Bool.true_and, Bool.or_true]
        exact nm_e (nm_r (nI_1 i) (ih (i + 1) _ (by omega) (lm_S1 (by omega) hs hz)))
theorem lm_xdf {post : Int32 → Prop} {L : Int32} {d f c us bg bs : Nat → Int32} {x y : Int32} {a b : Nat} (hx : x = nI a) (ha : a < 10) (hy : y = nI b) (hb : b < 10) {ne : Nat → Bool} (hne : ∀ j, j < 8 → (c (a * 8 + j) = c (b * 8 + j) ↔ ne j = false)) (hp : ∀ r : Int32, lm_S (lm_D (f a) (f b) ne) (fun j => bt (f a) j ^^ bt (f b) j) 8 r → post r) : wpX_differences post (L, d, f, c, us, bg, bs) x y := by
  subst hx hy
  have va := vp_in_nI (N := 10) ha (by decide)
  have vb := vp_in_nI (N := 10) hb (by decide)
  have e1 : (f (nI a).toNatClampNeg) ^^^ (f (nI b).toNatClampNeg) = f a ^^^ f b := by rw [nI_clamp (by omega), nI_clamp (by omega)]
  have e2 : (f (nI a).toNatClampNeg) &&& (f (nI b).toNatClampNeg) = f a &&& f b := by rw [nI_clamp (by omega), nI_clamp (by omega)]
  refine ⟨va, vb, nm_r e1 ⟨va, vb, nm_r e2 ⟨9, lm_xdl ha hb hne hp 8 0 (f a ^^^ f b) rfl ?_⟩⟩⟩
  intro j hj
  rw [if_neg (by omega), b_xor]
theorem lm_eq0 {A B : Prop} {p q : Bool} (h0 : p = q → A) (h1 : ¬ p = q → B) : (lm_i p = lm_i q → A) ∧ (¬ lm_i p = lm_i q → B) := by
  revert h0 h1
  cases p <;> cases q
  · exact fun h0 _ => br_t rfl (h0 rfl)
  · exact fun _ h1 => br_f (by decide) (h1 (by decide))
  · exact fun _ h1 => br_f (by decide) (h1 (by decide))
  · exact fun h0 _ => br_t rfl (h0 rfl)
theorem lm_ydl {post : Int32 → Prop} {L : Int32} {d f c us bg bs : Nat → Int32} {a b : Nat} (ha : a < 10) (hb : b < 10) {ne : Nat → Bool} (hne : ∀ j, j < 8 → (c (8 * a + j) = c (8 * b + j) ↔ ne j = false)) (hp : ∀ r : Int32, lm_S (lm_D (f a) (f b) ne) (fun _ => false) 8 r → post r) : ∀ (e i : Nat) (s : Int32), i + e = 8 → lm_S (lm_D (f a) (f b) ne) (fun _ => false) i s → wY_differing_5 post (nI a) (nI b) L d f c bs us bg (e + 1) s (nI i) := by
  intro e
  induction e with
  | zero =>
    intro i s hi hs
    obtain rfl : i = 8 := by omega
    exact br_t (nI_le (a := 8) (b := 8) (by omega) (by decide)) (hp s hs)
  | succ e ih =>
    intro i s hi hs
    have h8 : ¬ (8 : Int32) ≤ nI i := nI_ge (b := 8) (by omega) (by decide)
    have qa : vp_in ((8 * nI a) + nI i) 80 := by rw [lm_iy]; exact vp_in_nI (by omega) (by decide)
    have qb : vp_in ((8 * nI b) + nI i) 80 := by rw [lm_iy]; exact vp_in_nI (by omega) (by decide)
    have ea : ((8 * nI a) + nI i).toNatClampNeg = 8 * a + i := by rw [lm_iy]; exact nI_clamp (by omega)
    have eb : ((8 * nI b) + nI i).toNatClampNeg = 8 * b + i := by rw [lm_iy]; exact nI_clamp (by omega)
    have go0 : lm_D (f a) (f b) ne i = false → wY_differing_70 post (wY_differing_5 post (nI a) (nI b) L d f c bs us bg (e + 1)) (nI a) (nI b) s (nI i) L d f c bs us bg := fun hz => br_t rfl (nm_r (nI_1 i) (ih (i + 1) s (by omega) (lm_S0 (by omega) hs hz)))
    have go1 : lm_D (f a) (f b) ne i = true → wY_differing_66 post (wY_differing_5 post (nI a) (nI b) L d f c bs us bg (e + 1)) (nI a) (nI b) s (nI i) L d f c bs us bg := fun hz => br_f lm_ne10 (nm_e (nm_r (nI_1 i) (ih (i + 1) _ (by omega) (lm_S1 (by omega) hs hz))))
    refine br_f h8 (lm_yhf rfl ha rfl (by omega) rfl (lm_yhf rfl hb rfl (by omega) rfl (lm_eq0 (fun h => lm_yhf rfl ha rfl (by omega) rfl ?_) (fun h => go1 ?_))))
    · cases q : bt (f a) i
      · refine br_t rfl (go0 ?_)
        unfold lm_D
        rw [← h, q]
        rfl
      · refine br_f lm_ne10 ⟨qa, qb, ?_⟩
        rw [ea, eb]
        refine br_c (fun z => go0 ?_) (fun z => go1 ?_)
        · unfold lm_D
          rw [← h, q, (hne i (by omega)).mp z]
          rfl
        · have hn : ne i = true := by
            cases q : ne i
            · exact absurd ((hne i (by omega)).mpr q) z
            · rfl
          unfold lm_D
          rw [← h, q, hn]
          rfl
    · unfold lm_D
      revert h
      cases bt (f a) i <;> cases bt (f b) i
      · exact fun h => absurd rfl h
      · exact fun _ => rfl
      · exact fun _ => rfl
      · exact fun h => absurd rfl h
theorem lm_ydf {post : Int32 → Prop} {L : Int32} {d f c us bg bs : Nat → Int32} {x y : Int32} {a b : Nat} (hx : x = nI a) (ha : a < 10) (hy : y = nI b) (hb : b < 10) {ne : Nat → Bool} (hne : ∀ j, j < 8 → (c (8 * a + j) = c (8 * b + j) ↔ ne j = false)) (hp : ∀ r : Int32, lm_S (lm_D (f a) (f b) ne) (fun _ => false) 8 r → post r) : wpY_differing post (L, d, f, c, bs, us, bg) x y := by
  subst hx hy
  refine ⟨9, lm_ydl ha hb hne hp 8 0 0 rfl ?_⟩
  intro j hj
  rw [if_neg (by omega), b_0]
/-- both sides find the same set of differing files -/
theorem lm_same {fa fb : Int32} (ha : lm_By fa) (hb : lm_By fb) {ne : Nat → Bool} {r r' : Int32} (h : lm_S (lm_D fa fb ne) (fun j => bt fa j ^^ bt fb j) 8 r) (h' : lm_S (lm_D fa fb ne) (fun _ => false) 8 r') : r' = r := by
  apply b_ext
  intro i hi
  rw [h i hi, h' i hi]
  by_cases e : i < 8
  · rw [if_pos e, if_pos e]
  · rw [if_neg e, if_neg e]
    show false = (bt fa i ^^ bt fb i)
    rw [lm_by_hi ha (Nat.not_lt.mp e), lm_by_hi hb (Nat.not_lt.mp e)]
    rfl
/-- the number of the bits s to s + k - 1, as the reference counts -/
def lm_ct (x : Int32) (s : Nat) : Nat → Int32
  | 0 => 0
  | k + 1 => if bt x (s + k) = true then lm_ct x s k + 1 else lm_ct x s k
theorem lm_cnt0 : ∀ w, w < 256 → lm_sz (nI w &&& ((15 : Int32) <<< ((nI 0 * 4) &&& 31))) 8 = lm_ct (nI w) (4 * 0) 4 := by decide +kernel
theorem lm_cnt1 : ∀ w, w < 256 → lm_sz (nI w &&& ((15 : Int32) <<< ((nI 1 * 4) &&& 31))) 8 = lm_ct (nI w) (4 * 1) 4 := by decide +kernel
theorem lm_cnt {x : Int32} (h : lm_By x) {q : Nat} (hq : q < 2) : lm_ct x (4 * q) 4 = lm_sz (x &&& ((15 : Int32) <<< ((nI q * 4) &&& 31))) 8 := by
  obtain ⟨w, hw, rfl⟩ := lm_by_nI h
  rcases (by omega : q = 0 ∨ q = 1) with rfl | rfl
  · exact (lm_cnt0 w hw).symm
  · exact (lm_cnt1 w hw).symm
theorem lm_yrl {post : Int32 → SY → Prop} {L : Int32} {d f c us bg bs : Nat → Int32} {m q : Nat} (hm : m < 4) (hq : q < 2) (hp : post (lm_ct (f (6 + m)) (4 * q) 4) (L, upd d (6 + m) (d (6 + m) &&& (((1 : Int32) <<< (nI q &&& 31)) ^^^ (-1))), upd f (6 + m) (f (6 + m) &&& (((15 : Int32) <<< ((4 * nI q) &&& 31)) ^^^ (-1))), c, bs, us, bg)) : ∀ e i : Nat, i + e = 4 → wY_rmdir_36 post (nI m) (nI q) L d f c bs us bg (e + 1) (lm_ct (f (6 + m)) (4 * q) i) (nI (4 * q + i)) := by
  have e6 : (6 : Int32) + nI m = nI (6 + m) := nI_add 6 m
  have v : vp_in ((6 : Int32) + nI m) 10 := by rw [e6]; exact vp_in_nI (by omega) (by decide)
  have e4 : ((4 : Int32) * nI q) + 4 = nI (4 * q + 4) := by rw [show (4 : Int32) * nI q = nI (4 * q) from pk_mul 4 q]; exact nI_add (4 * q) 4
  have u1 : upd f ((6 : Int32) + nI m).toNatClampNeg ((f ((6 : Int32) + nI m).toNatClampNeg) &&& (((15 : Int32) <<< ((4 * nI q) &&& 31)) ^^^ (-1))) = upd f (6 + m) (f (6 + m) &&& (((15 : Int32) <<< ((4 * nI q) &&& 31)) ^^^ (-1))) := by rw [e6, nI_clamp (by omega)]
  have u2 : upd d ((6 : Int32) + nI m).toNatClampNeg ((d ((6 : Int32) + nI m).toNatClampNeg) &&& (((1 : Int32) <<< (nI q &&& 31)) ^^^ (-1))) = upd d (6 + m) (d (6 + m) &&& (((1 : Int32) <<< (nI q &&& 31)) ^^^ (-1))) := by rw [e6, nI_clamp (by omega)]
  intro e
  induction e with
  | zero =>
    intro i hi
    obtain rfl : i = 4 := by omega
    have h : ((4 : Int32) * nI q) + 4 ≤ nI (4 * q + 4) := by rw [e4]; exact nI_le (Nat.le_refl _) (by omega)
    exact br_t h ⟨v, v, nm_r u1 ⟨v, v, nm_r u2 hp⟩⟩
  | succ e ih =>
    intro i hi
    have h : ¬ ((4 : Int32) * nI q) + 4 ≤ nI (4 * q + i) := by rw [e4]; exact nI_ge (by omega) (by omega)
    refine br_f h (lm_yhf e6 (by omega) rfl (by omega) rfl ?_)
    have g := ih (i + 1) (by omega)
    cases z : bt (f (6 + m)) (4 * q + i)
    · have ec : lm_ct (f (6 + m)) (4 * q) (i + 1) = lm_ct (f (6 + m)) (4 * q) i := by
        show (if bt (f (6 + m)) (4 * q + i) = true then _ else _) = _
        rw [z]
        rfl
      rw [ec] at g
      exact br_t rfl (nm_r (nI_1 (4 * q + i)) g)
    · have ec : lm_ct (f (6 + m)) (4 * q) i + 1 = lm_ct (f (6 + m)) (4 * q) (i + 1) := by
        show _ = (if bt (f (6 + m)) (4 * q + i) = true then _ else _)
        rw [z]
        rfl
      exact br_f lm_ne10 (nm_r ec (nm_r (nI_1 (4 * q + i)) g))
