section
/-! rows pasted from the kit -/
theorem pk_us {f : Nat → Int32} {k : Nat} {x : Int32} : upd f k x k = x := if_pos rfl
theorem pk_un {f : Nat → Int32} {k j : Nat} {x : Int32} (h : j ≠ k) : upd f k x j = f j := if_neg h
theorem pk_sub {a b : Nat} (h : b ≤ a) : nI a - nI b = nI (a - b) := by
  obtain ⟨c, rfl⟩ : ∃ c, a = c + b := ⟨a - b, by omega⟩
  rw [← nI_add, Int32.add_sub_cancel, Nat.add_sub_cancel]
theorem pk_mul (a b : Nat) : nI a * nI b = nI (a * b) := (Int32.ofNat_mul a b).symm
theorem pk_div {a d : Nat} (ha : a < 2 ^ 31) (h0 : 0 < d) (hd : d < 2 ^ 31) : nI a / nI d = nI (a / d) := by
  apply Int32.toInt_inj.mp
  rw [lg_idiv_nonneg (by rw [nI_toInt ha]; omega) (by rw [nI_toInt hd]; omega), nI_toInt ha, nI_toInt hd, nI_toInt (Nat.lt_of_le_of_lt (Nat.div_le_self a d) ha)]
  first | rfl | exact (Int.natCast_ediv _ _).symm
theorem pk_ix (x : Int32) {n : Nat} (hn : n < 2 ^ 31) : x < 0 ∨ nI n ≤ x ∨ ∃ j : Nat, j < n ∧ x = nI j := by
  by_cases h : x < 0
  · exact Or.inl h
  · obtain ⟨j, hj, rfl⟩ := nI_of h
    by_cases h2 : j < n
    · exact Or.inr (Or.inr ⟨j, h2, rfl⟩)
    · exact Or.inr (Or.inl (nI_le (by omega) hj))
theorem pk_and (x : Int32) {m : Int32} (k : Nat) (hm : m.toBitVec.toNat = 2 ^ k - 1) : x &&& m = nI (x.toBitVec.toNat % 2 ^ k) := by
  apply Int32.toBitVec_inj.mp
  apply BitVec.eq_of_toNat_eq
  rw [Int32.toBitVec_and, BitVec.toNat_and, hm, Nat.and_two_pow_sub_one_eq_mod]
  show _ = (BitVec.ofNat 32 _).toNat
  rw [BitVec.toNat_ofNat]
  exact (Nat.mod_eq_of_lt (Nat.lt_of_le_of_lt (Nat.mod_le _ _) x.toBitVec.isLt)).symm
theorem pk_andE (x : Int32) {m : Int32} (k : Nat) (hm : m.toBitVec.toNat = 2 ^ k - 1) : ∃ j : Nat, j < 2 ^ k ∧ x &&& m = nI j := ⟨_, Nat.mod_lt _ (Nat.two_pow_pos k), pk_and x k hm⟩
def bt (x : Int32) (i : Nat) : Bool := x.toBitVec.getLsbD i
theorem b_ext {x y : Int32} (h : ∀ i, i < 32 → bt x i = bt y i) : x = y := Int32.toBitVec_inj.mp (BitVec.eq_of_getLsbD_eq (fun i hi => h i hi))
theorem b_or (x y : Int32) (i : Nat) : bt (x ||| y) i = (bt x i || bt y i) := by unfold bt; rw [Int32.toBitVec_or, BitVec.getLsbD_or]
theorem b_and (x y : Int32) (i : Nat) : bt (x &&& y) i = (bt x i && bt y i) := by unfold bt; rw [Int32.toBitVec_and, BitVec.getLsbD_and]
theorem b_xor (x y : Int32) (i : Nat) : bt (x ^^^ y) i = (bt x i ^^ bt y i) := by unfold bt; rw [Int32.toBitVec_xor, BitVec.getLsbD_xor]
theorem b_big {x : Int32} {i : Nat} (h : 32 ≤ i) : bt x i = false := BitVec.getLsbD_of_ge _ _ h
theorem b_255 (i : Nat) : bt 255 i = decide (i < 8) := by
  rcases Nat.lt_or_ge i 32 with h | h
  · exact (by decide +kernel : ∀ i, i < 32 → bt 255 i = decide (i < 8)) i h
  · rw [b_big h, decide_eq_false (by omega)]
theorem b_m1 : ∀ i, i < 32 → bt (-1) i = true := by decide +kernel
theorem b_0 (i : Nat) : bt 0 i = false := BitVec.getLsbD_zero
theorem s_l : ∀ n, n < 32 → ((nI n &&& 31).toBitVec.smod 32).toNat = n := by decide +kernel
theorem b_shl (n : Nat) (hn : n < 32) (x : Int32) {i : Nat} (hi : i < 32) : bt (x <<< (nI n &&& 31)) i = (decide (n ≤ i) && bt x (i - n)) := by
  unfold bt
  rw [Int32.toBitVec_shiftLeft]
  show (x.toBitVec <<< ((nI n &&& 31).toBitVec.smod 32).toNat).getLsbD i = _
  rw [s_l n hn, BitVec.getLsbD_shiftLeft]
  rcases Nat.lt_or_ge i n with h | h
  · simp [h, Nat.not_le.mpr h]
  · simp [hi, h, Nat.not_lt.mpr h]
theorem b_sshr (n : Nat) (hn : n < 32) (x : Int32) {i : Nat} (hi : i < 32) : bt (x >>> (nI n &&& 31)) i = if n + i < 32 then bt x (n + i) else bt x 31 := by
  unfold bt
  rw [Int32.toBitVec_shiftRight]
  show (x.toBitVec.sshiftRight ((nI n &&& 31).toBitVec.smod 32).toNat).getLsbD i = _
  rw [s_l n hn, BitVec.getLsbD_sshiftRight, BitVec.msb_eq_getLsbD_last]
  simp [hi]
/-! the two ways of numbering the trees, bits, the relation -/
def lm_tau (t : Nat) : Nat := if t < 6 then t + 4 else if t < 10 then t - 6 else t
def lm_kap (j : Nat) : Nat := if j < 48 then j + 32 else if j < 80 then j - 48 else j
theorem lm_tau_inj {a b : Nat} (h : lm_tau a = lm_tau b) : a = b := by
  unfold lm_tau at h
  repeat' split at h
  all_goals omega
theorem lm_kap_inj {a b : Nat} (h : lm_kap a = lm_kap b) : a = b := by
  unfold lm_kap at h
  repeat' split at h
  all_goals omega
theorem lm_tauM {m : Nat} (h : m < 4) : lm_tau (6 + m) = m := by
  unfold lm_tau
  rw [if_neg (by omega), if_pos (by omega)]
  omega
theorem lm_tauL {l : Nat} (h : l < 6) : lm_tau l = 4 + l := by
  unfold lm_tau
  rw [if_pos (by omega)]
  omega
theorem lm_kapT {t i : Nat} (h : t < 10) (hi : i < 8) : lm_kap (8 * t + i) = lm_tau t * 8 + i := by
  unfold lm_kap lm_tau
  by_cases h6 : t < 6
  · rw [if_pos (by omega), if_pos h6]; omega
  · rw [if_neg (by omega), if_pos (by omega), if_neg h6, if_pos h]; omega
theorem lm_updG (s : Nat → Nat) (hs : ∀ a b, s a = s b → a = b) (d : Nat → Int32) (k : Nat) (v : Int32) : upd (fun j => d (s j)) k v = fun j => upd d (s k) v (s j) := by
  funext j
  unfold upd
  by_cases h : j = k
  · subst h
    rw [if_pos rfl, if_pos rfl]
  · rw [if_neg h, if_neg (fun z => h (hs _ _ z))]
theorem lm_updT (d : Nat → Int32) {k k' : Nat} (hk : lm_tau k = k') {v v' : Int32} (hv : v = v') : upd (fun j => d (lm_tau j)) k v = fun j => upd d k' v' (lm_tau j) := by
  subst hk hv
  exact lm_updG lm_tau (fun _ _ => lm_tau_inj) d k v
theorem lm_updK (d : Nat → Int32) {k k' : Nat} (hk : lm_kap k = k') {v v' : Int32} (hv : v = v') : upd (fun j => d (lm_kap j)) k v = fun j => upd d k' v' (lm_kap j) := by
  subst hk hv
  exact lm_updG lm_kap (fun _ _ => lm_kap_inj) d k v
def lm_i (b : Bool) : Int32 := if b = true then 1 else 0
theorem lm_one (i : Nat) : bt 1 i = decide (i = 0) := by
  rcases Nat.lt_or_ge i 32 with h | h
  · exact (by decide +kernel : ∀ i, i < 32 → bt 1 i = decide (i = 0)) i h
  · rw [b_big h, decide_eq_false (by omega)]
theorem lm_b1 {j i : Nat} (hj : j < 32) (hi : i < 32) : bt ((1 : Int32) <<< (nI j &&& 31)) i = decide (i = j) := by
  rw [b_shl j hj 1 hi, lm_one]
  by_cases h : i = j
  · subst h
    simp
  · rw [decide_eq_false h]
    by_cases h2 : j ≤ i
    · rw [decide_eq_false (p := i - j = 0) (by omega), Bool.and_false]
    · rw [decide_eq_false h2, Bool.false_and]
theorem lm_bit (x : Int32) {j : Nat} (hj : j < 32) : (x &&& ((1 : Int32) <<< (nI j &&& 31))) = 0 ↔ bt x j = false := by
  constructor
  · intro h
    have h2 := congrArg (fun z => bt z j) h
    simp only [b_and, lm_b1 hj hj, b_0, decide_true, Bool.and_true] at h2
    exact h2
  · intro h
    apply b_ext
    intro i hi
    rw [b_and, lm_b1 hj hi, b_0]
    by_cases e : i = j
    · subst e
      rw [h, Bool.false_and]
    · rw [decide_eq_false e, Bool.and_false]
theorem lm_bit1 (x : Int32) {j : Nat} (hj : j < 32) : ((x >>> (nI j &&& 31)) &&& 1) = lm_i (bt x j) := by
  apply b_ext
  intro i hi
  rw [b_and, lm_one, b_sshr j hj x hi]
  unfold lm_i
  by_cases e : i = 0
  · subst e
    rw [decide_eq_true rfl, Bool.and_true, if_pos (by omega), Nat.add_zero]
    cases h : bt x j
    · rfl
    · rfl
  · rw [decide_eq_false e, Bool.and_false]
    split
    · rw [lm_one, decide_eq_false e]
    · rw [b_0]
def lm_By (x : Int32) : Prop := x &&& 255 = x
theorem lm_by0 : lm_By 0 := by unfold lm_By; decide
theorem lm_by_and {x : Int32} (y : Int32) (h : lm_By x) : lm_By (x &&& y) := by
  unfold lm_By at *
  apply b_ext
  intro i hi
  have h2 := congrArg (fun z => bt z i) h
  simp only [b_and] at h2
  rw [b_and, b_and]
  revert h2
  cases bt x i <;> cases bt y i <;> cases bt 255 i <;> decide
theorem lm_by_or {x : Int32} (h : lm_By x) {j : Nat} (hj : j < 8) : lm_By (x ||| ((1 : Int32) <<< (nI j &&& 31))) := by
  unfold lm_By at *
  apply b_ext
  intro i hi
  have h2 := congrArg (fun z => bt z i) h
  simp only [b_and, b_255] at h2
  rw [b_and, b_or, lm_b1 (by omega) hi, b_255]
  by_cases e : i < 8
  · rw [decide_eq_true e, Bool.and_true]
  · rw [decide_eq_false e, Bool.and_false] at h2 ⊢
    rw [← h2, decide_eq_false (by omega)]
    rfl
theorem lm_by_hi {x : Int32} (h : lm_By x) {i : Nat} (hi : 8 ≤ i) : bt x i = false := by
  have h2 := congrArg (fun z => bt z i) h
  simp only [b_and, b_255] at h2
  rw [← h2, decide_eq_false (by omega), Bool.and_false]
theorem lm_by_nI {x : Int32} (h : lm_By x) : ∃ w : Nat, w < 256 ∧ x = nI w := by
  obtain ⟨w, hw, e⟩ := pk_andE x (m := 255) 8 (by decide)
  exact ⟨w, hw, h.symm.trans e⟩
theorem lm_byU {f : Nat → Int32} {k : Nat} {x : Int32} (h : ∀ t, lm_By (f t)) (hx : lm_By x) : ∀ t, lm_By (upd f k x t) := by
  intro t
  by_cases e : t = k
  · subst e
    rw [pk_us]
    exact hx
  · rw [pk_un e]
    exact h t
theorem lm_andnot (f M : Int32) : f &&& ((f &&& M) ^^^ (-1)) = f &&& (M ^^^ (-1)) := by
  apply b_ext
  intro i hi
  rw [b_and, b_and, b_xor, b_xor, b_and, b_m1 i hi]
  cases bt f i <;> cases bt M i <;> rfl
def lm_Inv (n : Nat) (f us bg bs : Nat → Int32) : Prop := 1 ≤ n ∧ n ≤ 6 ∧ (∀ t, lm_By (f t)) ∧ (∀ m, m < 4 → ¬ us m = 0 → ∃ b, b < n ∧ bg m = nI b) ∧ (∀ l, 1 ≤ l → l < n → ∃ b, b < l ∧ bs l = nI b)
def i_Rel (k : Nat) (u : SX) (v : SY) : Prop := ∃ (n : Nat) (d f c us bg bs : Nat → Int32), u = (nI n, d, f, c, us, bg, bs) ∧ v = (nI n, (fun j => d (lm_tau j)), (fun j => f (lm_tau j)), (fun j => c (lm_kap j)), upd bs 0 (-4), us, bg) ∧ lm_Inv n f us bg bs
theorem i_up {k : Nat} {u : SX} {v : SY} (h : i_Rel k u v) : i_Rel (k + 4) u v := h
theorem lm_mk {k n : Nat} {d f c us bg bs d' f' c' b' : Nat → Int32} (hd : d' = fun j => d (lm_tau j)) (hf : f' = fun j => f (lm_tau j)) (hc : c' = fun j => c (lm_kap j)) (hb : b' = upd bs 0 (-4)) (hI : lm_Inv n f us bg bs) : i_Rel k (nI n, d, f, c, us, bg, bs) (nI n, d', f', c', b', us, bg) := by
  subst hd hf hc hb
  exact ⟨n, d, f, c, us, bg, bs, rfl, rfl, hI⟩
theorem lm_R {k n : Nat} {d f c us bg bs : Nat → Int32} (hI : lm_Inv n f us bg bs) : i_Rel k (nI n, d, f, c, us, bg, bs) (nI n, (fun j => d (lm_tau j)), (fun j => f (lm_tau j)), (fun j => c (lm_kap j)), upd bs 0 (-4), us, bg) := ⟨n, d, f, c, us, bg, bs, rfl, rfl, hI⟩
theorem i_vc0 : wpX_init (fun u => wpY_init (fun v => i_Rel 0 u v)) := by
  unfold wpX_init wpY_init
  refine nm_e ?_
  exact ⟨1, (fun _ => 0), (fun _ => 0), (fun _ => 0), (fun _ => 0), (fun _ => 0), (fun _ => 0), rfl, rfl, Nat.le_refl 1, by omega, fun _ => lm_by0, fun m _ h => absurd rfl h, fun l h1 h2 => by omega⟩
end
section
/-! the small walks of both sides -/
theorem lm_nn {x : Int32} {n : Nat} (hn : n < 2 ^ 31) (h : nI n ≤ x) : ¬ x < 0 := Int32.not_lt.mpr (Int32.le_trans (nI_pos' hn) h)
theorem lm_nle {x : Int32} {n m : Nat} (hn : n < 2 ^ 31) (hm : m < n) (h : nI n ≤ x) : ¬ x ≤ nI m := fun z => nI_ge hm hn (Int32.le_trans h z)
theorem lm_ne10 : ¬ (1 : Int32) = 0 := by decide
theorem lm_xmB {post : Int32 → Prop} {x : Int32} (h : x < 0 ∨ nI 4 ≤ x) (hp : post 0) : wpX_isMount post x := by
  rcases h with h | h
  · exact br_t h hp
  · exact br_f (lm_nn (by decide) h) (br_t h hp)
theorem lm_xmK {post : Int32 → Prop} {m : Nat} (hm : m < 4) (hp : post 1) : wpX_isMount post (nI m) :=
  br_f (nI_pos (by omega)) (br_f (nI_ge (b := 4) hm (by decide)) hp)
theorem lm_xdB {post : Int32 → Prop} {x : Int32} (h : x < 0 ∨ nI 2 ≤ x) (hp : post 0) : wpX_isDirectory post x := by
  rcases h with h | h
  · exact br_t h hp
  · exact br_f (lm_nn (by decide) h) (br_t h hp)
theorem lm_xdK {post : Int32 → Prop} {m : Nat} (hm : m < 2) (hp : post 1) : wpX_isDirectory post (nI m) :=
  br_f (nI_pos (by omega)) (br_f (nI_ge (b := 2) hm (by decide)) hp)
theorem lm_xfB {post : Int32 → Prop} {x : Int32} (h : x < 0 ∨ nI 8 ≤ x) (hp : post 0) : wpX_isFile post x := by
  rcases h with h | h
  · exact br_t h hp
  · exact br_f (lm_nn (by decide) h) (br_t h hp)
theorem lm_xfK {post : Int32 → Prop} {m : Nat} (hm : m < 8) (hp : post 1) : wpX_isFile post (nI m) :=
  br_f (nI_pos (by omega)) (br_f (nI_ge (b := 8) hm (by decide)) hp)
theorem lm_xlB {post : Int32 → Prop} {n : Nat} {d f c us bg bs : Nat → Int32} {x : Int32} (hn : n < 2 ^ 31) (h : x < 0 ∨ nI n ≤ x) (hp : post 0) : wpX_isLayer post (nI n, d, f, c, us, bg, bs) x := by
  rcases h with h | h
  · exact br_t h hp
  · exact br_f (lm_nn hn h) (br_t h hp)
theorem lm_xlK {post : Int32 → Prop} {n : Nat} {d f c us bg bs : Nat → Int32} {l : Nat} (hn : n < 2 ^ 31) (hl : l < n) (hp : post 1) : wpX_isLayer post (nI n, d, f, c, us, bg, bs) (nI l) :=
  br_f (nI_pos (by omega)) (br_f (nI_ge hl hn) hp)
theorem lm_ylB {post : Int32 → Prop} {n : Nat} {d f c us bg bs : Nat → Int32} {x : Int32} (hn : n < 2 ^ 31) (h : x < 0 ∨ nI n ≤ x) (hp : post 0) : wpY_isLayer post (nI n, d, f, c, bs, us, bg) x := by
  rcases h with h | h
  · exact br_t h hp
  · exact br_f (lm_nn hn h) (br_t h hp)
theorem lm_ylK {post : Int32 → Prop} {n : Nat} {d f c us bg bs : Nat → Int32} {l : Nat} (hn : n < 2 ^ 31) (hl : l < n) (hp : post 1) : wpY_isLayer post (nI n, d, f, c, bs, us, bg) (nI l) :=
  br_f (nI_pos (by omega)) (br_f (nI_ge hl hn) hp)
theorem lm_ytB {post : Int32 → Prop} {L : Int32} {d f c us bg bs : Nat → Int32} {x : Int32} (h : x < 0 ∨ nI 4 ≤ x) (hp : post (-1)) : wpY_test post (L, d, f, c, bs, us, bg) x := by
  rcases h with h | h
  · exact br_t h hp
  · exact br_f (lm_nn (by decide) h) (br_f (lm_nle (m := 3) (by decide) (by decide) h) hp)
theorem lm_ytU {post : Int32 → Prop} {L : Int32} {d f c us bg bs : Nat → Int32} {m : Nat} (hm : m < 4) (hu : us m = 0) (hp : post (-3)) : wpY_test post (L, d, f, c, bs, us, bg) (nI m) := by
  have e : us (nI m).toNatClampNeg = 0 := by rw [nI_clamp (by omega)]; exact hu
  exact br_f (nI_pos (by omega)) (br_t (nI_le (b := 3) (by omega) (by decide)) ⟨vp_in_nI hm (by decide), br_t e hp⟩)
theorem lm_ytV {post : Int32 → Prop} {L : Int32} {d f c us bg bs : Nat → Int32} {m : Nat} (hm : m < 4) (hu : ¬ us m = 0) (hp : post 0) : wpY_test post (L, d, f, c, bs, us, bg) (nI m) := by
  have e : ¬ us (nI m).toNatClampNeg = 0 := by rw [nI_clamp (by omega)]; exact hu
  exact br_f (nI_pos (by omega)) (br_t (nI_le (b := 3) (by omega) (by decide)) ⟨vp_in_nI hm (by decide), br_f e hp⟩)
theorem lm_xrB {post : Int32 → Prop} {L : Int32} {d f c us bg bs : Nat → Int32} {x : Int32} (h : x < 0 ∨ nI 4 ≤ x) (hp : post (-1)) : wpX_refusalOf post (L, d, f, c, us, bg, bs) x := by
  unfold wpX_refusalOf
  exact lm_xmB h (br_t rfl hp)
theorem lm_xrU {post : Int32 → Prop} {L : Int32} {d f c us bg bs : Nat → Int32} {m : Nat} (hm : m < 4) (hu : us m = 0) (hp : post (-3)) : wpX_refusalOf post (L, d, f, c, us, bg, bs) (nI m) := by
  have e : us (nI m).toNatClampNeg = 0 := by rw [nI_clamp (by omega)]; exact hu
  unfold wpX_refusalOf
  exact lm_xmK hm (br_f lm_ne10 ⟨vp_in_nI hm (by decide), br_t e hp⟩)
theorem lm_xrV {post : Int32 → Prop} {L : Int32} {d f c us bg bs : Nat → Int32} {m : Nat} (hm : m < 4) (hu : ¬ us m = 0) (hp : post 0) : wpX_refusalOf post (L, d, f, c, us, bg, bs) (nI m) := by
  have e : ¬ us (nI m).toNatClampNeg = 0 := by rw [nI_clamp (by omega)]; exact hu
  unfold wpX_refusalOf
  exact lm_xmK hm (br_f lm_ne10 ⟨vp_in_nI hm (by decide), br_f e hp⟩)
/-- both sides refuse alike -/
theorem lm_ref (n : Nat) (d f c us bg bs d' f' c' b' : Nat → Int32) (x : Int32) : ∃ r : Int32, (∀ post : Int32 → Prop, post r → wpX_refusalOf post (nI n, d, f, c, us, bg, bs) x) ∧ (∀ post : Int32 → Prop, post r → wpY_test post (nI n, d', f', c', b', us, bg) x) ∧ (¬ r = 0 ∨ (r = 0 ∧ ∃ m : Nat, m < 4 ∧ x = nI m ∧ ¬ us m = 0)) := by
  rcases pk_ix x (n := 4) (by decide) with h | h | ⟨m, hm, rfl⟩
  · exact ⟨-1, fun _ hp => lm_xrB (Or.inl h) hp, fun _ hp => lm_ytB (Or.inl h) hp, Or.inl (by decide)⟩
  · exact ⟨-1, fun _ hp => lm_xrB (Or.inr h) hp, fun _ hp => lm_ytB (Or.inr h) hp, Or.inl (by decide)⟩
  · by_cases hu : us m = 0
    · exact ⟨-3, fun _ hp => lm_xrU hm hu hp, fun _ hp => lm_ytU hm hu hp, Or.inl (by decide)⟩
    · exact ⟨0, fun _ hp => lm_xrV hm hu hp, fun _ hp => lm_ytV hm hu hp, Or.inr ⟨rfl, m, hm, rfl, hu⟩⟩
theorem lm_tdN {post : Int32 → Prop} {L : Int32} {d f c us bg bs : Nat → Int32} {x y r : Int32} (hY : ∀ post : Int32 → Prop, post r → wpY_test post (L, d, f, c, bs, us, bg) x) (hr : ¬ r = 0) (hp : post r) : wpY_testDirectory post (L, d, f, c, bs, us, bg) x y := by
  unfold wpY_testDirectory
  exact hY _ (br_f hr hp)
theorem lm_tdB {post : Int32 → Prop} {L : Int32} {d f c us bg bs : Nat → Int32} {x y : Int32} (hY : ∀ post : Int32 → Prop, post 0 → wpY_test post (L, d, f, c, bs, us, bg) x) (h : y < 0 ∨ nI 2 ≤ y) (hp : post (-1)) : wpY_testDirectory post (L, d, f, c, bs, us, bg) x y := by
  unfold wpY_testDirectory
  refine hY _ (br_t rfl ?_)
  rcases h with h | h
  · exact br_t h hp
  · exact br_f (lm_nn (by decide) h) (br_f (lm_nle (m := 1) (by decide) (by decide) h) hp)
theorem lm_tdK {post : Int32 → Prop} {L : Int32} {d f c us bg bs : Nat → Int32} {x : Int32} {j : Nat} (hY : ∀ post : Int32 → Prop, post 0 → wpY_test post (L, d, f, c, bs, us, bg) x) (hj : j < 2) (hp : post 0) : wpY_testDirectory post (L, d, f, c, bs, us, bg) x (nI j) := by
  unfold wpY_testDirectory
  exact hY _ (br_t rfl (br_f (nI_pos (by omega)) (br_t (nI_le (b := 1) (by omega) (by decide)) hp)))
theorem lm_tfN {post : Int32 → Prop} {L : Int32} {d f c us bg bs : Nat → Int32} {x y r : Int32} (hY : ∀ post : Int32 → Prop, post r → wpY_test post (L, d, f, c, bs, us, bg) x) (hr : ¬ r = 0) (hp : post r) : wpY_testFile post (L, d, f, c, bs, us, bg) x y := by
  unfold wpY_testFile
  exact hY _ (br_f hr hp)
theorem lm_tfB {post : Int32 → Prop} {L : Int32} {d f c us bg bs : Nat → Int32} {x y : Int32} (hY : ∀ post : Int32 → Prop, post 0 → wpY_test post (L, d, f, c, bs, us, bg) x) (h : y < 0 ∨ nI 8 ≤ y) (hp : post (-1)) : wpY_testFile post (L, d, f, c, bs, us, bg) x y := by
  unfold wpY_testFile
  refine hY _ (br_t rfl ?_)
  rcases h with h | h
  · exact br_t h hp
  · exact br_f (lm_nn (by decide) h) (br_f (lm_nle (m := 7) (by decide) (by decide) h) hp)
theorem lm_tfK {post : Int32 → Prop} {L : Int32} {d f c us bg bs : Nat → Int32} {x : Int32} {j : Nat} (hY : ∀ post : Int32 → Prop, post 0 → wpY_test post (L, d, f, c, bs, us, bg) x) (hj : j < 8) (hp : post 0) : wpY_testFile post (L, d, f, c, bs, us, bg) x (nI j) := by
  unfold wpY_testFile
  exact hY _ (br_t rfl (br_f (nI_pos (by omega)) (br_t (nI_le (b := 7) (by omega) (by decide)) hp)))
theorem lm_bitX {A B : Prop} {b : Bool} {x : Int32} {j : Nat} (hj : j < 32) (hb : bt x j = b) (h0 : b = false → A) (h1 : b = true → B) : ((x &&& ((1 : Int32) <<< (nI j &&& 31))) = 0 → A) ∧ (¬ (x &&& ((1 : Int32) <<< (nI j &&& 31))) = 0 → B) := by
  rw [lm_bit x hj, hb]
  exact ⟨h0, fun z => h1 (by cases b; exact absurd rfl z; rfl)⟩
theorem lm_bitY {A B : Prop} {b : Bool} {x : Int32} {j : Nat} (hj : j < 32) (hb : bt x j = b) (h0 : b = false → B) (h1 : b = true → A) : (((x >>> (nI j &&& 31)) &&& 1) = 1 → A) ∧ (¬ ((x >>> (nI j &&& 31)) &&& 1) = 1 → B) := by
  rw [lm_bit1 x hj, hb]
  cases b
  · exact ⟨fun z => absurd z (by decide), fun _ => h0 rfl⟩
  · exact ⟨fun _ => h1 rfl, fun z => absurd rfl z⟩
theorem lm_xhd {post : Int32 → Prop} {L : Int32} {d f c us bg bs : Nat → Int32} {x y : Int32} {t j : Nat} {b : Bool} (hx : x = nI t) (ht : t < 10) (hy : y = nI j) (hj : j < 32) (hb : bt (d t) j = b) (hp : post (lm_i b)) : wpX_hasDirectory post (L, d, f, c, us, bg, bs) x y := by
  subst hx hy
  have e : bt (d (nI t).toNatClampNeg) j = b := by rw [nI_clamp (by omega)]; exact hb
  exact ⟨vp_in_nI ht (by decide), lm_bitX hj e (fun z => by subst z; exact hp) (fun z => by subst z; exact hp)⟩
theorem lm_xhf {post : Int32 → Prop} {L : Int32} {d f c us bg bs : Nat → Int32} {x y : Int32} {t j : Nat} {b : Bool} (hx : x = nI t) (ht : t < 10) (hy : y = nI j) (hj : j < 32) (hb : bt (f t) j = b) (hp : post (lm_i b)) : wpX_hasFile post (L, d, f, c, us, bg, bs) x y := by
  subst hx hy
  have e : bt (f (nI t).toNatClampNeg) j = b := by rw [nI_clamp (by omega)]; exact hb
  exact ⟨vp_in_nI ht (by decide), lm_bitX hj e (fun z => by subst z; exact hp) (fun z => by subst z; exact hp)⟩
theorem lm_yhd {post : Int32 → Prop} {L : Int32} {d f c us bg bs : Nat → Int32} {x y : Int32} {t j : Nat} {b : Bool} (hx : x = nI t) (ht : t < 10) (hy : y = nI j) (hj : j < 32) (hb : bt (d t) j = b) (hp : post (lm_i b)) : wpY_hasDirectory post (L, d, f, c, bs, us, bg) x y := by
  subst hx hy
  have e : bt (d (nI t).toNatClampNeg) j = b := by rw [nI_clamp (by omega)]; exact hb
  exact ⟨vp_in_nI ht (by decide), lm_bitY hj e (fun z => by subst z; exact hp) (fun z => by subst z; exact hp)⟩
theorem lm_yhf {post : Int32 → Prop} {L : Int32} {d f c us bg bs : Nat → Int32} {x y : Int32} {t j : Nat} {b : Bool} (hx : x = nI t) (ht : t < 10) (hy : y = nI j) (hj : j < 32) (hb : bt (f t) j = b) (hp : post (lm_i b)) : wpY_has post (L, d, f, c, bs, us, bg) x y := by
  subst hx hy
  have e : bt (f (nI t).toNatClampNeg) j = b := by rw [nI_clamp (by omega)]; exact hb
  exact ⟨vp_in_nI ht (by decide), lm_bitY hj e (fun z => by subst z; exact hp) (fun z => by subst z; exact hp)⟩
theorem lm_ix (t j : Nat) : (nI t * 8) + nI j = nI (t * 8 + j) := by
  rw [show nI t * 8 = nI (t * 8) from pk_mul t 8, nI_add]
theorem lm_iy (t j : Nat) : (8 * nI t) + nI j = nI (8 * t + j) := by
  rw [show 8 * nI t = nI (8 * t) from pk_mul 8 t, nI_add]
theorem lm_xput {post : Int32 → SX → Prop} {L : Int32} {d f c us bg bs : Nat → Int32} {x y w : Int32} {t j : Nat} (hx : x = nI t) (ht : t < 10) (hy : y = nI j) (hj : j < 8) (hp : post (lm_i (bt (f t) j)) (L, d, upd f t (f t ||| ((1 : Int32) <<< (nI j &&& 31))), upd c (t * 8 + j) w, us, bg, bs)) : wpX_putFile post (L, d, f, c, us, bg, bs) x y w := by
  subst hx hy
  have v := vp_in_nI (N := 10) ht (by decide)
  have q : vp_in ((nI t * 8) + nI j) 80 := by rw [lm_ix]; exact vp_in_nI (by omega) (by decide)
  have e1 : upd f (nI t).toNatClampNeg ((f (nI t).toNatClampNeg) ||| ((1 : Int32) <<< (nI j &&& 31))) = upd f t (f t ||| ((1 : Int32) <<< (nI j &&& 31))) := by rw [nI_clamp (by omega)]
  have e2 : upd c ((nI t * 8) + nI j).toNatClampNeg w = upd c (t * 8 + j) w := by rw [lm_ix, nI_clamp (by omega)]
  unfold wpX_putFile
  refine lm_xhf rfl ht rfl (by omega) rfl ?_
  revert hp
  cases bt (f t) j
  · exact fun hp => br_t rfl ⟨v, v, nm_r e1 ⟨q, nm_r e2 hp⟩⟩
  · exact fun hp => br_f lm_ne10 ⟨v, v, nm_r e1 ⟨q, nm_r e2 hp⟩⟩
theorem lm_yput {post : Int32 → SY → Prop} {L : Int32} {d f c us bg bs : Nat → Int32} {x y w : Int32} {t j : Nat} (hx : x = nI t) (ht : t < 10) (hy : y = nI j) (hj : j < 8) (hp : post (lm_i (bt (f t) j)) (L, d, upd f t (f t ||| ((1 : Int32) <<< (nI j &&& 31))), upd c (8 * t + j) w, bs, us, bg)) : wpY_put post (L, d, f, c, bs, us, bg) x y w := by
  subst hx hy
  have v := vp_in_nI (N := 10) ht (by decide)
  have q : vp_in ((8 * nI t) + nI j) 80 := by rw [lm_iy]; exact vp_in_nI (by omega) (by decide)
  have e1 : upd f (nI t).toNatClampNeg ((f (nI t).toNatClampNeg) ||| ((1 : Int32) <<< (nI j &&& 31))) = upd f t (f t ||| ((1 : Int32) <<< (nI j &&& 31))) := by rw [nI_clamp (by omega)]
  have e2 : upd c ((8 * nI t) + nI j).toNatClampNeg w = upd c (8 * t + j) w := by rw [lm_iy, nI_clamp (by omega)]
  unfold wpY_put
  refine lm_yhf rfl ht rfl (by omega) rfl ?_
  revert hp
  cases bt (f t) j
  · exact fun hp => br_t rfl ⟨v, v, nm_r e1 ⟨q, nm_r e2 hp⟩⟩
  · exact fun hp => br_f lm_ne10 ⟨v, v, nm_r e1 ⟨q, nm_r e2 hp⟩⟩
theorem lm_xtk {post : SX → Prop} {L : Int32} {d f c us bg bs : Nat → Int32} {t : Nat} {y : Int32} (ht : t < 10) (hp : post (L, d, upd f t (f t &&& (((1 : Int32) <<< (y &&& 31)) ^^^ (-1))), c, us, bg, bs)) : wpX_takeFile post (L, d, f, c, us, bg, bs) (nI t) y := by
  have v := vp_in_nI (N := 10) ht (by decide)
  have e1 : upd f (nI t).toNatClampNeg ((f (nI t).toNatClampNeg) &&& (((1 : Int32) <<< (y &&& 31)) ^^^ (-1))) = upd f t (f t &&& (((1 : Int32) <<< (y &&& 31)) ^^^ (-1))) := by rw [nI_clamp (by omega)]
  exact ⟨v, v, nm_r e1 hp⟩
end
section
/-! the loops: copying a tree, counting bits, who holds a layer, differences -/
def lm_cp (c : Nat → Int32) (so de : Nat) : Nat → (Nat → Int32)
  | 0 => c
  | k + 1 => upd (lm_cp c so de k) (de + k) (lm_cp c so de k (so + k))
theorem lm_cpK {c : Nat → Int32} {so de so' de' : Nat} : ∀ k : Nat, (∀ i, i < k → lm_kap (so + i) = so' + i) → (∀ i, i < k → lm_kap (de + i) = de' + i) → lm_cp (fun j => c (lm_kap j)) so de k = fun j => lm_cp c so' de' k (lm_kap j) := by
  intro k
  induction k with
  | zero => intro _ _; rfl
  | succ k ih =>
    intro h1 h2
    have e := ih (fun i hi => h1 i (by omega)) (fun i hi => h2 i (by omega))
    show upd (lm_cp (fun j => c (lm_kap j)) so de k) (de + k) (lm_cp (fun j => c (lm_kap j)) so de k (so + k)) = fun j => upd (lm_cp c so' de' k) (de' + k) (lm_cp c so' de' k (so' + k)) (lm_kap j)
    rw [e]
    exact lm_updK _ (h2 k (by omega)) (congrArg (lm_cp c so' de' k) (h1 k (by omega)))
theorem lm_xcl {post : SX → Prop} {L : Int32} {d f c us bg bs : Nat → Int32} {a b : Nat} (ha : a < 10) (hb : b < 10) (hp : post (L, d, f, lm_cp c (a * 8) (b * 8) 8, us, bg, bs)) : ∀ e i : Nat, i + e = 8 → wX_copyTree_26 post (nI a) (nI b) L (e + 1) (nI i) d f (lm_cp c (a * 8) (b * 8) i) us bg bs := by
  intro e
  induction e with
  | zero =>
    intro i hi
    obtain rfl : i = 8 := by omega
    exact br_t (nI_le (a := 8) (b := 8) (by omega) (by decide)) hp
  | succ e ih =>
    intro i hi
    have h8 : ¬ (8 : Int32) ≤ nI i := nI_ge (b := 8) (by omega) (by decide)
    have qa : vp_in ((nI a * 8) + nI i) 80 := by rw [lm_ix]; exact vp_in_nI (by omega) (by decide)
    have qb : vp_in ((nI b * 8) + nI i) 80 := by rw [lm_ix]; exact vp_in_nI (by omega) (by decide)
    have ec : upd (lm_cp c (a * 8) (b * 8) i) ((nI b * 8) + nI i).toNatClampNeg (lm_cp c (a * 8) (b * 8) i ((nI a * 8) + nI i).toNatClampNeg) = lm_cp c (a * 8) (b * 8) (i + 1) := by
      rw [lm_ix, lm_ix, nI_clamp (by omega), nI_clamp (by omega)]
      rfl
    exact br_f h8 ⟨qa, qb, nm_r ec (nm_r (nI_1 i) (ih (i + 1) (by omega)))⟩
theorem lm_xct {post : SX → Prop} {L : Int32} {d f c us bg bs : Nat → Int32} {x y : Int32} {a b : Nat} (hx : x = nI a) (ha : a < 10) (hy : y = nI b) (hb : b < 10) (hp : post (L, upd d b (d a), upd f b (f a), lm_cp c (a * 8) (b * 8) 8, us, bg, bs)) : wpX_copyTree post (L, d, f, c, us, bg, bs) x y := by
  subst hx hy
  have va := vp_in_nI (N := 10) ha (by decide)
  have vb := vp_in_nI (N := 10) hb (by decide)
  have e1 : upd d (nI b).toNatClampNeg (d (nI a).toNatClampNeg) = upd d b (d a) := by rw [nI_clamp (by omega), nI_clamp (by omega)]
  have e2 : upd f (nI b).toNatClampNeg (f (nI a).toNatClampNeg) = upd f b (f a) := by rw [nI_clamp (by omega), nI_clamp (by omega)]
  exact ⟨va, vb, nm_r e1 ⟨va, vb, nm_r e2 ⟨9, lm_xcl ha hb hp 8 0 rfl⟩⟩⟩
theorem lm_ycl {post : SY → Prop} {L : Int32} {d f c us bg bs : Nat → Int32} {a b : Nat} (ha : a < 10) (hb : b < 10) (hp : post (L, d, f, lm_cp c (8 * a) (8 * b) 8, bs, us, bg)) : ∀ e i : Nat, i + e = 8 → wY_copy_26 post (nI a) (nI b) L (e + 1) (nI i) d f (lm_cp c (8 * a) (8 * b) i) bs us bg := by
  intro e
  induction e with
  | zero =>
    intro i hi
    obtain rfl : i = 8 := by omega
    exact br_t (nI_le (a := 8) (b := 8) (by omega) (by decide)) hp
  | succ e ih =>
    intro i hi
    have h8 : ¬ (8 : Int32) ≤ nI i := nI_ge (b := 8) (by omega) (by decide)
    have qa : vp_in ((8 * nI a) + nI i) 80 := by rw [lm_iy]; exact vp_in_nI (by omega) (by decide)
    have qb : vp_in ((8 * nI b) + nI i) 80 := by rw [lm_iy]; exact vp_in_nI (by omega) (by decide)
    have ec : upd (lm_cp c (8 * a) (8 * b) i) ((8 * nI b) + nI i).toNatClampNeg (lm_cp c (8 * a) (8 * b) i ((8 * nI a) + nI i).toNatClampNeg) = lm_cp c (8 * a) (8 * b) (i + 1) := by
      rw [lm_iy, lm_iy, nI_clamp (by omega), nI_clamp (by omega)]
      rfl
    exact br_f h8 ⟨qa, qb, nm_r ec (nm_r (nI_1 i) (ih (i + 1) (by omega)))⟩
theorem lm_yct {post : SY → Prop} {L : Int32} {d f c us bg bs : Nat → Int32} {x y : Int32} {a b : Nat} (hx : x = nI a) (ha : a < 10) (hy : y = nI b) (hb : b < 10) (hp : post (L, upd d b (d a), upd f b (f a), lm_cp c (8 * a) (8 * b) 8, bs, us, bg)) : wpY_copy post (L, d, f, c, bs, us, bg) x y := by
  subst hx hy
  have va := vp_in_nI (N := 10) ha (by decide)
  have vb := vp_in_nI (N := 10) hb (by decide)
  have e1 : upd d (nI b).toNatClampNeg (d (nI a).toNatClampNeg) = upd d b (d a) := by rw [nI_clamp (by omega), nI_clamp (by omega)]
  have e2 : upd f (nI b).toNatClampNeg (f (nI a).toNatClampNeg) = upd f b (f a) := by rw [nI_clamp (by omega), nI_clamp (by omega)]
  exact ⟨va, vb, nm_r e1 ⟨va, vb, nm_r e2 ⟨9, lm_ycl ha hb hp 8 0 rfl⟩⟩⟩
/-- the number of the bits 0 to k - 1 -/
def lm_sz (x : Int32) : Nat → Int32
  | 0 => 0
  | k + 1 => lm_sz x k + ((x >>> (nI k &&& 31)) &&& 1)
theorem lm_xsl {post : Int32 → Prop} {x : Int32} (hp : post (lm_sz x 8)) : ∀ e i : Nat, i + e = 8 → wX_sizeOf_4 post x (e + 1) (lm_sz x i) (nI i) := by
  intro e
  induction e with
  | zero =>
    intro i hi
    obtain rfl : i = 8 := by omega
    exact br_t (nI_le (a := 8) (b := 8) (by omega) (by decide)) hp
  | succ e ih =>
    intro i hi
    have h8 : ¬ (8 : Int32) ≤ nI i := nI_ge (b := 8) (by omega) (by decide)
    exact br_f h8 (nm_r (e' := lm_sz x (i + 1)) rfl (nm_r (nI_1 i) (ih (i + 1) (by omega))))
theorem lm_xsz {post : Int32 → Prop} {x : Int32} (hp : post (lm_sz x 8)) : wpX_sizeOf post x := ⟨9, lm_xsl hp 8 0 rfl⟩
theorem lm_ysl {post : Int32 → Prop} {x : Int32} {L : Int32} {d f c us bg bs : Nat → Int32} (hp : post (lm_sz x 8)) : ∀ e i : Nat, i + e = 8 → wY_changes_33 post x L d f c bs us bg (e + 1) (lm_sz x i) (nI i) := by
  intro e
  induction e with
  | zero =>
    intro i hi
    obtain rfl : i = 8 := by omega
    exact br_t (nI_le (a := 8) (b := 8) (by omega) (by decide)) hp
  | succ e ih =>
    intro i hi
    have h8 : ¬ (8 : Int32) ≤ nI i := nI_ge (b := 8) (by omega) (by decide)
    exact br_f h8 (nm_r (e' := lm_sz x (i + 1)) rfl (nm_r (nI_1 i) (ih (i + 1) (by omega))))
theorem lm_ysz {post : Int32 → Prop} {x : Int32} {L : Int32} {d f c us bg bs : Nat → Int32} (hp : post (lm_sz x 8)) : ∃ n33 : Nat, wY_changes_33 post x L d f c bs us bg n33 0 0 := ⟨9, lm_ysl hp 8 0 rfl⟩
/-- does a mount hold layer x: in lockstep -/
theorem lm_isM {L L' x : Int32} {d f c us bg bs d' f' c' b' : Nat → Int32} : ∀ e i : Nat, i + e = 4 → ((∀ post : Int32 → Prop, post 1 → wX_isMounted_2 post x L d f c us bg bs (e + 1) (nI i)) ∧ (∀ post : Int32 → Prop, post 0 → wY_isFree_2 post x L' d' f' c' b' us bg (e + 1) (nI i))) ∨ ((∀ m, i ≤ m → m < 4 → ¬ us m = 0 → ¬ bg m = x) ∧ (∀ post : Int32 → Prop, post 0 → wX_isMounted_2 post x L d f c us bg bs (e + 1) (nI i)) ∧ (∀ post : Int32 → Prop, (∃ n36 : Nat, wY_isFree_36 post x L' d' f' c' b' us bg n36 0) → wY_isFree_2 post x L' d' f' c' b' us bg (e + 1) (nI i))) := by
  intro e
  induction e with
  | zero =>
    intro i hi
    obtain rfl : i = 4 := by omega
    have h : (4 : Int32) ≤ nI 4 := nI_le (a := 4) (b := 4) (by omega) (by decide)
    exact Or.inr ⟨fun m h1 h2 => by omega, fun _ hp => br_t h hp, fun _ hp => br_t h hp⟩
  | succ e ih =>
    intro i hi
    have h4 : ¬ (4 : Int32) ≤ nI i := nI_ge (b := 4) (by omega) (by decide)
    have v := vp_in_nI (n := i) (N := 4) (by omega) (by decide)
    have ec : (nI i).toNatClampNeg = i := nI_clamp (by omega)
    by_cases hu : us i = 0
    · have hu' : us (nI i).toNatClampNeg = 0 := by rw [ec]; exact hu
      rcases ih (i + 1) (by omega) with ⟨hX, hY⟩ | ⟨hN, hX, hY⟩
      · exact Or.inl ⟨fun post hp => br_f h4 ⟨v, br_t hu' (nm_r (nI_1 i) (hX post hp))⟩, fun post hp => br_f h4 ⟨v, br_t hu' (nm_r (nI_1 i) (hY post hp))⟩⟩
      · refine Or.inr ⟨fun m h1 h2 h3 => ?_, fun post hp => br_f h4 ⟨v, br_t hu' (nm_r (nI_1 i) (hX post hp))⟩, fun post hp => br_f h4 ⟨v, br_t hu' (nm_r (nI_1 i) (hY post hp))⟩⟩
        by_cases em : m = i
        · subst em
          exact absurd hu h3
        · exact hN m (by omega) h2 h3
    · have hu' : ¬ us (nI i).toNatClampNeg = 0 := by rw [ec]; exact hu
      by_cases hb : bg i = x
      · have hb' : bg (nI i).toNatClampNeg = x := by rw [ec]; exact hb
        exact Or.inl ⟨fun post hp => br_f h4 ⟨v, br_f hu' ⟨v, br_t hb' hp⟩⟩, fun post hp => br_f h4 ⟨v, br_f hu' ⟨v, br_t hb' hp⟩⟩⟩
      · have hb' : ¬ bg (nI i).toNatClampNeg = x := by rw [ec]; exact hb
        rcases ih (i + 1) (by omega) with ⟨hX, hY⟩ | ⟨hN, hX, hY⟩
        · exact Or.inl ⟨fun post hp => br_f h4 ⟨v, br_f hu' ⟨v, br_f hb' (nm_r (nI_1 i) (hX post hp))⟩⟩, fun post hp => br_f h4 ⟨v, br_f hu' ⟨v, br_f hb' (nm_r (nI_1 i) (hY post hp))⟩⟩⟩
        · refine Or.inr ⟨fun m h1 h2 h3 => ?_, fun post hp => br_f h4 ⟨v, br_f hu' ⟨v, br_f hb' (nm_r (nI_1 i) (hX post hp))⟩⟩, fun post hp => br_f h4 ⟨v, br_f hu' ⟨v, br_f hb' (nm_r (nI_1 i) (hY post hp))⟩⟩⟩
          by_cases em : m = i
          · subst em
            exact hb
          · exact hN m (by omega) h2 h3
theorem lm_isF {post : Int32 → Prop} {x : Int32} {n : Nat} {d f c us bg bs : Nat → Int32} (hn : n ≤ 6) (hb : ∀ l, l < n → ¬ bs l = x) (hp : post 1) : ∀ e i : Nat, i + e = n → wY_isFree_36 post x (nI n) d f c bs us bg (e + 1) (nI i) := by
  intro e
  induction e with
  | zero =>
    intro i hi
    obtain rfl : i = n := by omega
    exact br_t (nI_le (Nat.le_refl i) (by omega)) hp
  | succ e ih =>
    intro i hi
    have hl : ¬ nI n ≤ nI i := nI_ge (by omega) (by omega)
    have v := vp_in_nI (n := i) (N := 6) (by omega) (by decide)
    have hb' : ¬ bs (nI i).toNatClampNeg = x := by rw [nI_clamp (by omega)]; exact hb i (by omega)
    exact br_f hl ⟨v, br_f hb' (nm_r (nI_1 i) (ih (i + 1) (by omega)))⟩
/-- file j differs -/
def lm_D (fa fb : Int32) (ne : Nat → Bool) (j : Nat) : Bool := (bt fa j ^^ bt fb j) || (bt fa j && bt fb j && ne j)
def lm_S (D Z : Nat → Bool) (i : Nat) (s : Int32) : Prop := ∀ j, j < 32 → bt s j = if j < i then D j else Z j
theorem lm_S0 {D Z : Nat → Bool} {i : Nat} {s : Int32} (hi : i < 32) (hs : lm_S D Z i s) (hz : D i = Z i) : lm_S D Z (i + 1) s := by
  intro j hj
  rw [hs j hj]
  by_cases e : j = i
  · subst e
    rw [if_neg (by omega), if_pos (by omega), hz]
  · by_cases h : j < i
    · rw [if_pos h, if_pos (by omega)]
    · rw [if_neg h, if_neg (by omega)]
theorem lm_S1 {D Z : Nat → Bool} {i : Nat} {s : Int32} (hi : i < 32) (hs : lm_S D Z i s) (hz : D i = true) : lm_S D Z (i + 1) (s ||| ((1 : Int32) <<< (nI i &&& 31))) := by
  intro j hj
  rw [b_or, hs j hj, lm_b1 hi hj]
  by_cases e : j = i
  · subst e
    rw [if_pos (Nat.lt_succ_self j), hz, decide_eq_true (rfl : j = j), Bool.or_true]
  · rw [decide_eq_false e, Bool.or_false]
    by_cases h : j < i
    · rw [if_pos h, if_pos (by omega)]
    · rw [if_neg h, if_neg (by omega)]
theorem lm_xdl {post : Int32 → Prop} {L : Int32} {d f c us bg bs : Nat → Int32} {a b : Nat} (ha : a < 10) (hb : b < 10) {fa fb : Int32} {ne : Nat → Bool} (hne : ∀ j, j < 8 → (c (a * 8 + j) = c (b * 8 + j) ↔ ne j = false)) (hp : ∀ r : Int32, lm_S (lm_D fa fb ne) (fun j => bt fa j ^^ bt fb j) 8 r → post r) : ∀ (e i : Nat) (s : Int32), i + e = 8 → lm_S (lm_D fa fb ne) (fun j => bt fa j ^^ bt fb j) i s → wX_differences_32 post (nI a) (nI b) (fa &&& fb) L d f c us bg bs (e + 1) s (nI i) := by
  intro e
  induction e with
  | zero =>
    intro i s hi hs
    obtain rfl : i = 8 := by omega
    exact br_t (nI_le (a := 8) (b := 8) (by omega) (by decide)) (hp s hs)
  | succ e ih =>
    intro i s hi hs
    have h8 : ¬ (8 : Int32) ≤ nI i := nI_ge (b := 8) (by omega) (by decide)
    have qa : vp_in ((nI a * 8) + nI i) 80 := by rw [lm_ix]; exact vp_in_nI (by omega) (by decide)
    have qb : vp_in ((nI b * 8) + nI i) 80 := by rw [lm_ix]; exact vp_in_nI (by omega) (by decide)
    have ea : ((nI a * 8) + nI i).toNatClampNeg = a * 8 + i := by rw [lm_ix]; exact nI_clamp (by omega)
    have eb : ((nI b * 8) + nI i).toNatClampNeg = b * 8 + i := by rw [lm_ix]; exact nI_clamp (by omega)
    refine br_f h8 (lm_bitX (by omega) rfl (fun z => ?_) (fun z => ?_))
    · rw [b_and] at z
      have hz : lm_D fa fb ne i = (bt fa i ^^ bt fb i) := by unfold lm_D; rw [z, Bool.false_and, Bool.or_false]
      exact br_t rfl (nm_r (nI_1 i) (ih (i + 1) s (by omega) (lm_S0 (by omega) hs hz)))
    · rw [b_and] at z
      refine br_f lm_ne10 ⟨qa, qb, ?_⟩
      rw [ea, eb]
      refine br_c (fun h => ?_) (fun h => ?_)
      · have hz : lm_D fa fb ne i = (bt fa i ^^ bt fb i) := by unfold lm_D; rw [(hne i (by omega)).mp h, Bool.and_false, Bool.or_false]
        exact nm_r (nI_1 i) (ih (i + 1) s (by omega) (lm_S0 (by omega) hs hz))
      · have hn : ne i = true := by
          cases q : ne i
          · exact absurd ((hne i (by omega)).mpr q) h
          · rfl
        have hz : lm_D fa fb ne i = true := by unfold lm_D; rw [z, hn, Bool.true_and, Bool.or_true]
        exact nm_e (nm_r (nI_1 i) (ih (i + 1) _ (by omega) (lm_S1 (by omega) hs hz)))
theorem lm_xdf {post : Int32 → Prop} {L : Int32} {d f c us bg bs : Nat → Int32} {x y : Int32} {a b : Nat} (hx : x = nI a) (ha : a < 10) (hy : y = nI b) (hb : b < 10) {ne : Nat → Bool} (hne : ∀ j, j < 8 → (c (a * 8 + j) = c (b * 8 + j) ↔ ne j = false)) (hp : ∀ r : Int32, lm_S (lm_D (f a) (f b) ne) (fun j => bt (f a) j ^^ bt (f b) j) 8 r → post r) : wpX_differences post (L, d, f, c, us, bg, bs) x y := by
  subst hx hy
  have va := vp_in_nI (N := 10) ha (by decide)
  have vb := vp_in_nI (N := 10) hb (by decide)
  have e1 : (f (nI a).toNatClampNeg) ^^^ (f (nI b).toNatClampNeg) = f a ^^^ f b := by rw [nI_clamp (by omega), nI_clamp (by omega)]
  have e2 : (f (nI a).toNatClampNeg) &&& (f (nI b).toNatClampNeg) = f a &&& f b := by rw [nI_clamp (by omega), nI_clamp (by omega)]
  refine ⟨va, vb, nm_r e1 ⟨va, vb, nm_r e2 ⟨9, lm_xdl ha hb hne hp 8 0 (f a ^^^ f b) rfl ?_⟩⟩⟩
  intro j hj
  rw [if_neg (by omega), b_xor]
theorem lm_eq0 {A B : Prop} {p q : Bool} (h0 : p = q → A) (h1 : ¬ p = q → B) : (lm_i p = lm_i q → A) ∧ (¬ lm_i p = lm_i q → B) := by
  revert h0 h1
  cases p <;> cases q
  · exact fun h0 _ => br_t rfl (h0 rfl)
  · exact fun _ h1 => br_f (by decide) (h1 (by decide))
  · exact fun _ h1 => br_f (by decide) (h1 (by decide))
  · exact fun h0 _ => br_t rfl (h0 rfl)
theorem lm_ydl {post : Int32 → Prop} {L : Int32} {d f c us bg bs : Nat → Int32} {a b : Nat} (ha : a < 10) (hb : b < 10) {ne : Nat → Bool} (hne : ∀ j, j < 8 → (c (8 * a + j) = c (8 * b + j) ↔ ne j = false)) (hp : ∀ r : Int32, lm_S (lm_D (f a) (f b) ne) (fun _ => false) 8 r → post r) : ∀ (e i : Nat) (s : Int32), i + e = 8 → lm_S (lm_D (f a) (f b) ne) (fun _ => false) i s → wY_differing_5 post (nI a) (nI b) L d f c bs us bg (e + 1) s (nI i) := by
  intro e
  induction e with
  | zero =>
    intro i s hi hs
    obtain rfl : i = 8 := by omega
    exact br_t (nI_le (a := 8) (b := 8) (by omega) (by decide)) (hp s hs)
  | succ e ih =>
    intro i s hi hs
    have h8 : ¬ (8 : Int32) ≤ nI i := nI_ge (b := 8) (by omega) (by decide)
    have qa : vp_in ((8 * nI a) + nI i) 80 := by rw [lm_iy]; exact vp_in_nI (by omega) (by decide)
    have qb : vp_in ((8 * nI b) + nI i) 80 := by rw [lm_iy]; exact vp_in_nI (by omega) (by decide)
    have ea : ((8 * nI a) + nI i).toNatClampNeg = 8 * a + i := by rw [lm_iy]; exact nI_clamp (by omega)
    have eb : ((8 * nI b) + nI i).toNatClampNeg = 8 * b + i := by rw [lm_iy]; exact nI_clamp (by omega)
    have go0 : lm_D (f a) (f b) ne i = false → wY_differing_70 post (wY_differing_5 post (nI a) (nI b) L d f c bs us bg (e + 1)) (nI a) (nI b) s (nI i) L d f c bs us bg := fun hz => br_t rfl (nm_r (nI_1 i) (ih (i + 1) s (by omega) (lm_S0 (by omega) hs hz)))
    have go1 : lm_D (f a) (f b) ne i = true → wY_differing_66 post (wY_differing_5 post (nI a) (nI b) L d f c bs us bg (e + 1)) (nI a) (nI b) s (nI i) L d f c bs us bg := fun hz => br_f lm_ne10 (nm_e (nm_r (nI_1 i) (ih (i + 1) _ (by omega) (lm_S1 (by omega) hs hz))))
    refine br_f h8 (lm_yhf rfl ha rfl (by omega) rfl (lm_yhf rfl hb rfl (by omega) rfl (lm_eq0 (fun h => lm_yhf rfl ha rfl (by omega) rfl ?_) (fun h => go1 ?_))))
    · cases q : bt (f a) i
      · refine br_t rfl (go0 ?_)
        unfold lm_D
        rw [← h, q]
        rfl
      · refine br_f lm_ne10 ⟨qa, qb, ?_⟩
        rw [ea, eb]
        refine br_c (fun z => go0 ?_) (fun z => go1 ?_)
        · unfold lm_D
          rw [← h, q, (hne i (by omega)).mp z]
          rfl
        · have hn : ne i = true := by
            cases q : ne i
            · exact absurd ((hne i (by omega)).mpr q) z
            · rfl
          unfold lm_D
          rw [← h, q, hn]
          rfl
    · unfold lm_D
      revert h
      cases bt (f a) i <;> cases bt (f b) i
      · exact fun h => absurd rfl h
      · exact fun _ => rfl
      · exact fun _ => rfl
      · exact fun h => absurd rfl h
theorem lm_ydf {post : Int32 → Prop} {L : Int32} {d f c us bg bs : Nat → Int32} {x y : Int32} {a b : Nat} (hx : x = nI a) (ha : a < 10) (hy : y = nI b) (hb : b < 10) {ne : Nat → Bool} (hne : ∀ j, j < 8 → (c (8 * a + j) = c (8 * b + j) ↔ ne j = false)) (hp : ∀ r : Int32, lm_S (lm_D (f a) (f b) ne) (fun _ => false) 8 r → post r) : wpY_differing post (L, d, f, c, bs, us, bg) x y := by
  subst hx hy
  refine ⟨9, lm_ydl ha hb hne hp 8 0 0 rfl ?_⟩
  intro j hj
  rw [if_neg (by omega), b_0]
/-- both sides find the same set of differing files -/
theorem lm_same {fa fb : Int32} (ha : lm_By fa) (hb : lm_By fb) {ne : Nat → Bool} {r r' : Int32} (h : lm_S (lm_D fa fb ne) (fun j => bt fa j ^^ bt fb j) 8 r) (h' : lm_S (lm_D fa fb ne) (fun _ => false) 8 r') : r' = r := by
  apply b_ext
  intro i hi
  rw [h i hi, h' i hi]
  by_cases e : i < 8
  · rw [if_pos e, if_pos e]
  · rw [if_neg e, if_neg e]
    show false = (bt fa i ^^ bt fb i)
    rw [lm_by_hi ha (Nat.not_lt.mp e), lm_by_hi hb (Nat.not_lt.mp e)]
    rfl
/-- the number of the bits s to s + k - 1, as the reference counts -/
def lm_ct (x : Int32) (s : Nat) : Nat → Int32
  | 0 => 0
  | k + 1 => if bt x (s + k) = true then lm_ct x s k + 1 else lm_ct x s k
theorem lm_cnt0 : ∀ w, w < 256 → lm_sz (nI w &&& ((15 : Int32) <<< ((nI 0 * 4) &&& 31))) 8 = lm_ct (nI w) (4 * 0) 4 := by decide +kernel
theorem lm_cnt1 : ∀ w, w < 256 → lm_sz (nI w &&& ((15 : Int32) <<< ((nI 1 * 4) &&& 31))) 8 = lm_ct (nI w) (4 * 1) 4 := by decide +kernel
theorem lm_cnt {x : Int32} (h : lm_By x) {q : Nat} (hq : q < 2) : lm_ct x (4 * q) 4 = lm_sz (x &&& ((15 : Int32) <<< ((nI q * 4) &&& 31))) 8 := by
  obtain ⟨w, hw, rfl⟩ := lm_by_nI h
  rcases (by omega : q = 0 ∨ q = 1) with rfl | rfl
  · exact (lm_cnt0 w hw).symm
  · exact (lm_cnt1 w hw).symm
theorem lm_yrl {post : Int32 → SY → Prop} {L : Int32} {d f c us bg bs : Nat → Int32} {m q : Nat} (hm : m < 4) (hq : q < 2) (hp : post (lm_ct (f (6 + m)) (4 * q) 4) (L, upd d (6 + m) (d (6 + m) &&& (((1 : Int32) <<< (nI q &&& 31)) ^^^ (-1))), upd f (6 + m) (f (6 + m) &&& (((15 : Int32) <<< ((4 * nI q) &&& 31)) ^^^ (-1))), c, bs, us, bg)) : ∀ e i : Nat, i + e = 4 → wY_rmdir_36 post (nI m) (nI q) L d f c bs us bg (e + 1) (lm_ct (f (6 + m)) (4 * q) i) (nI (4 * q + i)) := by
  have e6 : (6 : Int32) + nI m = nI (6 + m) := nI_add 6 m
  have v : vp_in ((6 : Int32) + nI m) 10 := by rw [e6]; exact vp_in_nI (by omega) (by decide)
  have e4 : ((4 : Int32) * nI q) + 4 = nI (4 * q + 4) := by rw [show (4 : Int32) * nI q = nI (4 * q) from pk_mul 4 q]; exact nI_add (4 * q) 4
  have u1 : upd f ((6 : Int32) + nI m).toNatClampNeg ((f ((6 : Int32) + nI m).toNatClampNeg) &&& (((15 : Int32) <<< ((4 * nI q) &&& 31)) ^^^ (-1))) = upd f (6 + m) (f (6 + m) &&& (((15 : Int32) <<< ((4 * nI q) &&& 31)) ^^^ (-1))) := by rw [e6, nI_clamp (by omega)]
  have u2 : upd d ((6 : Int32) + nI m).toNatClampNeg ((d ((6 : Int32) + nI m).toNatClampNeg) &&& (((1 : Int32) <<< (nI q &&& 31)) ^^^ (-1))) = upd d (6 + m) (d (6 + m) &&& (((1 : Int32) <<< (nI q &&& 31)) ^^^ (-1))) := by rw [e6, nI_clamp (by omega)]
  intro e
  induction e with
  | zero =>
    intro i hi
    obtain rfl : i = 4 := by omega
    have h : ((4 : Int32) * nI q) + 4 ≤ nI (4 * q + 4) := by rw [e4]; exact nI_le (Nat.le_refl _) (by omega)
    exact br_t h ⟨v, v, nm_r u1 ⟨v, v, nm_r u2 hp⟩⟩
  | succ e ih =>
    intro i hi
    have h : ¬ ((4 : Int32) * nI q) + 4 ≤ nI (4 * q + i) := by rw [e4]; exact nI_ge (by omega) (by omega)
    refine br_f h (lm_yhf e6 (by omega) rfl (by omega) rfl ?_)
    have g := ih (i + 1) (by omega)
    cases z : bt (f (6 + m)) (4 * q + i)
    · have ec : lm_ct (f (6 + m)) (4 * q) (i + 1) = lm_ct (f (6 + m)) (4 * q) i := by
        show (if bt (f (6 + m)) (4 * q + i) = true then _ else _) = _
        rw [z]
        rfl
      rw [ec] at g
      exact br_t rfl (nm_r (nI_1 (4 * q + i)) g)
    · have ec : lm_ct (f (6 + m)) (4 * q) i + 1 = lm_ct (f (6 + m)) (4 * q) (i + 1) := by
        show _ = (if bt (f (6 + m)) (4 * q + i) = true then _ else _)
        rw [z]
        rfl
      exact br_f lm_ne10 (nm_r ec (nm_r (nI_1 (4 * q + i)) g))
end
section
/-! the mounts' methods -/
theorem lm_e6 {m : Nat} (hm : m < 4) : ((6 : Int32) + nI m).toNatClampNeg = 6 + m := by
  rw [show (6 : Int32) + nI m = nI (6 + m) from nI_add 6 m]
  exact nI_clamp (by omega)
theorem lm_v6 {m : Nat} (hm : m < 4) : vp_in ((6 : Int32) + nI m) 10 := by
  rw [show (6 : Int32) + nI m = nI (6 + m) from nI_add 6 m]
  exact vp_in_nI (by omega) (by decide)
theorem lm_hb {d : Nat → Int32} {m q : Nat} {b : Bool} (hm : m < 4) (hb : bt (d m) q = b) : bt ((fun j => d (lm_tau j)) (6 + m)) q = b := by
  show bt (d (lm_tau (6 + m))) q = b
  rw [lm_tauM hm]
  exact hb
theorem lm_xor (d : Nat → Int32) {m : Nat} (hm : m < 4) (y : Int32) : upd d (nI m).toNatClampNeg ((d (nI m).toNatClampNeg) ||| y) = upd d m (d m ||| y) := by rw [nI_clamp (by omega)]
theorem lm_xan (d : Nat → Int32) {m : Nat} (hm : m < 4) (y : Int32) : upd d (nI m).toNatClampNeg ((d (nI m).toNatClampNeg) &&& y) = upd d m (d m &&& y) := by rw [nI_clamp (by omega)]
theorem lm_yor (d : Nat → Int32) {m : Nat} (hm : m < 4) (y : Int32) : upd (fun j => d (lm_tau j)) ((6 : Int32) + nI m).toNatClampNeg ((fun j => d (lm_tau j)) ((6 : Int32) + nI m).toNatClampNeg ||| y) = fun j => upd d m (d m ||| y) (lm_tau j) := by
  rw [lm_e6 hm]
  exact lm_updT d (lm_tauM hm) (by dsimp only; rw [lm_tauM hm])
theorem lm_yan (d : Nat → Int32) {m : Nat} (hm : m < 4) (y : Int32) : upd (fun j => d (lm_tau j)) ((6 : Int32) + nI m).toNatClampNeg ((fun j => d (lm_tau j)) ((6 : Int32) + nI m).toNatClampNeg &&& y) = fun j => upd d m (d m &&& y) (lm_tau j) := by
  rw [lm_e6 hm]
  exact lm_updT d (lm_tauM hm) (by dsimp only; rw [lm_tauM hm])
theorem lm_i8 {m q : Nat} : ((8 : Int32) * ((6 : Int32) + nI m)) + nI q = nI (8 * (6 + m) + q) := by
  rw [show (6 : Int32) + nI m = nI (6 + m) from nI_add 6 m]
  exact lm_iy (6 + m) q
theorem lm_kapM {m q : Nat} (hm : m < 4) (hq : q < 8) : lm_kap (8 * (6 + m) + q) = m * 8 + q := by
  rw [lm_kapT (by omega) hq, lm_tauM hm]
theorem lm_invU {n : Nat} {f us bg bs : Nat → Int32} {m : Nat} {x : Int32} (hI : lm_Inv n f us bg bs) (hm : m < 4) (hu : ¬ us m = 0) : lm_Inv n f (upd us m x) bg bs := by
  obtain ⟨h1, h2, h3, h4, h5⟩ := hI
  refine ⟨h1, h2, h3, fun m' hm' hu' => ?_, h5⟩
  by_cases e : m' = m
  · subst e
    exact h4 m' hm' hu
  · rw [pk_un e] at hu'
    exact h4 m' hm' hu'
theorem lm_invF {n : Nat} {f us bg bs : Nat → Int32} {k : Nat} {x : Int32} (hI : lm_Inv n f us bg bs) (hx : lm_By x) : lm_Inv n (upd f k x) us bg bs := by
  obtain ⟨h1, h2, h3, h4, h5⟩ := hI
  exact ⟨h1, h2, lm_byU h3 hx, h4, h5⟩
theorem lm_invM {n : Nat} {f us bg bs : Nat → Int32} {m l : Nat} {x : Int32} (hI : lm_Inv n f us bg bs) (hl : l < n) : lm_Inv n f (upd us m x) (upd bg m (nI l)) bs := by
  obtain ⟨h1, h2, h3, h4, h5⟩ := hI
  refine ⟨h1, h2, h3, fun m' hm' hu' => ?_, h5⟩
  by_cases e : m' = m
  · subst e
    exact ⟨l, hl, pk_us⟩
  · rw [pk_un e] at hu'
    rw [pk_un e]
    exact h4 m' hm' hu'
theorem i_vc_mount {k : Nat} {u : SX} {v : SY} (I : i_Rel k u v) (hk : k + 4 ≤ 2048) (v1 : Int32) (v2 : Int32) : wpX_mount (fun r u' => wpY_mount (fun r' v' => r' = r ∧ i_Rel (k + 4) u' v') v v1 v2) u v1 v2 := by
  obtain ⟨n, d, f, c, us, bg, bs, rfl, rfl, hI⟩ := I
  have hn1 := hI.1
  have hn6 := hI.2.1
  have hB := hI.2.2.1
  unfold wpX_mount wpY_mount
  dsimp only
  have bad : v1 < 0 ∨ nI 4 ≤ v1 → wpX_mount (fun r u' => wpY_mount (fun r' v' => r' = r ∧ i_Rel (k + 4) u' v') (nI n, (fun j => d (lm_tau j)), (fun j => f (lm_tau j)), (fun j => c (lm_kap j)), upd bs 0 (-4), us, bg) v1 v2) (nI n, d, f, c, us, bg, bs) v1 v2 := by
    intro h
    unfold wpX_mount wpY_mount
    dsimp only
    exact lm_xmB h (br_t rfl (lm_ytB h (br_f (by decide) (br_f (by decide) ⟨rfl, lm_R hI⟩))))
  rcases pk_ix v1 (n := 4) (by decide) with h | h | ⟨m, hm, rfl⟩
  · exact bad (Or.inl h)
  · exact bad (Or.inr h)
  · have e : (nI m).toNatClampNeg = m := nI_clamp (by omega)
    have vm := vp_in_nI (N := 4) hm (by decide)
    refine lm_xmK hm (br_f lm_ne10 ⟨vm, ?_⟩)
    rw [e]
    by_cases hu : us m = 0
    · refine br_t hu ?_
      rcases pk_ix v2 (n := n) (by omega) with hl | hl | ⟨l, hl, rfl⟩
      · exact lm_xlB (by omega) (Or.inl hl) (br_t rfl (lm_ytU hm hu (br_t rfl (lm_ylB (by omega) (Or.inl hl) (br_t rfl ⟨rfl, lm_R hI⟩)))))
      · exact lm_xlB (by omega) (Or.inr hl) (br_t rfl (lm_ytU hm hu (br_t rfl (lm_ylB (by omega) (Or.inr hl) (br_t rfl ⟨rfl, lm_R hI⟩)))))
      · refine lm_xlK (by omega) hl (br_f lm_ne10 (lm_xct (a := 4 + l) (b := m) (nI_add 4 l) (by omega) rfl (by omega) ?_))
        dsimp only
        refine ⟨vm, nm_e ⟨vm, nm_e ?_⟩⟩
        refine lm_ytU hm hu (br_t rfl (lm_ylK (by omega) hl (br_f lm_ne10 ⟨vm, nm_e ⟨vm, nm_e (lm_yct (a := l) (b := 6 + m) rfl (by omega) (nI_add 6 m) (by omega) ⟨rfl, ?_⟩)⟩⟩)))
        exact lm_mk (lm_updT d (lm_tauM hm) (by rw [lm_tauL (by omega)])) (lm_updT f (lm_tauM hm) (by rw [lm_tauL (by omega)])) (lm_cpK 8 (fun i hi => by rw [lm_kapT (by omega) hi, lm_tauL (by omega)]) (fun i hi => lm_kapM hm hi)) rfl (lm_invM (lm_invF hI (hB _)) hl)
    · exact br_f hu (lm_ytV hm hu (br_f (by decide) (br_t rfl ⟨rfl, lm_R hI⟩)))
theorem i_vc_unmount {k : Nat} {u : SX} {v : SY} (I : i_Rel k u v) (hk : k + 4 ≤ 2048) (v1 : Int32) : wpX_unmount (fun r u' => wpY_unmount (fun r' v' => r' = r ∧ i_Rel (k + 4) u' v') v v1) u v1 := by
  obtain ⟨n, d, f, c, us, bg, bs, rfl, rfl, hI⟩ := I
  obtain ⟨r, hX, hY, hr⟩ := lm_ref n d f c us bg bs (fun j => d (lm_tau j)) (fun j => f (lm_tau j)) (fun j => c (lm_kap j)) (upd bs 0 (-4)) v1
  unfold wpX_unmount wpY_unmount
  dsimp only
  refine hX _ ?_
  rcases hr with hr | ⟨rfl, m, hm, rfl, hu⟩
  · exact br_f hr (hY _ (br_f hr ⟨rfl, lm_R hI⟩))
  · have e : (nI m).toNatClampNeg = m := nI_clamp (by omega)
    have vm := vp_in_nI (N := 4) hm (by decide)
    rw [e]
    exact br_t rfl ⟨vm, nm_e (hY _ (br_t rfl ⟨vm, nm_e ⟨rfl, lm_mk rfl rfl rfl rfl (lm_invU hI hm hu)⟩⟩))⟩
theorem i_vc_mkdir {k : Nat} {u : SX} {v : SY} (I : i_Rel k u v) (hk : k + 4 ≤ 2048) (v1 : Int32) (v2 : Int32) : wpX_mkdir (fun r u' => wpY_mkdir (fun r' v' => r' = r ∧ i_Rel (k + 4) u' v') v v1 v2) u v1 v2 := by
  obtain ⟨n, d, f, c, us, bg, bs, rfl, rfl, hI⟩ := I
  obtain ⟨r, hX, hY, hr⟩ := lm_ref n d f c us bg bs (fun j => d (lm_tau j)) (fun j => f (lm_tau j)) (fun j => c (lm_kap j)) (upd bs 0 (-4)) v1
  unfold wpX_mkdir wpY_mkdir
  dsimp only
  refine hX _ ?_
  rcases hr with hr | ⟨rfl, m, hm, rfl, hu⟩
  · exact br_f hr (lm_tdN hY hr (br_f hr ⟨rfl, lm_R hI⟩))
  · have vm := vp_in_nI (n := m) (N := 10) (by omega) (by decide)
    refine br_t rfl ?_
    rcases pk_ix v2 (n := 2) (by decide) with h | h | ⟨q, hq, rfl⟩
    · exact lm_xdB (Or.inl h) (br_t rfl (lm_tdB hY (Or.inl h) (br_f (by decide) ⟨rfl, lm_R hI⟩)))
    · exact lm_xdB (Or.inr h) (br_t rfl (lm_tdB hY (Or.inr h) (br_f (by decide) ⟨rfl, lm_R hI⟩)))
    · refine lm_xdK hq (br_f lm_ne10 ?_)
      cases hb : bt (d m) q
      · refine lm_xhd rfl (by omega) rfl (by omega) hb (br_t rfl ⟨vm, vm, nm_r (lm_xor d hm _) ?_⟩)
        exact lm_tdK hY hq (br_t rfl (lm_yhd (nI_add 6 m) (by omega) rfl (by omega) (lm_hb hm hb) (br_t rfl ⟨lm_v6 hm, lm_v6 hm, nm_r (lm_yor d hm _) ⟨rfl, lm_R hI⟩⟩)))
      · exact lm_xhd rfl (by omega) rfl (by omega) hb (br_f lm_ne10 (lm_tdK hY hq (br_t rfl (lm_yhd (nI_add 6 m) (by omega) rfl (by omega) (lm_hb hm hb) (br_f lm_ne10 ⟨rfl, lm_R hI⟩)))))
theorem i_vc_rmdir {k : Nat} {u : SX} {v : SY} (I : i_Rel k u v) (hk : k + 4 ≤ 2048) (v1 : Int32) (v2 : Int32) : wpX_rmdir (fun r u' => wpY_rmdir (fun r' v' => r' = r ∧ i_Rel (k + 4) u' v') v v1 v2) u v1 v2 := by
  obtain ⟨n, d, f, c, us, bg, bs, rfl, rfl, hI⟩ := I
  have hB := hI.2.2.1
  obtain ⟨r, hX, hY, hr⟩ := lm_ref n d f c us bg bs (fun j => d (lm_tau j)) (fun j => f (lm_tau j)) (fun j => c (lm_kap j)) (upd bs 0 (-4)) v1
  unfold wpX_rmdir wpY_rmdir
  dsimp only
  refine hX _ ?_
  rcases hr with hr | ⟨rfl, m, hm, rfl, hu⟩
  · exact br_f hr (lm_tdN hY hr (br_f hr ⟨rfl, lm_R hI⟩))
  · have vm := vp_in_nI (n := m) (N := 10) (by omega) (by decide)
    have e : (nI m).toNatClampNeg = m := nI_clamp (by omega)
    refine br_t rfl ?_
    rcases pk_ix v2 (n := 2) (by decide) with h | h | ⟨q, hq, rfl⟩
    · exact lm_xdB (Or.inl h) (br_t rfl (lm_tdB hY (Or.inl h) (br_f (by decide) ⟨rfl, lm_R hI⟩)))
    · exact lm_xdB (Or.inr h) (br_t rfl (lm_tdB hY (Or.inr h) (br_f (by decide) ⟨rfl, lm_R hI⟩)))
    · refine lm_xdK hq (br_f lm_ne10 ?_)
      cases hb : bt (d m) q
      · exact lm_xhd rfl (by omega) rfl (by omega) hb (br_t rfl (lm_tdK hY hq (br_t rfl (lm_yhd (nI_add 6 m) (by omega) rfl (by omega) (lm_hb hm hb) (br_t rfl ⟨rfl, lm_R hI⟩)))))
      · have e1 : (f (nI m).toNatClampNeg) &&& ((15 : Int32) <<< ((nI q * 4) &&& 31)) = f m &&& ((15 : Int32) <<< ((nI q * 4) &&& 31)) := by rw [e]
        have e2 : upd f (nI m).toNatClampNeg ((f (nI m).toNatClampNeg) &&& ((f m &&& ((15 : Int32) <<< ((nI q * 4) &&& 31))) ^^^ (-1))) = upd f m (f m &&& (((15 : Int32) <<< ((nI q * 4) &&& 31)) ^^^ (-1))) := by rw [e, lm_andnot]
        refine lm_xhd rfl (by omega) rfl (by omega) hb (br_f lm_ne10 ⟨vm, nm_r e1 ⟨vm, vm, nm_r e2 ⟨vm, vm, nm_r (lm_xan d hm _) (lm_xsz ?_)⟩⟩⟩)
        refine lm_tdK hY hq (br_t rfl (lm_yhd (nI_add 6 m) (by omega) rfl (by omega) (lm_hb hm hb) (br_f lm_ne10 (nm_r (pk_mul 4 q) ⟨5, lm_yrl hm hq ⟨?_, ?_⟩ 4 0 rfl⟩))))
        · show lm_ct (f (lm_tau (6 + m))) (4 * q) 4 = _
          rw [lm_tauM hm]
          exact lm_cnt (hB m) hq
        · exact lm_mk (lm_updT d (lm_tauM hm) (by rw [lm_tauM hm])) (lm_updT f (lm_tauM hm) (by rw [lm_tauM hm, Int32.mul_comm 4 (nI q)])) rfl rfl (lm_invF hI (lm_by_and _ (hB m)))
end
section
/-! the files' methods -/
theorem lm_d4 {q : Nat} (hq : q < 8) : nI q / 4 = nI (q / 4) := pk_div (d := 4) (by omega) (by decide) (by decide)
theorem lm_v8x {m q : Nat} (hm : m < 4) (hq : q < 8) : vp_in ((nI m * 8) + nI q) 80 := by rw [lm_ix]; exact vp_in_nI (by omega) (by decide)
theorem lm_v8y {m q : Nat} (hm : m < 4) (hq : q < 8) : vp_in ((8 * ((6 : Int32) + nI m)) + nI q) 80 := by rw [lm_i8]; exact vp_in_nI (by omega) (by decide)
theorem lm_c8x {m q : Nat} (hm : m < 4) (hq : q < 8) : ((nI m * 8) + nI q).toNatClampNeg = m * 8 + q := by rw [lm_ix]; exact nI_clamp (by omega)
theorem lm_c8y {m q : Nat} (hm : m < 4) (hq : q < 8) : ((8 * ((6 : Int32) + nI m)) + nI q).toNatClampNeg = 8 * (6 + m) + q := by rw [lm_i8]; exact nI_clamp (by omega)
theorem lm_gy (c : Nat → Int32) {m q : Nat} (hm : m < 4) (hq : q < 8) : (fun j => c (lm_kap j)) ((8 * ((6 : Int32) + nI m)) + nI q).toNatClampNeg = c (m * 8 + q) := by
  dsimp only
  rw [lm_c8y hm hq, lm_kapM hm hq]
theorem lm_gx (c : Nat → Int32) {m q : Nat} (hm : m < 4) (hq : q < 8) : c ((nI m * 8) + nI q).toNatClampNeg = c (m * 8 + q) := by rw [lm_c8x hm hq]
theorem lm_n4 : ¬ (4 : Int32) = 0 := by decide
/-- a put on both sides keeps the relation -/
theorem lm_putR {k n : Nat} {d f c us bg bs : Nat → Int32} {m q : Nat} {w : Int32} (hI : lm_Inv n f us bg bs) (hm : m < 4) (hq : q < 8) : i_Rel k (nI n, d, upd f m (f m ||| ((1 : Int32) <<< (nI q &&& 31))), upd c (m * 8 + q) w, us, bg, bs) (nI n, (fun j => d (lm_tau j)), upd (fun j => f (lm_tau j)) (6 + m) ((fun j => f (lm_tau j)) (6 + m) ||| ((1 : Int32) <<< (nI q &&& 31))), upd (fun j => c (lm_kap j)) (8 * (6 + m) + q) w, upd bs 0 (-4), us, bg) :=
  lm_mk rfl (lm_updT f (lm_tauM hm) (by dsimp only; rw [lm_tauM hm])) (lm_updK c (lm_kapM hm hq) rfl) rfl (lm_invF hI (lm_by_or (hI.2.2.1 m) hq))
theorem i_vc_write {k : Nat} {u : SX} {v : SY} (I : i_Rel k u v) (hk : k + 4 ≤ 2048) (v1 : Int32) (v2 : Int32) (v3 : Int32) : wpX_write (fun r u' => wpY_write (fun r' v' => r' = r ∧ i_Rel (k + 4) u' v') v v1 v2 v3) u v1 v2 v3 := by
  obtain ⟨n, d, f, c, us, bg, bs, rfl, rfl, hI⟩ := I
  obtain ⟨r, hX, hY, hr⟩ := lm_ref n d f c us bg bs (fun j => d (lm_tau j)) (fun j => f (lm_tau j)) (fun j => c (lm_kap j)) (upd bs 0 (-4)) v1
  unfold wpX_write wpY_write
  dsimp only
  refine hX _ ?_
  rcases hr with hr | ⟨rfl, m, hm, rfl, hu⟩
  · exact br_f hr (lm_tfN hY hr (br_f hr ⟨rfl, lm_R hI⟩))
  · refine br_t rfl ?_
    rcases pk_ix v2 (n := 8) (by decide) with h | h | ⟨q, hq, rfl⟩
    · exact lm_xfB (Or.inl h) (br_t rfl (lm_tfB hY (Or.inl h) (br_f (by decide) ⟨rfl, lm_R hI⟩)))
    · exact lm_xfB (Or.inr h) (br_t rfl (lm_tfB hY (Or.inr h) (br_f (by decide) ⟨rfl, lm_R hI⟩)))
    · refine lm_xfK hq (br_f lm_ne10 ⟨lm_n4, ?_⟩)
      cases hb : bt (d m) (q / 4)
      · exact lm_xhd rfl (by omega) (lm_d4 hq) (by omega) hb (br_t rfl (lm_tfK hY hq (br_t rfl ⟨lm_n4, lm_yhd (nI_add 6 m) (by omega) (lm_d4 hq) (by omega) (lm_hb hm hb) (br_t rfl ⟨rfl, lm_R hI⟩)⟩)))
      · refine lm_xhd rfl (by omega) (lm_d4 hq) (by omega) hb (br_f lm_ne10 (lm_xput rfl (by omega) rfl hq ?_))
        dsimp only
        refine lm_tfK hY hq (br_t rfl ⟨lm_n4, lm_yhd (nI_add 6 m) (by omega) (lm_d4 hq) (by omega) (lm_hb hm hb) (br_f lm_ne10 (lm_yput (nI_add 6 m) (by omega) rfl hq ⟨?_, lm_putR hI hm hq⟩))⟩)
        rw [lm_tauM hm]
theorem i_vc_grow {k : Nat} {u : SX} {v : SY} (I : i_Rel k u v) (hk : k + 4 ≤ 2048) (v1 : Int32) (v2 : Int32) (v3 : Int32) : wpX_grow (fun r u' => wpY_grow (fun r' v' => r' = r ∧ i_Rel (k + 4) u' v') v v1 v2 v3) u v1 v2 v3 := by
  obtain ⟨n, d, f, c, us, bg, bs, rfl, rfl, hI⟩ := I
  obtain ⟨r, hX, hY, hr⟩ := lm_ref n d f c us bg bs (fun j => d (lm_tau j)) (fun j => f (lm_tau j)) (fun j => c (lm_kap j)) (upd bs 0 (-4)) v1
  unfold wpX_grow wpY_grow
  dsimp only
  refine hX _ ?_
  rcases hr with hr | ⟨rfl, m, hm, rfl, hu⟩
  · exact br_f hr (lm_tfN hY hr (br_f hr ⟨rfl, lm_R hI⟩))
  · refine br_t rfl ?_
    rcases pk_ix v2 (n := 8) (by decide) with h | h | ⟨q, hq, rfl⟩
    · exact lm_xfB (Or.inl h) (br_t rfl (lm_tfB hY (Or.inl h) (br_f (by decide) ⟨rfl, lm_R hI⟩)))
    · exact lm_xfB (Or.inr h) (br_t rfl (lm_tfB hY (Or.inr h) (br_f (by decide) ⟨rfl, lm_R hI⟩)))
    · refine lm_xfK hq (br_f lm_ne10 ?_)
      cases hb : bt (f m) q
      · exact lm_xhf rfl (by omega) rfl (by omega) hb (br_t rfl (lm_tfK hY hq (br_t rfl (lm_yhf (nI_add 6 m) (by omega) rfl (by omega) (lm_hb hm hb) (br_t rfl ⟨rfl, lm_R hI⟩)))))
      · have e1 : upd c ((nI m * 8) + nI q).toNatClampNeg (c ((nI m * 8) + nI q).toNatClampNeg + v3) = upd c (m * 8 + q) (c (m * 8 + q) + v3) := by rw [lm_c8x hm hq]
        have e2 : upd (fun j => c (lm_kap j)) ((8 * ((6 : Int32) + nI m)) + nI q).toNatClampNeg ((fun j => c (lm_kap j)) ((8 * ((6 : Int32) + nI m)) + nI q).toNatClampNeg + v3) = fun j => upd c (m * 8 + q) (c (m * 8 + q) + v3) (lm_kap j) := by
          rw [lm_gy c hm hq, lm_c8y hm hq]
          exact lm_updK c (lm_kapM hm hq) rfl
        exact lm_xhf rfl (by omega) rfl (by omega) hb (br_f lm_ne10 ⟨lm_v8x hm hq, lm_v8x hm hq, nm_r e1 (lm_tfK hY hq (br_t rfl (lm_yhf (nI_add 6 m) (by omega) rfl (by omega) (lm_hb hm hb) (br_f lm_ne10 ⟨lm_v8y hm hq, lm_v8y hm hq, nm_r e2 ⟨rfl, lm_R hI⟩⟩))))⟩)
theorem i_vc_remove {k : Nat} {u : SX} {v : SY} (I : i_Rel k u v) (hk : k + 4 ≤ 2048) (v1 : Int32) (v2 : Int32) : wpX_remove (fun r u' => wpY_remove (fun r' v' => r' = r ∧ i_Rel (k + 4) u' v') v v1 v2) u v1 v2 := by
  obtain ⟨n, d, f, c, us, bg, bs, rfl, rfl, hI⟩ := I
  have hB := hI.2.2.1
  obtain ⟨r, hX, hY, hr⟩ := lm_ref n d f c us bg bs (fun j => d (lm_tau j)) (fun j => f (lm_tau j)) (fun j => c (lm_kap j)) (upd bs 0 (-4)) v1
  unfold wpX_remove wpY_remove
  dsimp only
  refine hX _ ?_
  rcases hr with hr | ⟨rfl, m, hm, rfl, hu⟩
  · exact br_f hr (lm_tfN hY hr (br_f hr ⟨rfl, lm_R hI⟩))
  · refine br_t rfl ?_
    rcases pk_ix v2 (n := 8) (by decide) with h | h | ⟨q, hq, rfl⟩
    · exact lm_xfB (Or.inl h) (br_t rfl (lm_tfB hY (Or.inl h) (br_f (by decide) ⟨rfl, lm_R hI⟩)))
    · exact lm_xfB (Or.inr h) (br_t rfl (lm_tfB hY (Or.inr h) (br_f (by decide) ⟨rfl, lm_R hI⟩)))
    · refine lm_xfK hq (br_f lm_ne10 ?_)
      cases hb : bt (f m) q
      · exact lm_xhf rfl (by omega) rfl (by omega) hb (br_t rfl (lm_tfK hY hq (br_t rfl (lm_yhf (nI_add 6 m) (by omega) rfl (by omega) (lm_hb hm hb) (br_t rfl ⟨rfl, lm_R hI⟩)))))
      · refine lm_xhf rfl (by omega) rfl (by omega) hb (br_f lm_ne10 (lm_xtk (by omega) ?_))
        dsimp only
        exact lm_tfK hY hq (br_t rfl (lm_yhf (nI_add 6 m) (by omega) rfl (by omega) (lm_hb hm hb) (br_f lm_ne10 ⟨lm_v6 hm, lm_v6 hm, nm_r (lm_yan f hm _) ⟨rfl, lm_R (lm_invF hI (lm_by_and _ (hB m)))⟩⟩)))
theorem i_vc_rename {k : Nat} {u : SX} {v : SY} (I : i_Rel k u v) (hk : k + 4 ≤ 2048) (v1 : Int32) (v2 : Int32) (v3 : Int32) : wpX_rename (fun r u' => wpY_rename (fun r' v' => r' = r ∧ i_Rel (k + 4) u' v') v v1 v2 v3) u v1 v2 v3 := by
  obtain ⟨n, d, f, c, us, bg, bs, rfl, rfl, hI⟩ := I
  have hB := hI.2.2.1
  obtain ⟨r, hX, hY, hr⟩ := lm_ref n d f c us bg bs (fun j => d (lm_tau j)) (fun j => f (lm_tau j)) (fun j => c (lm_kap j)) (upd bs 0 (-4)) v1
  unfold wpX_rename wpY_rename
  dsimp only
  refine hX _ ?_
  rcases hr with hr | ⟨rfl, m, hm, rfl, hu⟩
  · exact br_f hr (lm_tfN hY hr (br_f hr (br_f hr (br_f hr ⟨rfl, lm_R hI⟩))))
  · refine br_t rfl ?_
    have nm : ¬ (-1 : Int32) = 0 := by decide
    rcases pk_ix v2 (n := 8) (by decide) with h | h | ⟨q, hq, rfl⟩
    · exact lm_xfB (Or.inl h) (br_t rfl (lm_tfB hY (Or.inl h) (br_f nm (br_f nm (br_f nm ⟨rfl, lm_R hI⟩)))))
    · exact lm_xfB (Or.inr h) (br_t rfl (lm_tfB hY (Or.inr h) (br_f nm (br_f nm (br_f nm ⟨rfl, lm_R hI⟩)))))
    · refine lm_xfK hq (br_f lm_ne10 ?_)
      rcases pk_ix v3 (n := 8) (by decide) with h | h | ⟨g, hg, rfl⟩
      · exact lm_xfB (Or.inl h) (br_t rfl (lm_tfK hY hq (br_t rfl (lm_tfB hY (Or.inl h) (br_f nm (br_f nm ⟨rfl, lm_R hI⟩))))))
      · exact lm_xfB (Or.inr h) (br_t rfl (lm_tfK hY hq (br_t rfl (lm_tfB hY (Or.inr h) (br_f nm (br_f nm ⟨rfl, lm_R hI⟩))))))
      · refine lm_xfK hg (br_f lm_ne10 ?_)
        by_cases he : nI q = nI g
        · exact br_t he (lm_tfK hY hq (br_t rfl (lm_tfK hY hg (br_t rfl (br_t he (br_f nm ⟨rfl, lm_R hI⟩))))))
        · refine br_f he ?_
          cases hb : bt (f m) q
          · exact lm_xhf rfl (by omega) rfl (by omega) hb (br_t rfl (lm_tfK hY hq (br_t rfl (lm_tfK hY hg (br_t rfl (br_f he (br_t rfl (lm_yhf (nI_add 6 m) (by omega) rfl (by omega) (lm_hb hm hb) (br_t rfl ⟨rfl, lm_R hI⟩)))))))))
          · refine lm_xhf rfl (by omega) rfl (by omega) hb (br_f lm_ne10 ⟨lm_n4, ?_⟩)
            cases hd : bt (d m) (g / 4)
            · exact lm_xhd rfl (by omega) (lm_d4 hg) (by omega) hd (br_t rfl (lm_tfK hY hq (br_t rfl (lm_tfK hY hg (br_t rfl (br_f he (br_t rfl (lm_yhf (nI_add 6 m) (by omega) rfl (by omega) (lm_hb hm hb) (br_f lm_ne10 ⟨lm_n4, lm_yhd (nI_add 6 m) (by omega) (lm_d4 hg) (by omega) (lm_hb hm hd) (br_t rfl ⟨rfl, lm_R hI⟩)⟩)))))))))
            · refine lm_xhd rfl (by omega) (lm_d4 hg) (by omega) hd (br_f lm_ne10 (lm_xtk (by omega) ?_))
              dsimp only
              rw [lm_gx c hm hq]
              refine ⟨lm_v8x hm hq, lm_xput rfl (by omega) rfl hg ?_⟩
              dsimp only
              refine lm_tfK hY hq (br_t rfl (lm_tfK hY hg (br_t rfl (br_f he (br_t rfl (lm_yhf (nI_add 6 m) (by omega) rfl (by omega) (lm_hb hm hb) (br_f lm_ne10 ⟨lm_n4, lm_yhd (nI_add 6 m) (by omega) (lm_d4 hg) (by omega) (lm_hb hm hd) (br_f lm_ne10 ⟨lm_v6 hm, lm_v6 hm, nm_r (lm_yan f hm _) ⟨lm_v8y hm hq, ?_⟩⟩)⟩)))))))
              rw [lm_gy c hm hq]
              refine lm_yput (nI_add 6 m) (by omega) rfl hg ⟨?_, lm_putR (lm_invF hI (lm_by_and _ (hB m))) hm hg⟩
              rw [lm_tauM hm]
theorem i_vc_read {k : Nat} {u : SX} {v : SY} (I : i_Rel k u v) (hk : k + 4 ≤ 2048) (v1 : Int32) (v2 : Int32) : wpX_read (fun r => wpY_read (fun r' => r' = r ∧ i_Rel (k + 4) u v) v v1 v2) u v1 v2 := by
  obtain ⟨n, d, f, c, us, bg, bs, rfl, rfl, hI⟩ := I
  obtain ⟨r, hX, hY, hr⟩ := lm_ref n d f c us bg bs (fun j => d (lm_tau j)) (fun j => f (lm_tau j)) (fun j => c (lm_kap j)) (upd bs 0 (-4)) v1
  unfold wpX_read wpY_read
  dsimp only
  refine hX _ ?_
  rcases hr with hr | ⟨rfl, m, hm, rfl, hu⟩
  · exact br_f hr (lm_tfN hY hr (br_f hr ⟨rfl, lm_R hI⟩))
  · refine br_t rfl ?_
    rcases pk_ix v2 (n := 8) (by decide) with h | h | ⟨q, hq, rfl⟩
    · exact lm_xfB (Or.inl h) (br_t rfl (lm_tfB hY (Or.inl h) (br_f (by decide) ⟨rfl, lm_R hI⟩)))
    · exact lm_xfB (Or.inr h) (br_t rfl (lm_tfB hY (Or.inr h) (br_f (by decide) ⟨rfl, lm_R hI⟩)))
    · refine lm_xfK hq (br_f lm_ne10 ?_)
      cases hb : bt (f m) q
      · exact lm_xhf rfl (by omega) rfl (by omega) hb (br_t rfl (lm_tfK hY hq (br_t rfl (lm_yhf (nI_add 6 m) (by omega) rfl (by omega) (lm_hb hm hb) (br_t rfl ⟨rfl, lm_R hI⟩)))))
      · refine lm_xhf rfl (by omega) rfl (by omega) hb (br_f lm_ne10 ⟨lm_v8x hm hq, lm_tfK hY hq (br_t rfl (lm_yhf (nI_add 6 m) (by omega) rfl (by omega) (lm_hb hm hb) (br_f lm_ne10 ⟨lm_v8y hm hq, ?_, lm_R hI⟩)))⟩)
        rw [lm_gx c hm hq]
        exact lm_gy c hm hq
theorem i_vc_files {k : Nat} {u : SX} {v : SY} (I : i_Rel k u v) (hk : k + 4 ≤ 2048) (v1 : Int32) : wpX_files (fun r => wpY_files (fun r' => r' = r ∧ i_Rel (k + 4) u v) v v1) u v1 := by
  obtain ⟨n, d, f, c, us, bg, bs, rfl, rfl, hI⟩ := I
  obtain ⟨r, hX, hY, hr⟩ := lm_ref n d f c us bg bs (fun j => d (lm_tau j)) (fun j => f (lm_tau j)) (fun j => c (lm_kap j)) (upd bs 0 (-4)) v1
  unfold wpX_files wpY_files
  dsimp only
  refine hX _ ?_
  rcases hr with hr | ⟨rfl, m, hm, rfl, hu⟩
  · exact br_f hr (hY _ (br_f hr ⟨rfl, lm_R hI⟩))
  · refine br_t rfl ⟨vp_in_nI (by omega) (by decide), hY _ (br_t rfl ⟨lm_v6 hm, ?_, lm_R hI⟩)⟩
    rw [lm_e6 hm, lm_tauM hm, nI_clamp (by omega)]
theorem i_vc_directories {k : Nat} {u : SX} {v : SY} (I : i_Rel k u v) (hk : k + 4 ≤ 2048) (v1 : Int32) : wpX_directories (fun r => wpY_directories (fun r' => r' = r ∧ i_Rel (k + 4) u v) v v1) u v1 := by
  obtain ⟨n, d, f, c, us, bg, bs, rfl, rfl, hI⟩ := I
  obtain ⟨r, hX, hY, hr⟩ := lm_ref n d f c us bg bs (fun j => d (lm_tau j)) (fun j => f (lm_tau j)) (fun j => c (lm_kap j)) (upd bs 0 (-4)) v1
  unfold wpX_directories wpY_directories
  dsimp only
  refine hX _ ?_
  rcases hr with hr | ⟨rfl, m, hm, rfl, hu⟩
  · exact br_f hr (hY _ (br_f hr ⟨rfl, lm_R hI⟩))
  · refine br_t rfl ⟨vp_in_nI (by omega) (by decide), hY _ (br_t rfl ⟨lm_v6 hm, ?_, lm_R hI⟩)⟩
    rw [lm_e6 hm, lm_tauM hm, nI_clamp (by omega)]
end
section
/-! the layers' methods -/
theorem lm_uu {bs : Nat → Int32} {n : Nat} (hn : 1 ≤ n) (x y : Int32) : upd (upd bs 0 y) n x = upd (upd bs n x) 0 y := by
  funext j
  by_cases e : j = n
  · subst e
    rw [pk_us, pk_un (by omega), pk_us]
  · rw [pk_un e]
    by_cases z : j = 0
    · subst z
      rw [pk_us, pk_us]
    · rw [pk_un z, pk_un z, pk_un e]
theorem lm_invC {n : Nat} {f us bg bs : Nat → Int32} {m : Nat} (hI : lm_Inv n f us bg bs) (hm : m < 4) (hu : ¬ us m = 0) (h6 : n < 6) (t : Nat) : lm_Inv (n + 1) (upd f t (f m)) us (upd bg m (nI n)) (upd bs n (bg m)) := by
  obtain ⟨h1, h2, h3, h4, h5⟩ := hI
  refine ⟨by omega, by omega, lm_byU h3 (h3 m), fun m' hm' hu' => ?_, fun l hl1 hl => ?_⟩
  · by_cases e : m' = m
    · subst e
      exact ⟨n, by omega, pk_us⟩
    · obtain ⟨b, hb, eb⟩ := h4 m' hm' hu'
      exact ⟨b, by omega, by rw [pk_un e]; exact eb⟩
  · by_cases e : l = n
    · subst e
      obtain ⟨b, hb, eb⟩ := h4 m hm hu
      exact ⟨b, hb, by rw [pk_us]; exact eb⟩
    · obtain ⟨b, hb, eb⟩ := h5 l hl1 (by omega)
      exact ⟨b, hb, by rw [pk_un e]; exact eb⟩
theorem i_vc_commit {k : Nat} {u : SX} {v : SY} (I : i_Rel k u v) (hk : k + 4 ≤ 2048) (v1 : Int32) : wpX_commit (fun r u' => wpY_commit (fun r' v' => r' = r ∧ i_Rel (k + 4) u' v') v v1) u v1 := by
  obtain ⟨n, d, f, c, us, bg, bs, rfl, rfl, hI⟩ := I
  have hn1 := hI.1
  have hn6 := hI.2.1
  obtain ⟨r, hX, hY, hr⟩ := lm_ref n d f c us bg bs (fun j => d (lm_tau j)) (fun j => f (lm_tau j)) (fun j => c (lm_kap j)) (upd bs 0 (-4)) v1
  unfold wpX_commit wpY_commit
  dsimp only
  refine hX _ ?_
  rcases hr with hr | ⟨rfl, m, hm, rfl, hu⟩
  · exact br_f hr (hY _ (br_f hr ⟨rfl, lm_R hI⟩))
  · refine br_t rfl ?_
    have e : (nI m).toNatClampNeg = m := nI_clamp (by omega)
    have en : (nI n).toNatClampNeg = n := nI_clamp (by omega)
    have vm := vp_in_nI (N := 4) hm (by decide)
    rw [e, en]
    by_cases h6 : n < 6
    · have hX6 : nI n < 6 := nI_lt (b := 6) h6 (by decide)
      have hY6 : ¬ nI n = 6 := fun z => absurd ((nI_eq (b := 6) (by omega) (by decide)).mp z) (by omega)
      have vn := vp_in_nI (N := 6) h6 (by decide)
      refine br_t hX6 (lm_xct rfl (by omega) (nI_add 4 n) (by omega) ?_)
      dsimp only
      refine ⟨vm, vn, nm_e ⟨vm, nm_e (nm_r (nI_1 n) (hY _ (br_t rfl (br_f hY6 (lm_yct (nI_add 6 m) (by omega) rfl (by omega) ?_)))))⟩⟩
      dsimp only
      rw [en]
      refine ⟨vm, vn, nm_e ⟨vm, nm_e (nm_r (nI_1 n) ⟨nI_pred n, ?_⟩)⟩⟩
      exact lm_mk (lm_updT d (lm_tauL h6) (by rw [lm_tauM hm])) (lm_updT f (lm_tauL h6) (by rw [lm_tauM hm])) (lm_cpK 8 (fun i hi => lm_kapM hm hi) (fun i hi => by rw [lm_kapT (by omega) hi, lm_tauL h6])) (lm_uu hn1 _ _) (lm_invC hI hm hu h6 _)
    · obtain rfl : n = 6 := by omega
      exact br_f (by decide) (hY _ (br_t rfl (br_t rfl ⟨rfl, lm_R hI⟩)))
theorem lm_m4 {p : Nat} (hp : p < 2 ^ 31) : ¬ (-4 : Int32) = nI p := fun z => nI_pos hp (by rw [← z]; decide)
theorem i_vc_drop {k : Nat} {u : SX} {v : SY} (I : i_Rel k u v) (hk : k + 4 ≤ 2048) : wpX_drop (fun r u' => wpY_drop (fun r' v' => r' = r ∧ i_Rel (k + 4) u' v') v) u := by
  obtain ⟨n, d, f, c, us, bg, bs, rfl, rfl, hI⟩ := I
  have hI' := hI
  obtain ⟨h1, h2, h3, h4, h5⟩ := hI'
  obtain ⟨p, rfl⟩ : ∃ p, n = p + 1 := ⟨n - 1, by omega⟩
  unfold wpX_drop wpY_drop
  dsimp only
  refine nm_r (nI_pred p) ?_
  by_cases hp : p = 0
  · subst hp
    exact br_t rfl (br_t rfl ⟨rfl, lm_R hI⟩)
  · have hX0 : ¬ nI p = 0 := nI_ne0 (by omega) (by omega)
    have hY1 : ¬ nI (p + 1) = 1 := fun z => absurd ((nI_eq (b := 1) (by omega) (by decide)).mp z) (by omega)
    refine br_f hX0 ?_
    rw [nI_pred p]
    rcases lm_isM (L := nI (p + 1)) (L' := nI (p + 1)) (x := nI p) (d := d) (f := f) (c := c) (us := us) (bg := bg) (bs := bs) (d' := fun j => d (lm_tau j)) (f' := fun j => f (lm_tau j)) (c' := fun j => c (lm_kap j)) (b' := upd bs 0 (-4)) 4 0 rfl with ⟨gX, gY⟩ | ⟨gN, gX, gY⟩
    · exact ⟨5, gX _ (br_f lm_ne10 (br_f hY1 ⟨5, gY _ (br_t rfl ⟨rfl, lm_R hI⟩)⟩))⟩
    · refine ⟨5, gX _ (br_t rfl (br_f hY1 ⟨5, gY _ ⟨p + 2, lm_isF (by omega) ?_ (br_f lm_ne10 (nm_e ⟨rfl, lm_mk rfl rfl rfl rfl ?_⟩)) (p + 1) 0 (by omega)⟩⟩))⟩
      · intro l hl
        by_cases e : l = 0
        · subst e
          rw [pk_us]
          exact lm_m4 (by omega)
        · rw [pk_un e]
          obtain ⟨b, hb, eb⟩ := h5 l (by omega) hl
          rw [eb]
          exact fun z => absurd ((nI_eq (by omega) (by omega)).mp z) (by omega)
      · refine ⟨by omega, by omega, h3, fun m hm hu => ?_, fun l hl1 hl => h5 l hl1 (by omega)⟩
        obtain ⟨b, hb, eb⟩ := h4 m hm hu
        have hne : ¬ b = p := fun z => gN m (by omega) hm hu (by rw [eb, z])
        exact ⟨b, by omega, eb⟩
theorem i_vc_layers {k : Nat} {u : SX} {v : SY} (I : i_Rel k u v) (hk : k + 4 ≤ 2048) : wpX_layers (fun r => wpY_layers (fun r' => r' = r ∧ i_Rel (k + 4) u v) v) u := by
  obtain ⟨n, d, f, c, us, bg, bs, rfl, rfl, hI⟩ := I
  exact ⟨rfl, lm_R hI⟩
theorem i_vc_base {k : Nat} {u : SX} {v : SY} (I : i_Rel k u v) (hk : k + 4 ≤ 2048) (v1 : Int32) : wpX_base (fun r => wpY_base (fun r' => r' = r ∧ i_Rel (k + 4) u v) v v1) u v1 := by
  obtain ⟨n, d, f, c, us, bg, bs, rfl, rfl, hI⟩ := I
  have hn6 := hI.2.1
  unfold wpX_base wpY_base
  dsimp only
  rcases pk_ix v1 (n := n) (by omega) with h | h | ⟨l, hl, rfl⟩
  · exact lm_xlB (by omega) (Or.inl h) (br_t rfl (lm_ylB (by omega) (Or.inl h) (br_t rfl ⟨rfl, lm_R hI⟩)))
  · exact lm_xlB (by omega) (Or.inr h) (br_t rfl (lm_ylB (by omega) (Or.inr h) (br_t rfl ⟨rfl, lm_R hI⟩)))
  · have vl := vp_in_nI (n := l) (N := 6) (by omega) (by decide)
    have e : (nI l).toNatClampNeg = l := nI_clamp (by omega)
    rw [e]
    refine lm_xlK (by omega) hl (br_f lm_ne10 ?_)
    by_cases z : l = 0
    · subst z
      exact br_t rfl (lm_ylK (by omega) hl (br_f lm_ne10 ⟨vl, pk_us, lm_R hI⟩))
    · exact br_f (nI_ne0 (by omega) (by omega)) ⟨vl, lm_ylK (by omega) hl (br_f lm_ne10 ⟨vl, pk_un z, lm_R hI⟩)⟩
theorem lm_neX (p q : Int32) : p = q ↔ decide (¬ p = q) = false := by
  rw [decide_eq_false_iff_not, Decidable.not_not]
theorem i_vc_changes {k : Nat} {u : SX} {v : SY} (I : i_Rel k u v) (hk : k + 4 ≤ 2048) (v1 : Int32) : wpX_changes (fun r => wpY_changes (fun r' => r' = r ∧ i_Rel (k + 4) u v) v v1) u v1 := by
  obtain ⟨n, d, f, c, us, bg, bs, rfl, rfl, hI⟩ := I
  have hI' := hI
  obtain ⟨h1, h2, h3, h4, h5⟩ := hI'
  obtain ⟨r, hX, hY, hr⟩ := lm_ref n d f c us bg bs (fun j => d (lm_tau j)) (fun j => f (lm_tau j)) (fun j => c (lm_kap j)) (upd bs 0 (-4)) v1
  unfold wpX_changes wpY_changes
  dsimp only
  refine hX _ ?_
  rcases hr with hr | ⟨rfl, m, hm, rfl, hu⟩
  · exact br_f hr (hY _ (br_f hr ⟨rfl, lm_R hI⟩))
  · obtain ⟨b, hb, eb⟩ := h4 m hm hu
    have vm := vp_in_nI (N := 4) hm (by decide)
    have e : bg (nI m).toNatClampNeg = nI b := by rw [nI_clamp (by omega)]; exact eb
    rw [e]
    refine br_t rfl ⟨vm, lm_xdf (a := m) (b := 4 + b) (ne := fun j => decide (¬ c (m * 8 + j) = c ((4 + b) * 8 + j))) rfl (by omega) (nI_add 4 b) (by omega) (fun j hj => lm_neX _ _) (fun r hr => lm_xsz ?_)⟩
    refine hY _ (br_t rfl ⟨vm, lm_ydf (a := 6 + m) (b := b) (ne := fun j => decide (¬ c (m * 8 + j) = c ((4 + b) * 8 + j))) (nI_add 6 m) (by omega) rfl (by omega) (fun j hj => ?_) (fun r' hr' => ?_)⟩)
    · rw [lm_kapM hm hj, lm_kapT (by omega) hj, lm_tauL (by omega)]
      exact lm_neX _ _
    · rw [lm_tauM hm, lm_tauL (by omega)] at hr'
      have er := lm_same (h3 m) (h3 (4 + b)) hr hr'
      subst er
      exact lm_ysz ⟨rfl, lm_R hI⟩
theorem i_vc_compare {k : Nat} {u : SX} {v : SY} (I : i_Rel k u v) (hk : k + 4 ≤ 2048) (v1 : Int32) (v2 : Int32) : wpX_compare (fun r => wpY_compare (fun r' => r' = r ∧ i_Rel (k + 4) u v) v v1 v2) u v1 v2 := by
  obtain ⟨n, d, f, c, us, bg, bs, rfl, rfl, hI⟩ := I
  have hI' := hI
  obtain ⟨h1, h2, h3, h4, h5⟩ := hI'
  unfold wpX_compare wpY_compare
  dsimp only
  rcases pk_ix v1 (n := n) (by omega) with h | h | ⟨l, hl, rfl⟩
  · exact lm_xlB (by omega) (Or.inl h) (br_t rfl (lm_ylB (by omega) (Or.inl h) (br_t rfl ⟨rfl, lm_R hI⟩)))
  · exact lm_xlB (by omega) (Or.inr h) (br_t rfl (lm_ylB (by omega) (Or.inr h) (br_t rfl ⟨rfl, lm_R hI⟩)))
  · refine lm_xlK (by omega) hl (br_f lm_ne10 ?_)
    rcases pk_ix v2 (n := n) (by omega) with h | h | ⟨g, hg, rfl⟩
    · exact lm_xlB (by omega) (Or.inl h) (br_t rfl (lm_ylK (by omega) hl (br_f lm_ne10 (lm_ylB (by omega) (Or.inl h) (br_t rfl ⟨rfl, lm_R hI⟩)))))
    · exact lm_xlB (by omega) (Or.inr h) (br_t rfl (lm_ylK (by omega) hl (br_f lm_ne10 (lm_ylB (by omega) (Or.inr h) (br_t rfl ⟨rfl, lm_R hI⟩)))))
    · refine lm_xlK (by omega) hg (br_f lm_ne10 (lm_xdf (a := 4 + l) (b := 4 + g) (ne := fun j => decide (¬ c ((4 + l) * 8 + j) = c ((4 + g) * 8 + j))) (nI_add 4 l) (by omega) (nI_add 4 g) (by omega) (fun j hj => lm_neX _ _) (fun r hr => ?_)))
      refine lm_ylK (by omega) hl (br_f lm_ne10 (lm_ylK (by omega) hg (br_f lm_ne10 (lm_ydf (a := l) (b := g) (ne := fun j => decide (¬ c ((4 + l) * 8 + j) = c ((4 + g) * 8 + j))) rfl (by omega) rfl (by omega) (fun j hj => ?_) (fun r' hr' => ⟨?_, lm_R hI⟩)))))
      · rw [lm_kapT (by omega) hj, lm_kapT (by omega) hj, lm_tauL (by omega), lm_tauL (by omega)]
        exact lm_neX _ _
      · rw [lm_tauL (by omega), lm_tauL (by omega)] at hr'
        exact lm_same (h3 (4 + l)) (h3 (4 + g)) hr hr'
end
section
theorem i_vc_squash {k : Nat} {u : SX} {v : SY} (I : i_Rel k u v) (hk : k + 4 ≤ 2048) (v1 : Int32) : wpX_squash (fun r => wpY_squash (fun r' => r' = r ∧ i_Rel (k + 4) u v) v v1) u v1 := by
  obtain ⟨n, d, f, c, us, bg, bs, rfl, rfl, hI⟩ := I
  obtain ⟨r, hX, hY, hr⟩ := lm_ref n d f c us bg bs (fun j => d (lm_tau j)) (fun j => f (lm_tau j)) (fun j => c (lm_kap j)) (upd bs 0 (-4)) v1
  unfold wpX_squash wpY_squash
  dsimp only
  exact hX _ (hY _ ⟨rfl, lm_R hI⟩)
end
