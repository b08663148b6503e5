section
/-- every cell holds 0 or 1 -/
def cs_01 (f : Nat → Int32) : Prop := ∀ j, f j = 0 ∨ f j = 1
/-- the cells of the class are the marks of the reference, each 0 or 1; the reference's second array is free -/
def i_Rel (_ : Nat) (u : SX) (v : SY) : Prop := u = v.1 ∧ cs_01 u
theorem i_up {k : Nat} {u : SX} {v : SY} (h : i_Rel k u v) : i_Rel (k + 5) u v := h
theorem i_vc0 : wpX_init (fun u => wpY_init (fun v => i_Rel 0 u v)) := ⟨rfl, fun _ => Or.inl rfl⟩
/-! rows of kit/rows -/
theorem pk_us {f : Nat → Int32} {k : Nat} {x : Int32} : upd f k x k = x := if_pos rfl
theorem pk_un {f : Nat → Int32} {k j : Nat} {x : Int32} (h : j ≠ k) : upd f k x j = f j := if_neg h
theorem pk_sub {a b : Nat} (h : b ≤ a) : nI a - nI b = nI (a - b) := by
  obtain ⟨c, rfl⟩ : ∃ c, a = c + b := ⟨a - b, by omega⟩
  rw [← nI_add, Int32.add_sub_cancel, Nat.add_sub_cancel]
theorem pk_m1 (n : Nat) : nI (n + 1) + (-1) = nI n := by
  rw [← nI_1, Int32.add_assoc, show (1 : Int32) + (-1) = 0 from rfl, Int32.add_zero]
theorem pk_mul (a b : Nat) : nI a * nI b = nI (a * b) := (Int32.ofNat_mul a b).symm
theorem pk_sub_toInt {a b : Nat} (ha : a < 2 ^ 30) (hb : b < 2 ^ 30) : (nI a - nI b).toInt = (a : Int) - b := by
  rw [Int32.toInt_sub, nI_toInt (by omega), nI_toInt (by omega)]
  exact Int.bmod_eq_of_le (by omega) (by omega)
theorem pk_sneg {a b : Nat} (hb : b < 2 ^ 30) (h : a < b) : nI a - nI b < 0 := by
  rw [Int32.lt_iff_toInt_lt, pk_sub_toInt (by omega) hb, show (0 : Int32).toInt = 0 from by decide]
  omega
theorem pk_ix (x : Int32) {n : Nat} (hn : n < 2 ^ 31) : x < 0 ∨ nI n ≤ x ∨ ∃ j : Nat, j < n ∧ x = nI j := by
  by_cases h : x < 0
  · exact Or.inl h
  · obtain ⟨j, hj, rfl⟩ := nI_of h
    by_cases h2 : j < n
    · exact Or.inr (Or.inr ⟨j, h2, rfl⟩)
    · exact Or.inr (Or.inl (nI_le (by omega) hj))
theorem pk_and (x : Int32) {m : Int32} (k : Nat) (hm : m.toBitVec.toNat = 2 ^ k - 1) : x &&& m = nI (x.toBitVec.toNat % 2 ^ k) := by
  apply Int32.toBitVec_inj.mp
  apply BitVec.eq_of_toNat_eq
  rw [Int32.toBitVec_and, BitVec.toNat_and, hm, Nat.and_two_pow_sub_one_eq_mod]
  show _ = (BitVec.ofNat 32 _).toNat
  rw [BitVec.toNat_ofNat]
  exact (Nat.mod_eq_of_lt (Nat.lt_of_le_of_lt (Nat.mod_le _ _) x.toBitVec.isLt)).symm
theorem pk_andE (x : Int32) {m : Int32} (k : Nat) (hm : m.toBitVec.toNat = 2 ^ k - 1) : ∃ j : Nat, j < 2 ^ k ∧ x &&& m = nI j := ⟨_, Nat.mod_lt _ (Nat.two_pow_pos k), pk_and x k hm⟩
def bt (x : Int32) (i : Nat) : Bool := x.toBitVec.getLsbD i
theorem b_ext {x y : Int32} (h : ∀ i, i < 32 → bt x i = bt y i) : x = y := Int32.toBitVec_inj.mp (BitVec.eq_of_getLsbD_eq (fun i hi => h i hi))
theorem b_and (x y : Int32) (i : Nat) : bt (x &&& y) i = (bt x i && bt y i) := by unfold bt; rw [Int32.toBitVec_and, BitVec.getLsbD_and]
theorem s_l : ∀ n, n < 32 → ((nI n &&& 31).toBitVec.smod 32).toNat = n := by decide +kernel
theorem s_u : ∀ n, n < 32 → (((nI n).toUInt32 &&& Int32.toUInt32 31).toBitVec % 32).toNat = n := by decide +kernel
theorem b_ushr (n : Nat) (hn : n < 32) (x : Int32) (i : Nat) : bt ((x.toUInt32 >>> ((nI n).toUInt32 &&& Int32.toUInt32 31)).toInt32) i = bt x (n + i) := by
  show (x.toUInt32 >>> ((nI n).toUInt32 &&& Int32.toUInt32 31)).toBitVec.getLsbD i = x.toUInt32.toBitVec.getLsbD (n + i)
  rw [UInt32.toBitVec_shiftRight]
  show (x.toUInt32.toBitVec >>> (((nI n).toUInt32 &&& Int32.toUInt32 31).toBitVec % 32).toNat).getLsbD i = _
  rw [s_u n hn, BitVec.getLsbD_ushiftRight]
theorem b_sshr (n : Nat) (hn : n < 32) (x : Int32) {i : Nat} (hi : i < 32) : bt (x >>> (nI n &&& 31)) i = if n + i < 32 then bt x (n + i) else bt x 31 := by
  unfold bt
  rw [Int32.toBitVec_shiftRight]
  show (x.toBitVec.sshiftRight ((nI n &&& 31).toBitVec.smod 32).toNat).getLsbD i = _
  rw [s_l n hn, BitVec.getLsbD_sshiftRight, BitVec.msb_eq_getLsbD_last]
  simp [hi]
/-! cells, small types -/
theorem cs_10 : ¬ (1 : Int32) = 0 := by decide
theorem cs_n0 : vp_nar .boolean 0 = 0 := by decide +kernel
theorem cs_n1 : vp_nar .boolean 1 = 1 := by decide +kernel
theorem cs_nar {x : Int32} (h : x = 0 ∨ x = 1) : vp_nar .boolean x = x := by
  rcases h with rfl | rfl
  · exact cs_n0
  · exact cs_n1
theorem cs_upd01 {f : Nat → Int32} {k : Nat} {x : Int32} (h : cs_01 f) (hx : x = 0 ∨ x = 1) : cs_01 (upd f k x) := by
  intro j
  unfold upd
  split
  · exact hx
  · exact h j
theorem cs_upd0 {f : Nat → Int32} {k : Nat} (h : cs_01 f) : cs_01 (upd f k (vp_nar .boolean 0)) := cs_upd01 h (Or.inl cs_n0)
theorem cs_upd1 {f : Nat → Int32} {k : Nat} (h : cs_01 f) : cs_01 (upd f k (vp_nar .boolean 1)) := cs_upd01 h (Or.inr cs_n1)
theorem cs_ix (j x : Nat) : nI j * 1024 + nI x = nI (j * 1024 + x) := by
  show nI j * nI 1024 + nI x = _
  rw [pk_mul, nI_add]
theorem cs_in {j x : Nat} (hj : j < 4) (hx : x < 1024) : vp_in (nI j * 1024 + nI x) 4096 := by
  rw [cs_ix]
  exact vp_in_nI (by omega) (by omega)
theorem cs_cl {j x : Nat} (hj : j < 4) (hx : x < 1024) : (nI j * 1024 + nI x).toNatClampNeg = j * 1024 + x := by
  rw [cs_ix, nI_clamp (by omega)]
/-! sets and numbers -/
def cs_bad (n : Nat) (x : Int32) : Prop := x < 0 ∨ nI n ≤ x
theorem cs_case (n : Nat) (hn : n < 2 ^ 31) (x : Int32) : cs_bad n x ∨ ∃ j : Nat, j < n ∧ x = nI j := by
  rcases pk_ix x hn with h | h | h
  · exact Or.inl (Or.inl h)
  · exact Or.inl (Or.inr h)
  · exact Or.inr h
theorem cs_nn {n : Nat} (hn : n < 2 ^ 31) {x : Int32} (h : nI n ≤ x) : ¬ x < 0 := Int32.not_lt.mpr (Int32.le_trans (nI_pos' hn) h)
theorem cs_sX {A B : Prop} {j : Nat} (hj : j < 4) (h : B) : wpX_isSet (fun r => (r = 0 → A) ∧ (¬ r = 0 → B)) (nI j) :=
  br_f (nI_pos (by omega)) (br_f (nI_ge (b := 4) hj (by decide)) (br_f cs_10 h))
theorem cs_sY {A B : Prop} {j : Nat} {m d : Nat → Int32} (hj : j < 4) (h : B) : wpY_isSet (fun r => (r = 0 → A) ∧ (¬ r = 0 → B)) (m, d) (nI j) :=
  br_f (nI_pos (by omega)) (br_f (nI_ge (b := 4) hj (by decide)) (br_f cs_10 h))
theorem cs_xX {A B : Prop} {s : Int32} (hs : cs_bad 4 s) (h : A) : wpX_isSet (fun r => (r = 0 → A) ∧ (¬ r = 0 → B)) s := by
  rcases hs with g | g
  · exact br_t g (br_t rfl h)
  · exact br_f (cs_nn (by decide) g) (br_t g (br_t rfl h))
theorem cs_xY {A B : Prop} {s : Int32} {m d : Nat → Int32} (hs : cs_bad 4 s) (h : A) : wpY_isSet (fun r => (r = 0 → A) ∧ (¬ r = 0 → B)) (m, d) s := by
  rcases hs with g | g
  · exact br_t g (br_t rfl h)
  · exact br_f (cs_nn (by decide) g) (br_t g (br_t rfl h))
theorem cs_nX {A B : Prop} {j : Nat} (hj : j < 1024) (h : B) : wpX_isNumber (fun r => (r = 0 → A) ∧ (¬ r = 0 → B)) (nI j) :=
  br_f (nI_pos (by omega)) (br_f (nI_ge (b := 1024) hj (by decide)) (br_f cs_10 h))
theorem cs_nY {A B : Prop} {j : Nat} {m d : Nat → Int32} (hj : j < 1024) (h : B) : wpY_isNumber (fun r => (r = 0 → A) ∧ (¬ r = 0 → B)) (m, d) (nI j) :=
  br_f (nI_pos (by omega)) (br_f (nI_ge (b := 1024) hj (by decide)) (br_f cs_10 h))
theorem cs_yX {A B : Prop} {s : Int32} (hs : cs_bad 1024 s) (h : A) : wpX_isNumber (fun r => (r = 0 → A) ∧ (¬ r = 0 → B)) s := by
  rcases hs with g | g
  · exact br_t g (br_t rfl h)
  · exact br_f (cs_nn (by decide) g) (br_t g (br_t rfl h))
theorem cs_yY {A B : Prop} {s : Int32} {m d : Nat → Int32} (hs : cs_bad 1024 s) (h : A) : wpY_isNumber (fun r => (r = 0 → A) ∧ (¬ r = 0 → B)) (m, d) s := by
  rcases hs with g | g
  · exact br_t g (br_t rfl h)
  · exact br_f (cs_nn (by decide) g) (br_t g (br_t rfl h))
/-! ends -/
theorem cs_2047 : ∀ i, i < 32 → bt 2047 i = decide (i < 11) := by decide +kernel
theorem cs_up (x : Int32) : ((x.toUInt32 >>> ((11 : Int32).toUInt32 &&& Int32.toUInt32 31)).toInt32) &&& 2047 = (x >>> ((11 : Int32) &&& 31)) &&& 2047 := by
  apply b_ext
  intro i hi
  have e1 : bt ((x.toUInt32 >>> ((11 : Int32).toUInt32 &&& Int32.toUInt32 31)).toInt32) i = bt x (11 + i) := b_ushr 11 (by omega) x i
  have e2 : bt (x >>> ((11 : Int32) &&& 31)) i = if 11 + i < 32 then bt x (11 + i) else bt x 31 := b_sshr 11 (by omega) x hi
  rw [b_and, b_and, e1, e2, cs_2047 i hi]
  by_cases h : i < 11
  · rw [if_pos (by omega)]
  · rw [decide_eq_false h, Bool.and_false, Bool.and_false]
theorem cs_eX {A B : Prop} {j : Nat} (hj : j ≤ 1024) (h : B) : wpX_isEnd (fun r => (r = 0 → A) ∧ (¬ r = 0 → B)) (nI j) :=
  br_f (nI_pos (by omega)) (br_f (nI_nlt (b := j) (a := 1024) hj (by decide)) (br_f cs_10 h))
theorem cs_fX {A B : Prop} {j : Nat} (hj : 1024 < j) (h2 : j < 2 ^ 31) (h : A) : wpX_isEnd (fun r => (r = 0 → A) ∧ (¬ r = 0 → B)) (nI j) :=
  br_f (nI_pos h2) (br_t (nI_lt (a := 1024) hj h2) (br_t rfl h))
theorem cs_ends (e : Int32) : ∃ a b : Nat, e &&& 2047 = nI a ∧ ((e.toUInt32 >>> ((11 : Int32).toUInt32 &&& Int32.toUInt32 31)).toInt32) &&& 2047 = nI b ∧ (e >>> ((11 : Int32) &&& 31)) &&& 2047 = nI b ∧
    (((∀ p : Int32 → Prop, p 0 → wpX_areEnds p e) ∧ (∀ (p : Int32 → Prop) (m d : Nat → Int32), p 0 → wpY_areEnds p (m, d) e)) ∨
     (a ≤ 1024 ∧ b ≤ 1024 ∧ (∀ p : Int32 → Prop, p 1 → wpX_areEnds p e) ∧ (∀ (p : Int32 → Prop) (m d : Nat → Int32), p 1 → wpY_areEnds p (m, d) e))) := by
  obtain ⟨a, ha, ea⟩ := pk_andE e (m := 2047) 11 (by decide)
  obtain ⟨b, hb, eb⟩ := pk_andE (e >>> ((11 : Int32) &&& 31)) (m := 2047) 11 (by decide)
  have eb' := (cs_up e).trans eb
  refine ⟨a, b, ea, eb', eb, ?_⟩
  unfold wpX_areEnds wpX_lowerEnd wpX_upperEnd wpY_areEnds
  dsimp only
  rw [ea, eb', eb]
  by_cases h1 : a ≤ 1024
  · have g1 : ¬ (1024 : Int32) < nI a := nI_nlt (a := 1024) h1 (by decide)
    by_cases h2 : b ≤ 1024
    · have g2 : ¬ (1024 : Int32) < nI b := nI_nlt (a := 1024) h2 (by decide)
      exact Or.inr ⟨h1, h2, fun p hp => cs_eX h1 (cs_eX h2 hp), fun p m d hp => br_f g1 (br_f g2 hp)⟩
    · have g2 : (1024 : Int32) < nI b := nI_lt (a := 1024) (by omega) (by omega)
      exact Or.inl ⟨fun p hp => cs_eX h1 (cs_fX (by omega) (by omega) hp), fun p m d hp => br_f g1 (br_t g2 hp)⟩
  · have g1 : (1024 : Int32) < nI a := nI_lt (a := 1024) (by omega) (by omega)
    exact Or.inl ⟨fun p hp => cs_fX (by omega) (by omega) hp, fun p m d hp => br_t g1 hp⟩
end
section
/-! the reading loops, class and reference in step: one answer serves both -/
theorem cs_cnt (f : Nat → Int32) {j : Nat} (hj : j < 4) {b : Nat} (hb : b ≤ 1024) : ∀ e a c : Nat, b - a = e → a ≤ 1024 →
    ∃ r : Nat, r ≤ c + e ∧ (∀ p : Int32 → Prop, p (nI r) → wX_countBetween_6 p (nI j) (nI b) f (e + 1) (nI c) (nI a)) ∧
      (∀ (p : Int32 → Prop) (d : Nat → Int32), p (nI r) → wY_count_6 p (nI j) (nI b) f d (e + 1) (nI c) (nI a)) := by
  intro e
  induction e with
  | zero =>
    intro a c h1 h2
    have h : nI b ≤ nI a := nI_le (by omega) (by omega)
    exact ⟨c, by omega, fun p hp => br_t h hp, fun p d hp => br_t h hp⟩
  | succ e ih =>
    intro a c h1 h2
    have h : ¬ nI b ≤ nI a := nI_ge (by omega) (by omega)
    have hi : vp_in (nI j * 1024 + nI a) 4096 := cs_in hj (by omega)
    by_cases z : f (nI j * 1024 + nI a).toNatClampNeg = 0
    · obtain ⟨r, hr, hX, hY⟩ := ih (a + 1) c (by omega) (by omega)
      exact ⟨r, by omega, fun p hp => br_f h ⟨hi, br_t z (nm_r (nI_1 a) (hX p hp))⟩,
        fun p d hp => br_f h ⟨hi, br_t z (nm_r (nI_1 a) (hY p d hp))⟩⟩
    · obtain ⟨r, hr, hX, hY⟩ := ih (a + 1) (c + 1) (by omega) (by omega)
      exact ⟨r, by omega, fun p hp => br_f h ⟨hi, br_f z (nm_r (nI_1 c) (nm_r (nI_1 a) (hX p hp)))⟩,
        fun p d hp => br_f h ⟨hi, br_f z (nm_r (nI_1 c) (nm_r (nI_1 a) (hY p d hp)))⟩⟩
theorem cs_btw (f : Nat → Int32) {j : Nat} (hj : j < 4) {a b : Nat} (ha : a ≤ 1024) (hb : b ≤ 1024) :
    ∃ r : Nat, r ≤ 1024 ∧ (∀ p : Int32 → Prop, p (nI r) → wpX_countBetween p f (nI j) (nI a) (nI b)) ∧
      (∀ (p : Int32 → Prop) (d : Nat → Int32), p (nI r) → wpY_count p (f, d) (nI j) (nI a) (nI b)) := by
  obtain ⟨r, hr, hX, hY⟩ := cs_cnt f hj hb (b - a) a 0 rfl ha
  exact ⟨r, by omega, fun p hp => ⟨_, hX p hp⟩, fun p d hp => ⟨_, hY p d hp⟩⟩
theorem cs_all (f : Nat → Int32) {j : Nat} (hj : j < 4) :
    ∃ r : Nat, r ≤ 1024 ∧ (∀ p : Int32 → Prop, p (nI r) → wpX_countAll p f (nI j)) ∧
      (∀ (p : Int32 → Prop) (d : Nat → Int32), p (nI r) → wpY_size p (f, d) (nI j)) := by
  obtain ⟨r, hr, hX, hY⟩ := cs_btw f hj (a := 0) (b := 1024) (by omega) (by omega)
  refine ⟨r, hr, fun p hp => ?_, fun p d hp => ?_⟩
  · unfold wpX_countAll
    exact hX _ hp
  · unfold wpY_size
    exact cs_sY hj (hY _ d hp)
theorem cs_com (f : Nat → Int32) {j t : Nat} (hj : j < 4) (ht : t < 4) : ∀ e a c : Nat, 1024 - a = e → a ≤ 1024 →
    ∃ r : Int32, (∀ p : Int32 → Prop, p r → wX_countCommon_5 p (nI j) (nI t) f (e + 1) (nI c) (nI a)) ∧
      (∀ (p : Int32 → Prop) (d : Nat → Int32), p r → wY_common_23 p (nI j) (nI t) f d (e + 1) (nI c) (nI a)) := by
  intro e
  induction e with
  | zero =>
    intro a c h1 h2
    have h : (1024 : Int32) ≤ nI a := nI_le (a := 1024) (by omega) (by omega)
    exact ⟨nI c, fun p hp => br_t h hp, fun p d hp => br_t h hp⟩
  | succ e ih =>
    intro a c h1 h2
    have h : ¬ (1024 : Int32) ≤ nI a := nI_ge (b := 1024) (by omega) (by omega)
    have hi : vp_in (nI j * 1024 + nI a) 4096 := cs_in hj (by omega)
    have hi2 : vp_in (nI t * 1024 + nI a) 4096 := cs_in ht (by omega)
    by_cases z : f (nI j * 1024 + nI a).toNatClampNeg = 0
    · obtain ⟨r, hX, hY⟩ := ih (a + 1) c (by omega) (by omega)
      exact ⟨r, fun p hp => br_f h ⟨hi, br_t z (nm_r (nI_1 a) (hX p hp))⟩,
        fun p d hp => br_f h ⟨hi, br_t z (nm_r (nI_1 a) (hY p d hp))⟩⟩
    · by_cases y : f (nI t * 1024 + nI a).toNatClampNeg = 0
      · obtain ⟨r, hX, hY⟩ := ih (a + 1) c (by omega) (by omega)
        exact ⟨r, fun p hp => br_f h ⟨hi, br_f z ⟨hi2, br_t y (nm_r (nI_1 a) (hX p hp))⟩⟩,
          fun p d hp => br_f h ⟨hi, br_f z ⟨hi2, br_t y (nm_r (nI_1 a) (hY p d hp))⟩⟩⟩
      · obtain ⟨r, hX, hY⟩ := ih (a + 1) (c + 1) (by omega) (by omega)
        exact ⟨r, fun p hp => br_f h ⟨hi, br_f z ⟨hi2, br_f y (nm_r (nI_1 c) (nm_r (nI_1 a) (hX p hp)))⟩⟩,
          fun p d hp => br_f h ⟨hi, br_f z ⟨hi2, br_f y (nm_r (nI_1 c) (nm_r (nI_1 a) (hY p d hp)))⟩⟩⟩
theorem cs_nxt (f : Nat → Int32) {j : Nat} (hj : j < 4) : ∀ e a : Nat, 1024 - a = e → a ≤ 1024 →
    ∃ r : Int32, (∀ p : Int32 → Prop, p r → wX_next_21 p (nI j) f (e + 1) (nI a)) ∧
      (∀ (p : Int32 → Prop) (d : Nat → Int32), p r → wY_next_23 p (nI j) f d (e + 1) (nI a)) := by
  intro e
  induction e with
  | zero =>
    intro a h1 h2
    have h : (1024 : Int32) ≤ nI a := nI_le (a := 1024) (by omega) (by omega)
    exact ⟨-3, fun p hp => br_t h hp, fun p d hp => br_t h hp⟩
  | succ e ih =>
    intro a h1 h2
    have h : ¬ (1024 : Int32) ≤ nI a := nI_ge (b := 1024) (by omega) (by omega)
    have hi : vp_in (nI j * 1024 + nI a) 4096 := cs_in hj (by omega)
    by_cases z : f (nI j * 1024 + nI a).toNatClampNeg = 0
    · obtain ⟨r, hX, hY⟩ := ih (a + 1) (by omega) (by omega)
      exact ⟨r, fun p hp => br_f h ⟨hi, br_t z (nm_r (nI_1 a) (hX p hp))⟩,
        fun p d hp => br_f h ⟨hi, br_t z (nm_r (nI_1 a) (hY p d hp))⟩⟩
    · exact ⟨nI a, fun p hp => br_f h ⟨hi, br_f z hp⟩, fun p d hp => br_f h ⟨hi, br_f z hp⟩⟩
/-! select: the class counts up to k, the reference from k down -/
theorem cs_selN (f : Nat → Int32) {j : Nat} (hj : j < 4) {k : Int32} (hk : k < 0) : ∀ e a c : Nat, 1024 - a = e → a ≤ 1024 → c ≤ a →
    ∀ p : Int32 → Prop, p (-3) → wX_select_14 p (nI j) k f (e + 1) (nI c) (nI a) := by
  intro e
  induction e with
  | zero =>
    intro a c h1 h2 h3 p hp
    have h : (1024 : Int32) ≤ nI a := nI_le (a := 1024) (by omega) (by omega)
    exact br_t h hp
  | succ e ih =>
    intro a c h1 h2 h3 p hp
    have h : ¬ (1024 : Int32) ≤ nI a := nI_ge (b := 1024) (by omega) (by omega)
    have hi : vp_in (nI j * 1024 + nI a) 4096 := cs_in hj (by omega)
    have hne : ¬ nI c = k := by
      intro g
      rw [← g] at hk
      exact nI_pos (by omega) hk
    by_cases z : f (nI j * 1024 + nI a).toNatClampNeg = 0
    · exact br_f h ⟨hi, br_t z (nm_r (nI_1 a) (ih (a + 1) c (by omega) (by omega) (by omega) p hp))⟩
    · exact br_f h ⟨hi, br_f z (br_f hne (nm_r (nI_1 c) (nm_r (nI_1 a) (ih (a + 1) (c + 1) (by omega) (by omega) (by omega) p hp))))⟩
theorem cs_selP (f : Nat → Int32) {j : Nat} (hj : j < 4) {q : Nat} (hq : q < 2 ^ 31) : ∀ e a c l : Nat, 1024 - a = e → a ≤ 1024 → c + l = q → c ≤ a →
    ∃ r : Int32, (∀ p : Int32 → Prop, p r → wX_select_14 p (nI j) (nI q) f (e + 1) (nI c) (nI a)) ∧
      (∀ (p : Int32 → Prop) (d : Nat → Int32), p r → wY_select_15 p (nI j) (nI q) f d (e + 1) (nI l) (nI a)) := by
  intro e
  induction e with
  | zero =>
    intro a c l h1 h2 h3 h4
    have h : (1024 : Int32) ≤ nI a := nI_le (a := 1024) (by omega) (by omega)
    exact ⟨-3, fun p hp => br_t h hp, fun p d hp => br_t h hp⟩
  | succ e ih =>
    intro a c l h1 h2 h3 h4
    have h : ¬ (1024 : Int32) ≤ nI a := nI_ge (b := 1024) (by omega) (by omega)
    have hi : vp_in (nI j * 1024 + nI a) 4096 := cs_in hj (by omega)
    have hp0 : ¬ nI q < 0 := nI_pos hq
    by_cases z : f (nI j * 1024 + nI a).toNatClampNeg = 0
    · obtain ⟨r, hX, hY⟩ := ih (a + 1) c l (by omega) (by omega) h3 (by omega)
      exact ⟨r, fun p hp => br_f h ⟨hi, br_t z (nm_r (nI_1 a) (hX p hp))⟩,
        fun p d hp => br_f h (br_f hp0 ⟨hi, br_t z (nm_r (nI_1 a) (hY p d hp))⟩)⟩
    · cases l with
      | zero =>
        have g : nI c = nI q := by rw [show c = q by omega]
        exact ⟨nI a, fun p hp => br_f h ⟨hi, br_f z (br_t g hp)⟩,
          fun p d hp => br_f h (br_f hp0 ⟨hi, br_f z (br_t nI_0 hp)⟩)⟩
      | succ l =>
        have g : ¬ nI c = nI q := by
          rw [nI_eq (by omega) hq]
          omega
        have g2 : ¬ nI (l + 1) = 0 := nI_ne0 (by omega) (by omega)
        obtain ⟨r, hX, hY⟩ := ih (a + 1) (c + 1) l (by omega) (by omega) (by omega) (by omega)
        exact ⟨r, fun p hp => br_f h ⟨hi, br_f z (br_f g (nm_r (nI_1 c) (nm_r (nI_1 a) (hX p hp))))⟩,
          fun p d hp => br_f h (br_f hp0 ⟨hi, br_f z (br_f g2 (nm_r (pk_m1 l) (nm_r (nI_1 a) (hY p d hp))))⟩)⟩
/-! ranges: the class keeps the cell before, the reference asks has -/
theorem cs_has0 {f d : Nat → Int32} {j x : Nat} (hj : j < 4) (hx : x < 1024) (z : f (nI j * 1024 + nI x).toNatClampNeg = 0) {p : Int32 → Prop} (hp : p 0) : wpY_has p (f, d) (nI j) (nI x) := by
  unfold wpY_has
  exact cs_sY hj (cs_nY hx ⟨cs_in hj hx, br_t z hp⟩)
theorem cs_has1 {f d : Nat → Int32} {j x : Nat} (hj : j < 4) (hx : x < 1024) (z : ¬ f (nI j * 1024 + nI x).toNatClampNeg = 0) {p : Int32 → Prop} (hp : p 1) : wpY_has p (f, d) (nI j) (nI x) := by
  unfold wpY_has
  exact cs_sY hj (cs_nY hx ⟨cs_in hj hx, br_f z hp⟩)
theorem cs_hasB {f d : Nat → Int32} {j : Nat} (hj : j < 4) {x : Int32} (hx : cs_bad 1024 x) {p : Int32 → Prop} (hp : p 0) : wpY_has p (f, d) (nI j) x := by
  unfold wpY_has
  exact cs_sY hj (cs_yY hx hp)
def cs_bef (f : Nat → Int32) (j a : Nat) (w : Int32) : Prop := (a = 0 ∧ w = 0) ∨ ∃ b : Nat, a = b + 1 ∧ w = f (nI j * 1024 + nI b).toNatClampNeg
theorem cs_prev0 {f d : Nat → Int32} {j a : Nat} (hj : j < 4) (ha : a < 1024) {w : Int32} (hw : cs_bef f j a w) (z : w = 0) {p : Int32 → Prop} (hp : p 0) : wpY_has p (f, d) (nI j) (nI a - 1) := by
  rcases hw with ⟨rfl, _⟩ | ⟨b, rfl, rfl⟩
  · exact cs_hasB hj (Or.inl (by decide +kernel)) hp
  · rw [nI_pred]
    exact cs_has0 hj (by omega) z hp
theorem cs_prev1 {f d : Nat → Int32} {j a : Nat} (hj : j < 4) (ha : a < 1024) {w : Int32} (hw : cs_bef f j a w) (z : ¬ w = 0) {p : Int32 → Prop} (hp : p 1) : wpY_has p (f, d) (nI j) (nI a - 1) := by
  rcases hw with ⟨_, e⟩ | ⟨b, rfl, rfl⟩
  · exact absurd e z
  · rw [nI_pred]
    exact cs_has1 hj (by omega) z hp
theorem cs_rgs (f : Nat → Int32) {j : Nat} (hj : j < 4) : ∀ (e a c : Nat) (w : Int32), 1024 - a = e → a ≤ 1024 → cs_bef f j a w →
    ∃ r : Int32, (∀ p : Int32 → Prop, p r → wX_ranges_16 p (nI j) f (e + 1) (nI c) w (nI a)) ∧
      (∀ (p : Int32 → Prop) (d : Nat → Int32), p r → wY_ranges_14 p (nI j) f d (e + 1) (nI c) (nI a)) := by
  intro e
  induction e with
  | zero =>
    intro a c w h1 h2 hw
    have h : (1024 : Int32) ≤ nI a := nI_le (a := 1024) (by omega) (by omega)
    exact ⟨nI c, fun p hp => br_t h hp, fun p d hp => br_t h hp⟩
  | succ e ih =>
    intro a c w h1 h2 hw
    have h : ¬ (1024 : Int32) ≤ nI a := nI_ge (b := 1024) (by omega) (by omega)
    have ha : a < 1024 := by omega
    have hi : vp_in (nI j * 1024 + nI a) 4096 := cs_in hj ha
    have hb : cs_bef f j (a + 1) (f (nI j * 1024 + nI a).toNatClampNeg) := Or.inr ⟨a, rfl, rfl⟩
    by_cases z : f (nI j * 1024 + nI a).toNatClampNeg = 0
    · obtain ⟨r, hX, hY⟩ := ih (a + 1) c _ (by omega) (by omega) hb
      exact ⟨r, fun p hp => br_f h ⟨hi, nm_e (br_t z (nm_r (nI_1 a) (hX p hp)))⟩,
        fun p d hp => br_f h (cs_has0 hj ha z (br_t rfl (nm_r (nI_1 a) (hY p d hp))))⟩
    · by_cases y : w = 0
      · obtain ⟨r, hX, hY⟩ := ih (a + 1) (c + 1) _ (by omega) (by omega) hb
        exact ⟨r, fun p hp => br_f h ⟨hi, nm_e (br_f z (br_t y (nm_r (nI_1 c) (nm_r (nI_1 a) (hX p hp)))))⟩,
          fun p d hp => br_f h (cs_has1 hj ha z (br_f cs_10 (cs_prev0 hj ha hw y (br_t rfl (nm_r (nI_1 c) (nm_r (nI_1 a) (hY p d hp)))))))⟩
      · obtain ⟨r, hX, hY⟩ := ih (a + 1) c _ (by omega) (by omega) hb
        exact ⟨r, fun p hp => br_f h ⟨hi, nm_e (br_f z (br_f y (nm_r (nI_1 a) (hX p hp))))⟩,
          fun p d hp => br_f h (cs_has1 hj ha z (br_f cs_10 (cs_prev1 hj ha hw y (br_f cs_10 (nm_r (nI_1 a) (hY p d hp))))))⟩
end
section
/-! range: both sides store the same into the same cell -/
theorem cs_rng {j : Nat} (hj : j < 4) (how ends : Int32) {b : Nat} (hb : b ≤ 1024) (hE : (ends >>> ((11 : Int32) &&& 31)) &&& 2047 = nI b) : ∀ (e a : Nat) (f : Nat → Int32), cs_01 f → b - a = e → a ≤ 1024 →
    ∃ f' : Nat → Int32, cs_01 f' ∧ (∀ p : Int32 → SX → Prop, wpX_countAll (fun r => p r f') f' (nI j) → wX_range_40 p (nI j) how (nI b) (e + 1) (nI a) f) ∧
      (∀ (p : Int32 → SY → Prop) (d : Nat → Int32), wpY_size (fun r => p r (f', d)) (f', d) (nI j) → wY_range_37 p (nI j) ends how (e + 1) (nI a) f d) := by
  intro e
  induction e with
  | zero =>
    intro a f h01 h1 h2
    have h : nI b ≤ nI a := nI_le (by omega) (by omega)
    have hy : (ends >>> ((11 : Int32) &&& 31)) &&& 2047 ≤ nI a := by rw [hE]; exact h
    exact ⟨f, h01, fun p hp => br_t h hp, fun p d hp => br_t hy hp⟩
  | succ e ih =>
    intro a f h01 h1 h2
    have h : ¬ nI b ≤ nI a := nI_ge (by omega) (by omega)
    have hy : ¬ (ends >>> ((11 : Int32) &&& 31)) &&& 2047 ≤ nI a := by rw [hE]; exact h
    have hi : vp_in (nI j * 1024 + nI a) 4096 := cs_in hj (by omega)
    by_cases w0 : how = 0
    · obtain ⟨f', h', hX, hY⟩ := ih (a + 1) (upd f (nI j * 1024 + nI a).toNatClampNeg (vp_nar .boolean 1)) (cs_upd1 h01) (by omega) (by omega)
      exact ⟨f', h', fun p hp => br_f h (br_t w0 ⟨hi, nm_e (nm_r (nI_1 a) (hX p hp))⟩),
        fun p d hp => br_f hy (nm_e (br_t w0 ⟨hi, nm_e (nm_r (nI_1 a) (hY p d hp))⟩))⟩
    · by_cases w2 : how = 2
      · by_cases z : f (nI j * 1024 + nI a).toNatClampNeg = 0
        · obtain ⟨f', h', hX, hY⟩ := ih (a + 1) (upd f (nI j * 1024 + nI a).toNatClampNeg (vp_nar .boolean 1)) (cs_upd1 h01) (by omega) (by omega)
          exact ⟨f', h', fun p hp => br_f h (br_f w0 (br_t w2 ⟨hi, br_t z ⟨hi, nm_e (nm_r (nI_1 a) (hX p hp))⟩⟩)),
            fun p d hp => br_f hy (nm_e (br_f w0 (br_t w2 ⟨hi, br_t z ⟨hi, nm_e (nm_r (nI_1 a) (hY p d hp))⟩⟩)))⟩
        · obtain ⟨f', h', hX, hY⟩ := ih (a + 1) (upd f (nI j * 1024 + nI a).toNatClampNeg (vp_nar .boolean 0)) (cs_upd0 h01) (by omega) (by omega)
          exact ⟨f', h', fun p hp => br_f h (br_f w0 (br_t w2 ⟨hi, br_f z ⟨hi, nm_e (nm_r (nI_1 a) (hX p hp))⟩⟩)),
            fun p d hp => br_f hy (nm_e (br_f w0 (br_t w2 ⟨hi, br_f z ⟨hi, nm_e (nm_r (nI_1 a) (hY p d hp))⟩⟩)))⟩
      · obtain ⟨f', h', hX, hY⟩ := ih (a + 1) (upd f (nI j * 1024 + nI a).toNatClampNeg (vp_nar .boolean 0)) (cs_upd0 h01) (by omega) (by omega)
        exact ⟨f', h', fun p hp => br_f h (br_f w0 (br_f w2 ⟨hi, nm_e (nm_r (nI_1 a) (hX p hp))⟩)),
          fun p d hp => br_f hy (nm_e (br_f w0 (br_f w2 ⟨hi, nm_e (nm_r (nI_1 a) (hY p d hp))⟩)))⟩
/-! clear -/
theorem cs_clr {j : Nat} (hj : j < 4) {x : Int32} (hx : ¬ x < 0) : ∀ (e a : Nat) (f : Nat → Int32), cs_01 f → 1024 - a = e → a ≤ 1024 →
    ∃ f' : Nat → Int32, cs_01 f' ∧ (∀ p : Int32 → SX → Prop, p x f' → wX_clear_17 p (nI j) x (e + 1) (nI a) f) ∧
      (∀ (p : Int32 → SY → Prop) (d : Nat → Int32), p x (f', d) → wY_clear_8 p (nI j) x (e + 1) (nI a) f d) := by
  intro e
  induction e with
  | zero =>
    intro a f h01 h1 h2
    have h : (1024 : Int32) ≤ nI a := nI_le (a := 1024) (by omega) (by omega)
    exact ⟨f, h01, fun p hp => br_t h hp, fun p d hp => br_t h hp⟩
  | succ e ih =>
    intro a f h01 h1 h2
    have h : ¬ (1024 : Int32) ≤ nI a := nI_ge (b := 1024) (by omega) (by omega)
    have hi : vp_in (nI j * 1024 + nI a) 4096 := cs_in hj (by omega)
    obtain ⟨f', h', hX, hY⟩ := ih (a + 1) (upd f (nI j * 1024 + nI a).toNatClampNeg (vp_nar .boolean 0)) (cs_upd0 h01) (by omega) (by omega)
    exact ⟨f', h', fun p hp => br_f h ⟨hi, nm_e (nm_r (nI_1 a) (hX p hp))⟩,
      fun p d hp => br_f h (br_f hx ⟨hi, nm_e (nm_r (nI_1 a) (hY p d hp))⟩)⟩
/-! a stretch of a set that holds what h says, the rest as in f -/
def cs_mid (f h : Nat → Int32) (b lo hi : Nat) : Nat → Int32 := fun i => if b + lo ≤ i ∧ i < b + hi then h (i - b) else f i
theorem cs_mid0 (f h : Nat → Int32) (b lo : Nat) : cs_mid f h b lo lo = f := by
  funext i
  exact if_neg (by omega)
theorem cs_midN {f h : Nat → Int32} {b lo hi i : Nat} (n : ¬ (b + lo ≤ i ∧ i < b + hi)) : cs_mid f h b lo hi i = f i := if_neg n
theorem cs_midU (f h : Nat → Int32) {b lo hi : Nat} (g : lo ≤ hi) : upd (cs_mid f h b lo hi) (b + hi) (h hi) = cs_mid f h b lo (hi + 1) := by
  funext i
  unfold upd cs_mid
  by_cases e : i = b + hi
  · subst e
    rw [if_pos rfl, if_pos (by omega), Nat.add_sub_cancel_left]
  · rw [if_neg e]
    by_cases n : b + lo ≤ i ∧ i < b + hi
    · rw [if_pos n, if_pos (by omega)]
    · rw [if_neg n, if_neg (by omega)]
theorem cs_midD (f h : Nat → Int32) {b lo hi : Nat} (g : lo < hi) : upd (cs_mid f h b (lo + 1) hi) (b + lo) (h lo) = cs_mid f h b lo hi := by
  funext i
  unfold upd cs_mid
  by_cases e : i = b + lo
  · subst e
    rw [if_pos rfl, if_pos (by omega), Nat.add_sub_cancel_left]
  · rw [if_neg e]
    by_cases n : b + (lo + 1) ≤ i ∧ i < b + hi
    · rw [if_pos n, if_pos (by omega)]
    · rw [if_neg n, if_neg (by omega)]
theorem cs_mid01 {f h : Nat → Int32} (hf : cs_01 f) (hh : cs_01 h) (b lo hi : Nat) : cs_01 (cs_mid f h b lo hi) := by
  intro i
  unfold cs_mid
  split
  · exact hh _
  · exact hf _
/-! the reference's store -/
theorem cs_sto {f h d : Nat → Int32} (hh : cs_01 h) (hd : ∀ i, i < 1024 → d i = h i) {j : Nat} (hj : j < 4) : ∀ e a : Nat, 1024 - a = e → a ≤ 1024 →
    ∀ p : Int32 → SY → Prop, wpY_size (fun r => p r (cs_mid f h (j * 1024) 0 1024, d)) (cs_mid f h (j * 1024) 0 1024, d) (nI j) → wY_store_2 p (nI j) (e + 1) (nI a) (cs_mid f h (j * 1024) 0 a) d := by
  intro e
  induction e with
  | zero =>
    intro a h1 h2 p hp
    have g : (1024 : Int32) ≤ nI a := nI_le (a := 1024) (by omega) (by omega)
    have e : a = 1024 := by omega
    subst e
    exact br_t g hp
  | succ e ih =>
    intro a h1 h2 p hp
    have g : ¬ (1024 : Int32) ≤ nI a := nI_ge (b := 1024) (by omega) (by omega)
    have ha : a < 1024 := by omega
    have hu : upd (cs_mid f h (j * 1024) 0 a) (nI j * 1024 + nI a).toNatClampNeg (vp_nar .boolean (d (nI a).toNatClampNeg)) = cs_mid f h (j * 1024) 0 (a + 1) := by
      rw [cs_cl hj ha, nI_clamp (by omega), hd a ha, cs_nar (hh a), cs_midU f h (Nat.zero_le a)]
    exact br_f g ⟨vp_in_nI ha (by omega), cs_in hj ha, nm_r hu (nm_r (nI_1 a) (ih (a + 1) (by omega) (by omega) p hp))⟩
theorem cs_store {f h d : Nat → Int32} (hh : cs_01 h) (hd : ∀ i, i < 1024 → d i = h i) {j : Nat} (hj : j < 4) (p : Int32 → SY → Prop)
    (hp : wpY_size (fun r => p r (cs_mid f h (j * 1024) 0 1024, d)) (cs_mid f h (j * 1024) 0 1024, d) (nI j)) : wpY_store p (f, d) (nI j) := by
  have t := cs_sto (f := f) hh hd hj 1024 0 rfl (by omega) p hp
  rw [cs_mid0] at t
  exact ⟨1025, t⟩
/-! combine -/
def cs_J (how a b : Int32) : Int32 :=
  if how = 0 then (if a = 0 then (if b = 0 then 0 else 1) else 1) else
  if how = 1 then (if a = 0 then 0 else (if b = 0 then 0 else 1)) else
  if how = 2 then (if a = 0 then 0 else (if b = 0 then 1 else 0)) else
  (if a = b then 0 else 1)
theorem cs_J01 (how a b : Int32) : cs_J how a b = 0 ∨ cs_J how a b = 1 := by
  unfold cs_J
  repeat' split
  all_goals first | exact Or.inl rfl | exact Or.inr rfl
theorem cs_jY {T : Int32 → Prop} {how a b : Int32} (k : T (cs_J how a b)) :
    (how = 0 → ((a = 0 → ((b = 0 → T 0) ∧ (¬ b = 0 → T 1))) ∧ (¬ a = 0 → T 1))) ∧
    (¬ how = 0 → ((how = 1 → ((a = 0 → T 0) ∧ (¬ a = 0 → ((b = 0 → T 0) ∧ (¬ b = 0 → T 1))))) ∧
      (¬ how = 1 → ((how = 2 → ((a = 0 → T 0) ∧ (¬ a = 0 → ((b = 0 → T 1) ∧ (¬ b = 0 → T 0))))) ∧
        (¬ how = 2 → ((a = b → T 0) ∧ (¬ a = b → T 1))))))) := by
  unfold cs_J at k
  refine ⟨fun w0 => ?_, fun w0 => ⟨fun w1 => ?_, fun w1 => ⟨fun w2 => ?_, fun w2 => ?_⟩⟩⟩
  · rw [if_pos w0] at k
    refine ⟨fun ha => ⟨fun hb => ?_, fun hb => ?_⟩, fun ha => ?_⟩
    · rw [if_pos ha, if_pos hb] at k; exact k
    · rw [if_pos ha, if_neg hb] at k; exact k
    · rw [if_neg ha] at k; exact k
  · rw [if_neg w0, if_pos w1] at k
    refine ⟨fun ha => ?_, fun ha => ⟨fun hb => ?_, fun hb => ?_⟩⟩
    · rw [if_pos ha] at k; exact k
    · rw [if_neg ha, if_pos hb] at k; exact k
    · rw [if_neg ha, if_neg hb] at k; exact k
  · rw [if_neg w0, if_neg w1, if_pos w2] at k
    refine ⟨fun ha => ?_, fun ha => ⟨fun hb => ?_, fun hb => ?_⟩⟩
    · rw [if_pos ha] at k; exact k
    · rw [if_neg ha, if_pos hb] at k; exact k
    · rw [if_neg ha, if_neg hb] at k; exact k
  · rw [if_neg w0, if_neg w1, if_neg w2] at k
    refine ⟨fun ha => ?_, fun ha => ?_⟩
    · rw [if_pos ha] at k; exact k
    · rw [if_neg ha] at k; exact k
theorem cs_jX {how a b : Int32} {p : Int32 → Prop} (h0 : ¬ how < 0) (h3 : how ≤ 3) (k : p (cs_J how a b)) : wpX_joined p a b how := by
  have t := cs_jY k
  refine br_f h0 (br_c (fun h2 => ?_) (fun h2 => br_c t.1 fun w0 => br_c (t.2 w0).1 fun w1 => br_c ((t.2 w0).2 w1).1 fun _ => trivial))
  have w0 : ¬ how = 0 := fun e => by rw [e] at h2; exact absurd h2 (by decide)
  have w1 : ¬ how = 1 := fun e => by rw [e] at h2; exact absurd h2 (by decide)
  have w2 : ¬ how = 2 := fun e => by rw [e] at h2; exact absurd h2 (by decide)
  exact ((t.2 w0).2 w1).2 w2
theorem cs_cmX {f : Nat → Int32} {to s t : Nat} (hto : to < 4) (hs : s < 4) (ht : t < 4) {how : Int32} (h0 : ¬ how < 0) (h3 : how ≤ 3) {h : Nat → Int32} (hh : ∀ x, h x = cs_J how (f (s * 1024 + x)) (f (t * 1024 + x))) :
    ∀ e a : Nat, 1024 - a = e → a ≤ 1024 → ∀ p : Int32 → SX → Prop, wpX_countAll (fun r => p r (cs_mid f h (to * 1024) 0 1024)) (cs_mid f h (to * 1024) 0 1024) (nI to) →
      wX_combine_40 p (nI to) (nI s) (nI t) how (e + 1) (nI a) (cs_mid f h (to * 1024) 0 a) := by
  intro e
  induction e with
  | zero =>
    intro a h1 h2 p hp
    have g : (1024 : Int32) ≤ nI a := nI_le (a := 1024) (by omega) (by omega)
    have e : a = 1024 := by omega
    subst e
    exact br_t g hp
  | succ e ih =>
    intro a h1 h2 p hp
    have g : ¬ (1024 : Int32) ≤ nI a := nI_ge (b := 1024) (by omega) (by omega)
    have ha : a < 1024 := by omega
    have es : cs_mid f h (to * 1024) 0 a (nI s * 1024 + nI a).toNatClampNeg = f (s * 1024 + a) := by
      rw [cs_cl hs ha]
      exact cs_midN (by omega)
    have et : cs_mid f h (to * 1024) 0 a (nI t * 1024 + nI a).toNatClampNeg = f (t * 1024 + a) := by
      rw [cs_cl ht ha]
      exact cs_midN (by omega)
    have hu : upd (cs_mid f h (to * 1024) 0 a) (nI to * 1024 + nI a).toNatClampNeg (vp_nar .boolean (cs_J how (f (s * 1024 + a)) (f (t * 1024 + a)))) = cs_mid f h (to * 1024) 0 (a + 1) := by
      rw [cs_cl hto ha, cs_nar (cs_J01 _ _ _), ← hh a, cs_midU f h (Nat.zero_le a)]
    refine br_f g ⟨cs_in hs ha, nm_r es ⟨cs_in ht ha, nm_r et ?_⟩⟩
    unfold wpX_cellOf
    exact cs_jX h0 h3 ⟨cs_in hto ha, nm_r hu (nm_r (nI_1 a) (ih (a + 1) (by omega) (by omega) p hp))⟩
theorem cs_cmY {f : Nat → Int32} {to s t : Nat} (hs : s < 4) (ht : t < 4) {how : Int32} {h : Nat → Int32} (hh : ∀ x, h x = cs_J how (f (s * 1024 + x)) (f (t * 1024 + x))) (p : Int32 → SY → Prop)
    (hp : ∀ d, (∀ i, i < 1024 → d i = h i) → wpY_store (fun r u => match u with | (m, d) => p r (m, d)) (f, d) (nI to)) :
    ∀ (e a : Nat) (d : Nat → Int32), 1024 - a = e → a ≤ 1024 → (∀ i, i < a → d i = h i) → wY_combine_43 p (nI to) (nI s) (nI t) how (e + 1) (nI a) f d := by
  intro e
  induction e with
  | zero =>
    intro a d h1 h2 hd
    have g : (1024 : Int32) ≤ nI a := nI_le (a := 1024) (by omega) (by omega)
    have e : a = 1024 := by omega
    subst e
    exact br_t g (hp d hd)
  | succ e ih =>
    intro a d h1 h2 hd
    have g : ¬ (1024 : Int32) ≤ nI a := nI_ge (b := 1024) (by omega) (by omega)
    have ha : a < 1024 := by omega
    have es : f (nI s * 1024 + nI a).toNatClampNeg = f (s * 1024 + a) := by rw [cs_cl hs ha]
    have et : f (nI t * 1024 + nI a).toNatClampNeg = f (t * 1024 + a) := by rw [cs_cl ht ha]
    have hd' : ∀ i, i < a + 1 → upd d (nI a).toNatClampNeg (vp_nar .boolean (cs_J how (f (s * 1024 + a)) (f (t * 1024 + a)))) i = h i := by
      intro i hi
      rw [nI_clamp (by omega), cs_nar (cs_J01 _ _ _), ← hh a]
      by_cases e : i = a
      · subst e
        exact pk_us
      · rw [pk_un e]
        exact hd i (by omega)
    exact br_f g ⟨cs_in hs ha, nm_r es ⟨cs_in ht ha, nm_r et (cs_jY (T := fun v => vp_in (nI a) 1024 ∧ ∀ m' : Nat → Int32, m' = upd d (nI a).toNatClampNeg (vp_nar .boolean v) → ∀ x' : Int32, x' = nI a + 1 → wY_combine_43 p (nI to) (nI s) (nI t) how (e + 1) x' f m')
      ⟨vp_in_nI ha (by omega), nm_e (nm_r (nI_1 a) (ih (a + 1) _ (by omega) (by omega) hd'))⟩)⟩⟩
end
section
/-! shift: the class in place, upwards from the top and downwards from the bottom; the reference by its second array -/
def cs_hD (f : Nat → Int32) (b w : Nat) : Nat → Int32 := fun x => if 1024 ≤ x + w then 0 else lw_bz (f (b + (x + w)))
def cs_hU (f : Nat → Int32) (b w : Nat) : Nat → Int32 := fun x => if x < w then 0 else lw_bz (f (b + (x - w)))
theorem cs_hD01 (f : Nat → Int32) (b w : Nat) : cs_01 (cs_hD f b w) := by
  intro x
  unfold cs_hD
  split
  · exact Or.inl rfl
  · exact lw_bz_01 _
theorem cs_hU01 (f : Nat → Int32) (b w : Nat) : cs_01 (cs_hU f b w) := by
  intro x
  unfold cs_hU
  split
  · exact Or.inl rfl
  · exact lw_bz_01 _
theorem cs_bz0 {v : Int32} (h : v = 0) : lw_bz v = 0 := if_pos h
theorem cs_bz1 {v : Int32} (h : ¬ v = 0) : lw_bz v = 1 := if_neg h
theorem cs_shD {f : Nat → Int32} {j w : Nat} (hj : j < 4) (hw : w < 1024) : ∀ e a : Nat, 1024 - a = e → a ≤ 1024 →
    ∀ p : SX → Prop, p (cs_mid f (cs_hD f (j * 1024) w) (j * 1024) 0 1024) → wX_shiftDown_2 p (nI j) (nI w) (e + 1) (nI a) (cs_mid f (cs_hD f (j * 1024) w) (j * 1024) 0 a) := by
  intro e
  induction e with
  | zero =>
    intro a h1 h2 p hp
    have g : (1024 : Int32) ≤ nI a := nI_le (a := 1024) (by omega) (by omega)
    have e : a = 1024 := by omega
    subst e
    exact br_t g hp
  | succ e ih =>
    intro a h1 h2 p hp
    have g : ¬ (1024 : Int32) ≤ nI a := nI_ge (b := 1024) (by omega) (by omega)
    have ha : a < 1024 := by omega
    have hi := cs_in hj ha
    have es : (1024 : Int32) - nI w = nI (1024 - w) := pk_sub (a := 1024) (by omega)
    have ih' := ih (a + 1) (by omega) (by omega) p hp
    have hu : ∀ v : Int32, cs_hD f (j * 1024) w a = v → upd (cs_mid f (cs_hD f (j * 1024) w) (j * 1024) 0 a) (nI j * 1024 + nI a).toNatClampNeg (vp_nar .boolean v) = cs_mid f (cs_hD f (j * 1024) w) (j * 1024) 0 (a + 1) := by
      intro v ev
      subst ev
      rw [cs_cl hj ha, cs_nar (cs_hD01 f _ _ a), cs_midU f _ (Nat.zero_le a)]
    by_cases q : 1024 ≤ a + w
    · have c : (1024 : Int32) - nI w ≤ nI a := by
        rw [es]
        exact nI_le (by omega) (by omega)
      exact br_f g (br_t c ⟨hi, nm_r (hu 0 (if_pos q)) (nm_r (nI_1 a) ih')⟩)
    · have c : ¬ (1024 : Int32) - nI w ≤ nI a := by
        rw [es]
        exact nI_ge (by omega) (by omega)
      have hv : cs_hD f (j * 1024) w a = lw_bz (f (j * 1024 + (a + w))) := if_neg q
      have hi2 : vp_in (nI j * 1024 + (nI a + nI w)) 4096 := by
        rw [nI_add]
        exact cs_in hj (by omega)
      have eg : cs_mid f (cs_hD f (j * 1024) w) (j * 1024) 0 a (nI j * 1024 + (nI a + nI w)).toNatClampNeg = f (j * 1024 + (a + w)) := by
        rw [nI_add, cs_cl hj (by omega)]
        exact cs_midN (by omega)
      by_cases z : f (j * 1024 + (a + w)) = 0
      · exact br_f g (br_f c ⟨hi2, br_t (eg.trans z) ⟨hi, nm_r (hu 0 (hv.trans (cs_bz0 z))) (nm_r (nI_1 a) ih')⟩⟩)
      · exact br_f g (br_f c ⟨hi2, br_f (fun y => z (eg.symm.trans y)) ⟨hi, nm_r (hu 1 (hv.trans (cs_bz1 z))) (nm_r (nI_1 a) ih')⟩⟩)
theorem cs_shU {f : Nat → Int32} {j w : Nat} (hj : j < 4) (hw : w < 1024) : ∀ e : Nat, e ≤ 1024 →
    ∀ p : SX → Prop, p (cs_mid f (cs_hU f (j * 1024) w) (j * 1024) 0 1024) → wX_shiftUp_4 p (nI j) (nI w) (e + 1) (nI e + (-1)) (cs_mid f (cs_hU f (j * 1024) w) (j * 1024) e 1024) := by
  intro e
  induction e with
  | zero =>
    intro h2 p hp
    have g : nI 0 + (-1) < 0 := by decide +kernel
    exact br_t g hp
  | succ a ih =>
    intro h2 p hp
    have g : ¬ nI a < 0 := nI_pos (by omega)
    have ha : a < 1024 := by omega
    have hi := cs_in hj ha
    have ih' := ih (by omega) p hp
    have hu : ∀ v : Int32, cs_hU f (j * 1024) w a = v → upd (cs_mid f (cs_hU f (j * 1024) w) (j * 1024) (a + 1) 1024) (nI j * 1024 + nI a).toNatClampNeg (vp_nar .boolean v) = cs_mid f (cs_hU f (j * 1024) w) (j * 1024) a 1024 := by
      intro v ev
      subst ev
      rw [cs_cl hj ha, cs_nar (cs_hU01 f _ _ a), cs_midD f _ ha]
    rw [pk_m1]
    by_cases q : a < w
    · have c : nI a < nI w := nI_lt q (by omega)
      exact br_f g (br_t c ⟨hi, nm_r (hu 0 (if_pos q)) (nm_e ih')⟩)
    · have c : ¬ nI a < nI w := nI_nlt (by omega) (by omega)
      have hv : cs_hU f (j * 1024) w a = lw_bz (f (j * 1024 + (a - w))) := if_neg q
      have hi2 : vp_in (nI j * 1024 + (nI a - nI w)) 4096 := by
        rw [pk_sub (by omega)]
        exact cs_in hj (by omega)
      have eg : cs_mid f (cs_hU f (j * 1024) w) (j * 1024) (a + 1) 1024 (nI j * 1024 + (nI a - nI w)).toNatClampNeg = f (j * 1024 + (a - w)) := by
        rw [pk_sub (by omega), cs_cl hj (by omega)]
        exact cs_midN (by omega)
      by_cases z : f (j * 1024 + (a - w)) = 0
      · exact br_f g (br_f c ⟨hi2, br_t (eg.trans z) ⟨hi, nm_r (hu 0 (hv.trans (cs_bz0 z))) (nm_e ih')⟩⟩)
      · exact br_f g (br_f c ⟨hi2, br_f (fun y => z (eg.symm.trans y)) ⟨hi, nm_r (hu 1 (hv.trans (cs_bz1 z))) (nm_e ih')⟩⟩)
/-- what the reference needs of h at one number -/
def cs_st (f h : Nat → Int32) (j : Nat) (y : Int32) (a : Nat) : Prop :=
  (cs_bad 1024 (nI a - y) ∧ h a = 0) ∨ ∃ q : Nat, q < 1024 ∧ nI a - y = nI q ∧ nI j * 1024 + nI a - y = nI (j * 1024 + q) ∧ h a = lw_bz (f (j * 1024 + q))
theorem cs_shY {f : Nat → Int32} {j : Nat} (hj : j < 4) {y : Int32} {h : Nat → Int32} (hh : cs_01 h) (hs : ∀ a, a < 1024 → cs_st f h j y a) (p : Int32 → SY → Prop)
    (hp : ∀ d, (∀ i, i < 1024 → d i = h i) → wpY_store (fun r u => match u with | (m, d) => p r (m, d)) (f, d) (nI j)) :
    ∀ (e a : Nat) (d : Nat → Int32), 1024 - a = e → a ≤ 1024 → (∀ i, i < a → d i = h i) → wY_shift_29 p (nI j) y (e + 1) (nI a) f d := by
  intro e
  induction e with
  | zero =>
    intro a d h1 h2 hd
    have g : (1024 : Int32) ≤ nI a := nI_le (a := 1024) (by omega) (by omega)
    have e : a = 1024 := by omega
    subst e
    exact br_t g (hp d hd)
  | succ e ih =>
    intro a d h1 h2 hd
    have g : ¬ (1024 : Int32) ≤ nI a := nI_ge (b := 1024) (by omega) (by omega)
    have ha : a < 1024 := by omega
    have hi : vp_in (nI a) 1024 := vp_in_nI ha (by omega)
    have hd' : ∀ v : Int32, h a = v → ∀ i, i < a + 1 → upd d (nI a).toNatClampNeg (vp_nar .boolean v) i = h i := by
      intro v ev i hi
      subst ev
      rw [nI_clamp (by omega), cs_nar (hh a)]
      by_cases e : i = a
      · subst e
        exact pk_us
      · rw [pk_un e]
        exact hd i (by omega)
    refine br_f g ?_
    rcases hs a ha with ⟨hb, h0⟩ | ⟨q, hq, e1, e2, e3⟩
    · exact cs_yY hb ⟨hi, nm_e (nm_r (nI_1 a) (ih (a + 1) _ (by omega) (by omega) (hd' 0 h0)))⟩
    · have hi2 : vp_in (nI j * 1024 + nI a - y) 4096 := by
        rw [e2]
        exact vp_in_nI (by omega) (by omega)
      have eg : f (nI j * 1024 + nI a - y).toNatClampNeg = f (j * 1024 + q) := by rw [e2, nI_clamp (by omega)]
      rw [e1]
      by_cases z : f (j * 1024 + q) = 0
      · exact cs_nY hq ⟨hi2, br_t (eg.trans z) ⟨hi, nm_e (nm_r (nI_1 a) (ih (a + 1) _ (by omega) (by omega) (hd' 0 (e3.trans (cs_bz0 z)))))⟩⟩
      · exact cs_nY hq ⟨hi2, br_f (fun x => z (eg.symm.trans x)) ⟨hi, nm_e (nm_r (nI_1 a) (ih (a + 1) _ (by omega) (by omega) (hd' 1 (e3.trans (cs_bz1 z)))))⟩⟩
theorem cs_stU (f : Nat → Int32) {j w : Nat} (hj : j < 4) (hw : w < 1024) : ∀ a, a < 1024 → cs_st f (cs_hU f (j * 1024) w) j (nI w) a := by
  intro a ha
  by_cases q : a < w
  · exact Or.inl ⟨Or.inl (pk_sneg (by omega) q), if_pos q⟩
  · refine Or.inr ⟨a - w, by omega, pk_sub (by omega), ?_, if_neg q⟩
    rw [cs_ix, pk_sub (by omega)]
    exact congrArg nI (by omega)
theorem cs_stD (f : Nat → Int32) {j w : Nat} (hj : j < 4) (hw : w < 1024) : ∀ a, a < 1024 → cs_st f (cs_hD f (j * 1024) w) j (-nI w) a := by
  intro a ha
  have e1 : nI a - -nI w = nI (a + w) := by rw [Int32.sub_neg, nI_add]
  by_cases q : 1024 ≤ a + w
  · refine Or.inl ⟨Or.inr ?_, if_pos q⟩
    rw [e1]
    exact nI_le q (by omega)
  · refine Or.inr ⟨a + w, by omega, e1, ?_, if_neg q⟩
    rw [cs_ix, Int32.sub_neg, nI_add]
    exact congrArg nI (by omega)
end
section
/-! the numbers that shift takes -/
theorem cs_negT {w : Nat} (h : w < 2 ^ 31) : (-nI w).toInt = -(w : Int) := by
  rw [Int32.toInt_neg, nI_toInt h]
  exact Int.bmod_eq_of_le (by omega) (by omega)
theorem cs_lo {x : Int32} : x ≤ -1024 ↔ x < -1023 := by
  rw [Int32.le_iff_toInt_le, Int32.lt_iff_toInt_lt, show (-1024 : Int32).toInt = -1024 from by decide, show (-1023 : Int32).toInt = -1023 from by decide]
  omega
theorem cs_hi {x : Int32} : x < 1024 ↔ x ≤ 1023 := by
  rw [Int32.le_iff_toInt_le, Int32.lt_iff_toInt_lt, show (1024 : Int32).toInt = 1024 from by decide, show (1023 : Int32).toInt = 1023 from by decide]
  omega
theorem cs_neg {x : Int32} (h : ¬ x ≤ -1024) (h0 : x ≤ 0) : ∃ w : Nat, w < 1024 ∧ x = -nI w := by
  rw [Int32.le_iff_toInt_le, show (-1024 : Int32).toInt = -1024 from by decide] at h
  rw [Int32.le_iff_toInt_le, show (0 : Int32).toInt = 0 from by decide] at h0
  refine ⟨(-x.toInt).toNat, by omega, ?_⟩
  apply Int32.toInt_inj.mp
  rw [cs_negT (by omega)]
  omega
theorem cs_posi {x : Int32} (h : x < 1024) (h0 : ¬ x ≤ 0) : ∃ w : Nat, w < 1024 ∧ x = nI w := by
  rw [Int32.lt_iff_toInt_lt, show (1024 : Int32).toInt = 1024 from by decide] at h
  rw [Int32.le_iff_toInt_le, show (0 : Int32).toInt = 0 from by decide] at h0
  refine ⟨x.toInt.toNat, by omega, ?_⟩
  apply Int32.toInt_inj.mp
  rw [nI_toInt (by omega)]
  omega
theorem i_vc_add {k : Nat} {u : SX} {v : SY} (I : i_Rel k u v) (hk : k + 5 ≤ 2560) (v1 : Int32) (v2 : Int32) : wpX_add (fun r u' => wpY_add (fun r' v' => r' = r ∧ i_Rel (k + 5) u' v') v v1 v2) u v1 v2 := by
  obtain ⟨m, d⟩ := v
  obtain ⟨e, h01⟩ := I
  have e : u = m := e
  subst e
  unfold wpX_add wpY_add wpY_put
  dsimp only
  rcases cs_case 4 (by decide) v1 with hb | ⟨j, hj, rfl⟩
  · exact cs_xX hb (cs_xY hb ⟨rfl, rfl, h01⟩)
  · rcases cs_case 1024 (by decide) v2 with hb | ⟨x, hx, rfl⟩
    · exact cs_sX hj (cs_yX hb (cs_sY hj (cs_yY hb ⟨rfl, rfl, h01⟩)))
    · have hi := cs_in hj hx
      rcases h01 (nI j * 1024 + nI x).toNatClampNeg with z | z
      · exact cs_sX hj (cs_nX hx ⟨hi, br_t z ⟨hi, nm_e (cs_sY hj (cs_nY hx ⟨hi, nm_r z ⟨hi, nm_e (br_f (by decide) ⟨rfl, rfl, cs_upd1 h01⟩)⟩⟩))⟩⟩)
      · have z' : ¬ u (nI j * 1024 + nI x).toNatClampNeg = 0 := by rw [z]; decide
        exact cs_sX hj (cs_nX hx ⟨hi, br_f z' ⟨hi, nm_e (cs_sY hj (cs_nY hx ⟨hi, nm_r z ⟨hi, nm_e (br_t rfl ⟨rfl, rfl, cs_upd1 h01⟩)⟩⟩))⟩⟩)
theorem i_vc_remove {k : Nat} {u : SX} {v : SY} (I : i_Rel k u v) (hk : k + 5 ≤ 2560) (v1 : Int32) (v2 : Int32) : wpX_remove (fun r u' => wpY_remove (fun r' v' => r' = r ∧ i_Rel (k + 5) u' v') v v1 v2) u v1 v2 := by
  obtain ⟨m, d⟩ := v
  obtain ⟨e, h01⟩ := I
  have e : u = m := e
  subst e
  unfold wpX_remove wpY_remove wpY_put
  dsimp only
  rcases cs_case 4 (by decide) v1 with hb | ⟨j, hj, rfl⟩
  · exact cs_xX hb (cs_xY hb ⟨rfl, rfl, h01⟩)
  · rcases cs_case 1024 (by decide) v2 with hb | ⟨x, hx, rfl⟩
    · exact cs_sX hj (cs_yX hb (cs_sY hj (cs_yY hb ⟨rfl, rfl, h01⟩)))
    · have hi := cs_in hj hx
      rcases h01 (nI j * 1024 + nI x).toNatClampNeg with z | z
      · exact cs_sX hj (cs_nX hx ⟨hi, br_t z ⟨hi, nm_e (cs_sY hj (cs_nY hx ⟨hi, nm_r z ⟨hi, nm_e (br_t rfl ⟨rfl, rfl, cs_upd0 h01⟩)⟩⟩))⟩⟩)
      · have z' : ¬ u (nI j * 1024 + nI x).toNatClampNeg = 0 := by rw [z]; decide
        exact cs_sX hj (cs_nX hx ⟨hi, br_f z' ⟨hi, nm_e (cs_sY hj (cs_nY hx ⟨hi, nm_r z ⟨hi, nm_e (br_f (by decide) ⟨rfl, rfl, cs_upd0 h01⟩)⟩⟩))⟩⟩)
theorem i_vc_range {k : Nat} {u : SX} {v : SY} (I : i_Rel k u v) (hk : k + 5 ≤ 2560) (v1 : Int32) (v2 : Int32) (v3 : Int32) : wpX_range (fun r u' => wpY_range (fun r' v' => r' = r ∧ i_Rel (k + 5) u' v') v v1 v2 v3) u v1 v2 v3 := by
  obtain ⟨m, d⟩ := v
  obtain ⟨e, h01⟩ := I
  have e : u = m := e
  subst e
  obtain ⟨a, b, ea, ebX, ebY, hE⟩ := cs_ends v2
  unfold wpX_range wpY_range wpX_upperEnd wpX_lowerEnd
  dsimp only
  rw [ebX, ea]
  rcases cs_case 4 (by decide) v1 with hb | ⟨j, hj, rfl⟩
  · exact cs_xX hb (cs_xY hb ⟨rfl, rfl, h01⟩)
  · rcases hE with ⟨hX, hY⟩ | ⟨ha, hb, hX, hY⟩
    · exact cs_sX hj (hX _ (br_t rfl (cs_sY hj (hY _ _ _ (br_t rfl ⟨rfl, rfl, h01⟩)))))
    · by_cases w0 : v3 < 0
      · exact cs_sX hj (hX _ (br_f cs_10 (br_t w0 (cs_sY hj (hY _ _ _ (br_f cs_10 (br_t w0 ⟨rfl, rfl, h01⟩)))))))
      · by_cases w2 : v3 ≤ 2
        · obtain ⟨f', h', gX, gY⟩ := cs_rng hj v3 v2 hb ebY (b - a) a u h01 rfl ha
          obtain ⟨r, hr, cX, cY⟩ := cs_all f' hj
          exact cs_sX hj (hX _ (br_f cs_10 (br_f w0 (br_t w2 ⟨_, gX _ (cX _ (cs_sY hj (hY _ _ _ (br_f cs_10 (br_f w0 (br_t w2 (nm_e ⟨_, gY _ _ (cY _ _ ⟨rfl, rfl, h'⟩)⟩)))))))⟩))))
        · exact cs_sX hj (hX _ (br_f cs_10 (br_f w0 (br_f w2 (cs_sY hj (hY _ _ _ (br_f cs_10 (br_f w0 (br_f w2 ⟨rfl, rfl, h01⟩)))))))))
theorem i_vc_combine {k : Nat} {u : SX} {v : SY} (I : i_Rel k u v) (hk : k + 5 ≤ 2560) (v1 : Int32) (v2 : Int32) (v3 : Int32) (v4 : Int32) : wpX_combine (fun r u' => wpY_combine (fun r' v' => r' = r ∧ i_Rel (k + 5) u' v') v v1 v2 v3 v4) u v1 v2 v3 v4 := by
  obtain ⟨m, d⟩ := v
  obtain ⟨e, h01⟩ := I
  have e : u = m := e
  subst e
  unfold wpX_combine wpY_combine
  dsimp only
  rcases cs_case 4 (by decide) v1 with hb | ⟨to, hto, rfl⟩
  · exact cs_xX hb (cs_xY hb ⟨rfl, rfl, h01⟩)
  rcases cs_case 4 (by decide) v2 with hb | ⟨s, hs, rfl⟩
  · exact cs_sX hto (cs_xX hb (cs_sY hto (cs_xY hb ⟨rfl, rfl, h01⟩)))
  rcases cs_case 4 (by decide) v3 with hb | ⟨t, ht, rfl⟩
  · exact cs_sX hto (cs_sX hs (cs_xX hb (cs_sY hto (cs_sY hs (cs_xY hb ⟨rfl, rfl, h01⟩)))))
  by_cases w0 : v4 < 0
  · exact cs_sX hto (cs_sX hs (cs_sX ht (br_t w0 (cs_sY hto (cs_sY hs (cs_sY ht (br_t w0 ⟨rfl, rfl, h01⟩)))))))
  by_cases w3 : v4 ≤ 3
  · have gX := cs_cmX (f := u) hto hs ht w0 w3 (h := fun x => cs_J v4 (u (s * 1024 + x)) (u (t * 1024 + x))) (fun _ => rfl) 1024 0 rfl (by omega)
    rw [cs_mid0] at gX
    have hh : cs_01 (fun x => cs_J v4 (u (s * 1024 + x)) (u (t * 1024 + x))) := fun _ => cs_J01 _ _ _
    have h' := cs_mid01 h01 hh (to * 1024) 0 1024
    obtain ⟨r, hr, cX, cY⟩ := cs_all (cs_mid u (fun x => cs_J v4 (u (s * 1024 + x)) (u (t * 1024 + x))) (to * 1024) 0 1024) hto
    refine cs_sX hto (cs_sX hs (cs_sX ht (br_f w0 (br_t w3 ⟨_, gX _ (cX _ (cs_sY hto (cs_sY hs (cs_sY ht (br_f w0 (br_t w3 ⟨1025, ?_⟩))))))⟩))))
    exact cs_cmY hs ht (fun _ => rfl) _ (fun d' hd' => cs_store hh hd' hto _ (cY _ _ ⟨rfl, rfl, h'⟩)) 1024 0 d rfl (by omega) (fun i hi => absurd hi (by omega))
  · exact cs_sX hto (cs_sX hs (cs_sX ht (br_f w0 (br_f w3 (cs_sY hto (cs_sY hs (cs_sY ht (br_f w0 (br_f w3 ⟨rfl, rfl, h01⟩)))))))))
theorem i_vc_shift {k : Nat} {u : SX} {v : SY} (I : i_Rel k u v) (hk : k + 5 ≤ 2560) (v1 : Int32) (v2 : Int32) : wpX_shift (fun r u' => wpY_shift (fun r' v' => r' = r ∧ i_Rel (k + 5) u' v') v v1 v2) u v1 v2 := by
  obtain ⟨m, d⟩ := v
  obtain ⟨e, h01⟩ := I
  have e : u = m := e
  subst e
  unfold wpX_shift wpY_shift
  dsimp only
  rcases cs_case 4 (by decide) v1 with hb | ⟨j, hj, rfl⟩
  · exact cs_xX hb (cs_xY hb ⟨rfl, rfl, h01⟩)
  by_cases w0 : v2 ≤ -1024
  · exact cs_sX hj (br_t w0 (cs_sY hj (br_t (cs_lo.mp w0) ⟨rfl, rfl, h01⟩)))
  have y0 : ¬ v2 < -1023 := fun y => w0 (cs_lo.mpr y)
  by_cases w1 : v2 < 1024
  · have y1 : v2 ≤ 1023 := cs_hi.mp w1
    by_cases w2 : v2 ≤ 0
    · obtain ⟨w, hw, rfl⟩ := cs_neg w0 w2
      have gX := cs_shD (f := u) (w := w) hj hw 1024 0 rfl (by omega)
      rw [cs_mid0] at gX
      have hh := cs_hD01 u (j * 1024) w
      have h' := cs_mid01 h01 hh (j * 1024) 0 1024
      obtain ⟨r, hr, cX, cY⟩ := cs_all (cs_mid u (cs_hD u (j * 1024) w) (j * 1024) 0 1024) hj
      refine cs_sX hj (br_f w0 (br_t w1 (br_t w2 ?_)))
      rw [Int32.neg_neg]
      refine ⟨1025, gX _ (cX _ (cs_sY hj (br_f y0 (br_t y1 ⟨1025, ?_⟩))))⟩
      exact cs_shY hj hh (cs_stD u hj hw) _ (fun d' hd' => cs_store hh hd' hj _ (cY _ _ ⟨rfl, rfl, h'⟩)) 1024 0 d rfl (by omega) (fun i hi => absurd hi (by omega))
    · obtain ⟨w, hw, rfl⟩ := cs_posi w1 w2
      have gX := cs_shU (f := u) (w := w) hj hw 1024 (by omega)
      rw [cs_mid0] at gX
      have hh := cs_hU01 u (j * 1024) w
      have h' := cs_mid01 h01 hh (j * 1024) 0 1024
      obtain ⟨r, hr, cX, cY⟩ := cs_all (cs_mid u (cs_hU u (j * 1024) w) (j * 1024) 0 1024) hj
      refine cs_sX hj (br_f w0 (br_t w1 (br_f w2 ⟨1025, gX _ (cX _ (cs_sY hj (br_f y0 (br_t y1 ⟨1025, ?_⟩))))⟩)))
      exact cs_shY hj hh (cs_stU u hj hw) _ (fun d' hd' => cs_store hh hd' hj _ (cY _ _ ⟨rfl, rfl, h'⟩)) 1024 0 d rfl (by omega) (fun i hi => absurd hi (by omega))
  · have y1 : ¬ v2 ≤ 1023 := fun y => w1 (cs_hi.mpr y)
    exact cs_sX hj (br_f w0 (br_f w1 (cs_sY hj (br_f y0 (br_f y1 ⟨rfl, rfl, h01⟩)))))
theorem i_vc_clear {k : Nat} {u : SX} {v : SY} (I : i_Rel k u v) (hk : k + 5 ≤ 2560) (v1 : Int32) : wpX_clear (fun r u' => wpY_clear (fun r' v' => r' = r ∧ i_Rel (k + 5) u' v') v v1) u v1 := by
  obtain ⟨m, d⟩ := v
  obtain ⟨e, h01⟩ := I
  have e : u = m := e
  subst e
  rcases cs_case 4 (by decide) v1 with hb | ⟨j, hj, rfl⟩
  · unfold wpX_clear wpY_clear wpY_size
    dsimp only
    exact cs_xX hb (cs_xY hb ⟨1, br_f (by decide) (br_t (by decide) ⟨rfl, rfl, h01⟩)⟩)
  · obtain ⟨r, hr, cX, cY⟩ := cs_all u hj
    obtain ⟨f', h', gX, gY⟩ := cs_clr hj (x := nI r) (nI_pos (by omega)) 1024 0 u h01 rfl (by omega)
    unfold wpX_clear wpY_clear
    dsimp only
    exact cs_sX hj (cX _ ⟨_, gX _ (cY _ d ⟨_, gY _ d ⟨rfl, rfl, h'⟩⟩)⟩)
end
section
/-! the asking methods -/
theorem i_vc_tidy {k : Nat} {u : SX} {v : SY} (I : i_Rel k u v) (hk : k + 5 ≤ 2560) (v1 : Int32) : wpX_tidy (fun r => wpY_tidy (fun r' => r' = r ∧ i_Rel (k + 5) u v) v v1) u v1 := by
  obtain ⟨m, d⟩ := v
  obtain ⟨e, h01⟩ := I
  have e : u = m := e
  subst e
  unfold wpX_tidy wpY_tidy
  dsimp only
  rcases cs_case 4 (by decide) v1 with hb | ⟨j, hj, rfl⟩
  · exact cs_xX hb (cs_xY hb ⟨rfl, rfl, h01⟩)
  · exact cs_sX hj (cs_sY hj ⟨rfl, rfl, h01⟩)
theorem i_vc_has {k : Nat} {u : SX} {v : SY} (I : i_Rel k u v) (hk : k + 5 ≤ 2560) (v1 : Int32) (v2 : Int32) : wpX_has (fun r => wpY_has (fun r' => r' = r ∧ i_Rel (k + 5) u v) v v1 v2) u v1 v2 := by
  obtain ⟨m, d⟩ := v
  obtain ⟨e, h01⟩ := I
  have e : u = m := e
  subst e
  unfold wpX_has wpY_has
  dsimp only
  rcases cs_case 4 (by decide) v1 with hb | ⟨j, hj, rfl⟩
  · exact cs_xX hb (cs_xY hb ⟨rfl, rfl, h01⟩)
  · rcases cs_case 1024 (by decide) v2 with hb | ⟨x, hx, rfl⟩
    · exact cs_sX hj (cs_yX hb (cs_sY hj (cs_yY hb ⟨rfl, rfl, h01⟩)))
    · have hi := cs_in hj hx
      by_cases z : u (nI j * 1024 + nI x).toNatClampNeg = 0
      · exact cs_sX hj (cs_nX hx ⟨hi, br_t z (cs_sY hj (cs_nY hx ⟨hi, br_t z ⟨rfl, rfl, h01⟩⟩))⟩)
      · exact cs_sX hj (cs_nX hx ⟨hi, br_f z (cs_sY hj (cs_nY hx ⟨hi, br_f z ⟨rfl, rfl, h01⟩⟩))⟩)
theorem i_vc_size {k : Nat} {u : SX} {v : SY} (I : i_Rel k u v) (hk : k + 5 ≤ 2560) (v1 : Int32) : wpX_size (fun r => wpY_size (fun r' => r' = r ∧ i_Rel (k + 5) u v) v v1) u v1 := by
  obtain ⟨m, d⟩ := v
  obtain ⟨e, h01⟩ := I
  have e : u = m := e
  subst e
  rcases cs_case 4 (by decide) v1 with hb | ⟨j, hj, rfl⟩
  · unfold wpX_size wpY_size
    dsimp only
    exact cs_xX hb (cs_xY hb ⟨rfl, rfl, h01⟩)
  · obtain ⟨r, hr, cX, cY⟩ := cs_all u hj
    unfold wpX_size
    exact cs_sX hj (cX _ (cY _ d ⟨rfl, rfl, h01⟩))
theorem i_vc_rank {k : Nat} {u : SX} {v : SY} (I : i_Rel k u v) (hk : k + 5 ≤ 2560) (v1 : Int32) (v2 : Int32) : wpX_rank (fun r => wpY_rank (fun r' => r' = r ∧ i_Rel (k + 5) u v) v v1 v2) u v1 v2 := by
  obtain ⟨m, d⟩ := v
  obtain ⟨e, h01⟩ := I
  have e : u = m := e
  subst e
  unfold wpX_rank wpY_rank
  dsimp only
  rcases cs_case 4 (by decide) v1 with hb | ⟨j, hj, rfl⟩
  · exact cs_xX hb (cs_xY hb ⟨rfl, rfl, h01⟩)
  · by_cases w0 : v2 < 0
    · exact cs_sX hj (br_t w0 (br_t rfl (cs_sY hj (br_t w0 ⟨rfl, rfl, h01⟩))))
    · obtain ⟨x, hx, rfl⟩ := nI_of w0
      by_cases q : x ≤ 1024
      · have w1 : nI x ≤ 1024 := nI_le (b := 1024) q (by decide)
        obtain ⟨r, hr, cX, cY⟩ := cs_btw u hj (a := 0) (by omega) q
        exact cs_sX hj (cs_eX q (cX _ (cs_sY hj (br_f w0 (br_t w1 (cY _ d ⟨rfl, rfl, h01⟩))))))
      · have w1 : ¬ nI x ≤ 1024 := nI_ge (a := 1024) (by omega) hx
        exact cs_sX hj (cs_fX (by omega) hx (cs_sY hj (br_f w0 (br_f w1 ⟨rfl, rfl, h01⟩))))
theorem i_vc_select {k : Nat} {u : SX} {v : SY} (I : i_Rel k u v) (hk : k + 5 ≤ 2560) (v1 : Int32) (v2 : Int32) : wpX_select (fun r => wpY_select (fun r' => r' = r ∧ i_Rel (k + 5) u v) v v1 v2) u v1 v2 := by
  obtain ⟨m, d⟩ := v
  obtain ⟨e, h01⟩ := I
  have e : u = m := e
  subst e
  unfold wpX_select wpY_select
  dsimp only
  rcases cs_case 4 (by decide) v1 with hb | ⟨j, hj, rfl⟩
  · exact cs_xX hb (cs_xY hb ⟨rfl, rfl, h01⟩)
  · by_cases w0 : v2 < 0
    · exact cs_sX hj ⟨1025, cs_selN u hj w0 1024 0 0 rfl (by omega) (by omega) _ (cs_sY hj ⟨1, br_f (by decide) (br_t w0 ⟨rfl, rfl, h01⟩)⟩)⟩
    · obtain ⟨q, hq, rfl⟩ := nI_of w0
      obtain ⟨r, gX, gY⟩ := cs_selP u hj hq 1024 0 0 q rfl (by omega) (by omega) (by omega)
      exact cs_sX hj ⟨1025, gX _ (cs_sY hj ⟨1025, gY _ d ⟨rfl, rfl, h01⟩⟩)⟩
theorem i_vc_next {k : Nat} {u : SX} {v : SY} (I : i_Rel k u v) (hk : k + 5 ≤ 2560) (v1 : Int32) (v2 : Int32) : wpX_next (fun r => wpY_next (fun r' => r' = r ∧ i_Rel (k + 5) u v) v v1 v2) u v1 v2 := by
  obtain ⟨m, d⟩ := v
  obtain ⟨e, h01⟩ := I
  have e : u = m := e
  subst e
  unfold wpX_next wpY_next
  dsimp only
  rcases cs_case 4 (by decide) v1 with hb | ⟨j, hj, rfl⟩
  · exact cs_xX hb (cs_xY hb ⟨rfl, rfl, h01⟩)
  · rcases cs_case 1024 (by decide) v2 with hb | ⟨x, hx, rfl⟩
    · exact cs_sX hj (cs_yX hb (cs_sY hj (cs_yY hb ⟨rfl, rfl, h01⟩)))
    · obtain ⟨r, gX, gY⟩ := cs_nxt u hj (1024 - x) x rfl (by omega)
      exact cs_sX hj (cs_nX hx ⟨_, gX _ (cs_sY hj (cs_nY hx ⟨_, gY _ d ⟨rfl, rfl, h01⟩⟩))⟩)
theorem i_vc_ranges {k : Nat} {u : SX} {v : SY} (I : i_Rel k u v) (hk : k + 5 ≤ 2560) (v1 : Int32) : wpX_ranges (fun r => wpY_ranges (fun r' => r' = r ∧ i_Rel (k + 5) u v) v v1) u v1 := by
  obtain ⟨m, d⟩ := v
  obtain ⟨e, h01⟩ := I
  have e : u = m := e
  subst e
  unfold wpX_ranges wpY_ranges
  dsimp only
  rcases cs_case 4 (by decide) v1 with hb | ⟨j, hj, rfl⟩
  · exact cs_xX hb (cs_xY hb ⟨rfl, rfl, h01⟩)
  · obtain ⟨r, gX, gY⟩ := cs_rgs u hj 1024 0 0 0 rfl (by omega) (Or.inl ⟨rfl, rfl⟩)
    exact cs_sX hj ⟨1025, gX _ (cs_sY hj ⟨1025, gY _ d ⟨rfl, rfl, h01⟩⟩)⟩
theorem i_vc_common {k : Nat} {u : SX} {v : SY} (I : i_Rel k u v) (hk : k + 5 ≤ 2560) (v1 : Int32) (v2 : Int32) : wpX_common (fun r => wpY_common (fun r' => r' = r ∧ i_Rel (k + 5) u v) v v1 v2) u v1 v2 := by
  obtain ⟨m, d⟩ := v
  obtain ⟨e, h01⟩ := I
  have e : u = m := e
  subst e
  unfold wpX_common wpY_common
  dsimp only
  rcases cs_case 4 (by decide) v1 with hb | ⟨j, hj, rfl⟩
  · exact cs_xX hb (cs_xY hb ⟨rfl, rfl, h01⟩)
  · rcases cs_case 4 (by decide) v2 with hb | ⟨t, ht, rfl⟩
    · exact cs_sX hj (cs_xX hb (cs_sY hj (cs_xY hb ⟨rfl, rfl, h01⟩)))
    · obtain ⟨r, gX, gY⟩ := cs_com u hj ht 1024 0 0 rfl (by omega)
      exact cs_sX hj (cs_sX ht ⟨1025, gX _ (cs_sY hj (cs_sY ht ⟨1025, gY _ d ⟨rfl, rfl, h01⟩⟩))⟩)
theorem i_vc_within {k : Nat} {u : SX} {v : SY} (I : i_Rel k u v) (hk : k + 5 ≤ 2560) (v1 : Int32) (v2 : Int32) : wpX_within (fun r => wpY_within (fun r' => r' = r ∧ i_Rel (k + 5) u v) v v1 v2) u v1 v2 := by
  obtain ⟨m, d⟩ := v
  obtain ⟨e, h01⟩ := I
  have e : u = m := e
  subst e
  rcases cs_case 4 (by decide) v1 with hb | ⟨j, hj, rfl⟩
  · unfold wpX_within wpY_within
    dsimp only
    exact cs_xX hb (cs_xY hb ⟨rfl, rfl, h01⟩)
  · rcases cs_case 4 (by decide) v2 with hb | ⟨t, ht, rfl⟩
    · unfold wpX_within wpY_within
      dsimp only
      exact cs_sX hj (cs_xX hb (cs_sY hj (cs_xY hb ⟨rfl, rfl, h01⟩)))
    · obtain ⟨r, gX, gY⟩ := cs_com u hj ht 1024 0 0 rfl (by omega)
      obtain ⟨c, hc, cX, cY⟩ := cs_all u hj
      have yc : ∀ p : Int32 → Prop, p r → wpY_common p (u, d) (nI j) (nI t) := by
        intro p hp
        unfold wpY_common
        exact cs_sY hj (cs_sY ht ⟨1025, gY _ d hp⟩)
      unfold wpX_within wpY_within
      dsimp only
      by_cases q : r = nI c
      · exact cs_sX hj (cs_sX ht ⟨1025, gX _ (cX _ (br_t q (cs_sY hj (cs_sY ht (yc _ (cY _ d (br_t q ⟨rfl, rfl, h01⟩)))))))⟩)
      · exact cs_sX hj (cs_sX ht ⟨1025, gX _ (cX _ (br_f q (cs_sY hj (cs_sY ht (yc _ (cY _ d (br_f q ⟨rfl, rfl, h01⟩)))))))⟩)
theorem i_vc_countIn {k : Nat} {u : SX} {v : SY} (I : i_Rel k u v) (hk : k + 5 ≤ 2560) (v1 : Int32) (v2 : Int32) : wpX_countIn (fun r => wpY_countIn (fun r' => r' = r ∧ i_Rel (k + 5) u v) v v1 v2) u v1 v2 := by
  obtain ⟨m, d⟩ := v
  obtain ⟨e, h01⟩ := I
  have e : u = m := e
  subst e
  obtain ⟨a, b, ea, ebX, ebY, hE⟩ := cs_ends v2
  unfold wpX_countIn wpY_countIn wpX_upperEnd wpX_lowerEnd
  dsimp only
  rw [ebX, ea, ebY]
  rcases cs_case 4 (by decide) v1 with hb | ⟨j, hj, rfl⟩
  · exact cs_xX hb (cs_xY hb ⟨rfl, rfl, h01⟩)
  · rcases hE with ⟨hX, hY⟩ | ⟨ha, hb, hX, hY⟩
    · exact cs_sX hj (hX _ (br_t rfl (cs_sY hj (hY _ _ _ (br_t rfl ⟨rfl, rfl, h01⟩)))))
    · obtain ⟨r, hr, cX, cY⟩ := cs_btw u hj ha hb
      exact cs_sX hj (hX _ (br_f cs_10 (cX _ (cs_sY hj (hY _ _ _ (br_f cs_10 (cY _ d ⟨rfl, rfl, h01⟩)))))))
end
