section
/-- every cell holds 0 or 1 -/
def cs_01 (f : Nat → Int32) : Prop := ∀ j, f j = 0 ∨ f j = 1
/-- the cells of the class are the marks of the reference, each 0 or 1; the reference's second array is free -/
def i_Rel (_ : Nat) (u : SX) (v : SY) : Prop := u = v.1 ∧ cs_01 u
theorem i_up {k : Nat} {u : SX} {v : SY} (h : i_Rel k u v) : i_Rel (k + 5) u v := h
theorem i_vc0 : wpX_init (fun u => wpY_init (fun v => i_Rel 0 u v)) := ⟨rfl, fun _ => Or.inl rfl⟩
/-! rows of kit/rows -/
theorem pk_us {f : Nat → Int32} {k : Nat} {x : Int32} : upd f k x k = x := if_pos rfl
theorem pk_un {f : Nat → Int32} {k j : Nat} {x : Int32} (h : j ≠ k) : upd f k x j = f j := if_neg h
theorem pk_sub {a b : Nat} (h : b ≤ a) : nI a - nI b = nI (a - b) := by
  obtain ⟨c, rfl⟩ : ∃ c, a = c + b := ⟨a - b, by omega⟩
  rw [← nI_add, Int32.add_sub_cancel, Nat.add_sub_cancel]
theorem pk_m1 (n : Nat) : nI (n + 1) + (-1) = nI n := by
  rw [← nI_1, Int32.add_assoc, show (1 : Int32) + (-1) = 0 from rfl, Int32.add_zero]
theorem pk_mul (a b : Nat) : nI a * nI b = nI (a * b) := (Int32.ofNat_mul a b).symm
theorem pk_sub_toInt {a b : Nat} (ha : a < 2 ^ 30) (hb : b < 2 ^ 30) : (nI a - nI b).toInt = (a : Int) - b := by
  rw [Int32.toInt_sub, nI_toInt (by omega), nI_toInt (by omega)]
  exact Int.bmod_eq_of_le (by omega) (by omega)
theorem pk_sneg {a b : Nat} (hb : b < 2 ^ 30) (h : a < b) : nI a - nI b < 0 := by
  rw [Int32.lt_iff_toInt_lt, pk_sub_toInt (by omega) hb, show (0 : Int32).toInt = 0 from by decide]
  omega
theorem pk_ix (x : Int32) {n : Nat} (hn : n < 2 ^ 31) : x < 0 ∨ nI n ≤ x ∨ ∃ j : Nat, j < n ∧ x = nI j := by
  by_cases h : x < 0
  · exact Or.inl h
  · obtain ⟨j, hj, rfl⟩ := nI_of h
    by_cases h2 : j < n
    · exact Or.inr (Or.inr ⟨j, h2, rfl⟩)
    · exact Or.inr (Or.inl (nI_le (by omega) hj))
theorem pk_and (x : Int32) {m : Int32} (k : Nat) (hm : m.toBitVec.toNat = 2 ^ k - 1) : x &&& m = nI (x.toBitVec.toNat % 2 ^ k) := by
  apply Int32.toBitVec_inj.mp
  apply BitVec.eq_of_toNat_eq
  rw [Int32.toBitVec_and, BitVec.toNat_and, hm, Nat.and_two_pow_sub_one_eq_mod]
  show _ = (BitVec.ofNat 32 _).toNat
  rw [BitVec.toNat_ofNat]
  exact (Nat.mod_eq_of_lt (Nat.lt_of_le_of_lt (Nat.mod_le _ _) x.toBitVec.isLt)).symm
theorem pk_andE (x : Int32) {m : Int32} (k : Nat) (hm : m.toBitVec.toNat = 2 ^ k - 1) : ∃ j : Nat, j < 2 ^ k ∧ x &&& m = nI j := ⟨_, Nat.mod_lt _ (Nat.two_pow_pos k), pk_and x k hm⟩
def bt (x : Int32) (i : Nat) : Bool := x.toBitVec.getLsbD i
theorem b_ext {x y : Int32} (h : ∀ i, i < 32 → bt x i = bt y i) : x = y := Int32.toBitVec_inj.mp (BitVec.eq_of_getLsbD_eq (fun i hi => h i hi))
theorem b_and (x y : Int32) (i : Nat) : bt (x &&& y) i = (bt x i && bt y i) := by unfold bt; rw [Int32.toBitVec_and, BitVec.getLsbD_and]
theorem s_l : ∀ n, n < 32 → ((nI n &&& 31).toBitVec.smod 32).toNat = n := by decide +kernel
theorem s_u : ∀ n, n < 32 → (((nI n).toUInt32 &&& Int32.toUInt32 31).toBitVec % 32).toNat = n := by decide +kernel
theorem b_ushr (n : Nat) (hn : n < 32) (x : Int32) (i : Nat) : bt ((x.toUInt32 >>> ((nI n).toUInt32 &&& Int32.toUInt32 31)).toInt32) i = bt x (n + i) := by
  show (x.toUInt32 >>> ((nI n).toUInt32 &&& Int32.toUInt32 31)).toBitVec.getLsbD i = x.toUInt32.toBitVec.getLsbD (n + i)
  rw [UInt32.toBitVec_shiftRight]
  show (x.toUInt32.toBitVec >>> (((nI n).toUInt32 &&& Int32.toUInt32 31).toBitVec % 32).toNat).getLsbD i = _
  rw [s_u n hn, BitVec.getLsbD_ushiftRight]
theorem b_sshr (n : Nat) (hn : n < 32) (x : Int32) {i : Nat} (hi : i < 32) : bt (x >>> (nI n &&& 31)) i = if n + i < 32 then bt x (n + i) else bt x 31 := by
  unfold bt
  rw [Int32.toBitVec_shiftRight]
  show (x.toBitVec.sshiftRight ((nI n &&& 31).toBitVec.smod 32).toNat).getLsbD i = _
  rw [s_l n hn, BitVec.getLsbD_sshiftRight, BitVec.msb_eq_getLsbD_last]
  simp [hi]
/-! cells, small types -/
theorem cs_10 : ¬ (1 : Int32) = 0 := by decide
theorem cs_n0 : vp_nar .boolean 0 = 0 := by decide +kernel
theorem cs_n1 : vp_nar .boolean 1 = 1 := by decide +kernel
theorem cs_nar {x : Int32} (h : x = 0 ∨ x = 1) : vp_nar .boolean x = x := by
  rcases h with rfl | rfl
  · exact cs_n0
  · exact cs_n1
theorem cs_upd01 {f : Nat → Int32} {k : Nat} {x : Int32} (h : cs_01 f) (hx : x = 0 ∨ x = 1) : cs_01 (upd f k x) := by
  intro j
  unfold upd
  split
  · exact hx
  · exact h j
theorem cs_upd0 {f : Nat → Int32} {k : Nat} (h : cs_01 f) : cs_01 (upd f k (vp_nar .boolean 0)) := cs_upd01 h (Or.inl cs_n0)
theorem cs_upd1 {f : Nat → Int32} {k : Nat} (h : cs_01 f) : cs_01 (upd f k (vp_nar .boolean 1)) := cs_upd01 h (Or.inr cs_n1)
theorem cs_ix (j x : Nat) : nI j * 1024 + nI x = nI (j * 1024 + x) := by
  show nI j * nI 1024 + nI x = _
  rw [pk_mul, nI_add]
theorem cs_in {j x : Nat} (hj : j < 4) (hx : x < 1024) : vp_in (nI j * 1024 + nI x) 4096 := by
  rw [cs_ix]
  exact vp_in_nI (by omega) (by omega)
theorem cs_cl {j x : Nat} (hj : j < 4) (hx : x < 1024) : (nI j * 1024 + nI x).toNatClampNeg = j * 1024 + x := by
  rw [cs_ix, nI_clamp (by omega)]
/-! sets and numbers -/
def cs_bad (n : Nat) (x : Int32) : Prop := x < 0 ∨ nI n ≤ x
theorem cs_case (n : Nat) (hn : n < 2 ^ 31) (x : Int32) : cs_bad n x ∨ ∃ j : Nat, j < n ∧ x = nI j := by
  rcases pk_ix x hn with h | h | h
  · exact Or.inl (Or.inl h)
  · exact Or.inl (Or.inr h)
  · exact Or.inr h
theorem cs_nn {n : Nat} (hn : n < 2 ^ 31) {x : Int32} (h : nI n ≤ x) : ¬ x < 0 := Int32.not_lt.mpr (Int32.le_trans (nI_pos' hn) h)
theorem cs_sX {A B : Prop} {j : Nat} (hj : j < 4) (h : B) : wpX_isSet (fun r => (r = 0 → A) ∧ (¬ r = 0 → B)) (nI j) :=
  br_f (nI_pos (by omega)) (br_f (nI_ge (b := 4) hj (by decide)) (br_f cs_10 h))
theorem cs_sY {A B : Prop} {j : Nat} {m d : Nat → Int32} (hj : j < 4) (h : B) : wpY_isSet (fun r => (r = 0 → A) ∧ (¬ r = 0 → B)) (m, d) (nI j) :=
  br_f (nI_pos (by omega)) (br_f (nI_ge (b := 4) hj (by decide)) (br_f cs_10 h))
theorem cs_xX {A B : Prop} {s : Int32} (hs : cs_bad 4 s) (h : A) : wpX_isSet (fun r => (r = 0 → A) ∧ (¬ r = 0 → B)) s := by
  rcases hs with g | g
  · exact br_t g (br_t rfl h)
  · exact br_f (cs_nn (by decide) g) (br_t g (br_t rfl h))
theorem cs_xY {A B : Prop} {s : Int32} {m d : Nat → Int32} (hs : cs_bad 4 s) (h : A) : wpY_isSet (fun r => (r = 0 → A) ∧ (¬ r = 0 → B)) (m, d) s := by
  rcases hs with g | g
  · exact br_t g (br_t rfl h)
  · exact br_f (cs_nn (by decide) g) (br_t g (br_t rfl h))
theorem cs_nX {A B : Prop} {j : Nat} (hj : j < 1024) (h : B) : wpX_isNumber (fun r => (r = 0 → A) ∧ (¬ r = 0 → B)) (nI j) :=
  br_f (nI_pos (by omega)) (br_f (nI_ge (b := 1024) hj (by decide)) (br_f cs_10 h))
theorem cs_nY {A B : Prop} {j : Nat} {m d : Nat → Int32} (hj : j < 1024) (h : B) : wpY_isNumber (fun r => (r = 0 → A) ∧ (¬ r = 0 → B)) (m, d) (nI j) :=
  br_f (nI_pos (by omega)) (br_f (nI_ge (b := 1024) hj (by decide)) (br_f cs_10 h))
theorem cs_yX {A B : Prop} {s : Int32} (hs : cs_bad 1024 s) (h : A) : wpX_isNumber (fun r => (r = 0 → A) ∧ (¬ r = 0 → B)) s := by
  rcases hs with g | g
  · exact br_t g (br_t rfl h)
  · exact br_f (cs_nn (by decide) g) (br_t g (br_t rfl h))
theorem cs_yY {A B : Prop} {s : Int32} {m d : Nat → Int32} (hs : cs_bad 1024 s) (h : A) : wpY_isNumber (fun r => (r = 0 → A) ∧ (¬ r = 0 → B)) (m, d) s := by
  rcases hs with g | g
  · exact br_t g (br_t rfl h)
  · exact br_f (cs_nn (by decide) g) (br_t g (br_t rfl h))
/-! ends -/
theorem cs_2047 : ∀ i, i < 32 → bt 2047 i = decide (i < 11) := by decide +kernel
theorem cs_up (x : Int32) : ((x.toUInt32 >>> ((11 : Int32).toUInt32 &&& Int32.toUInt32 31)).toInt32) &&& 2047 = (x >>> ((11 : Int32) &&& 31)) &&& 2047 := by
  apply b_ext
  intro i hi
  have e1 : bt ((x.toUInt32 >>> ((11 : Int32).toUInt32 &&& Int32.toUInt32 31)).toInt32) i = bt x (11 + i) := b_ushr 11 (by omega) x i
  have e2 : bt (x >>> ((11 : Int32) &&& 31)) i = if 11 + i < 32 then bt x (11 + i) else bt x 31 := b_sshr 11 (by omega) x hi
  rw [b_and, b_and, e1, e2, cs_2047 i hi]
  by_cases h : i < 11
  · rw [if_pos (by omega)]
  · rw [decide_eq_false h, Bool.and_false, Bool.and_false]
theorem cs_eX {A B : Prop} {j : Nat} (hj : j ≤ 1024) (h : B) : wpX_isEnd (fun r => (r = 0 → A) ∧ (¬ r = 0 → B)) (nI j) :=
  br_f (nI_pos (by omega)) (br_f (nI_nlt (b := j) (a := 1024) hj (by decide)) (br_f cs_10 h))
theorem cs_fX {A B : Prop} {j : Nat} (hj : 1024 < j) (h2 : j < 2 ^ 31) (h : A) : wpX_isEnd (fun r => (r = 0 → A) ∧ (¬ r = 0 → B)) (nI j) :=
  br_f (nI_pos h2) (br_t (nI_lt (a := 1024) hj h2) (br_t rfl h))
theorem cs_ends (e : Int32) : ∃ a b : Nat, e &&& 2047 = nI a ∧ ((e.toUInt32 >>> ((11 : Int32).toUInt32 &&& Int32.toUInt32 31)).toInt32) &&& 2047 = nI b ∧ (e >>> ((11 : Int32) &&& 31)) &&& 2047 = nI b ∧
    (((∀ p : Int32 → Prop, p 0 → wpX_areEnds p e) ∧ (∀ (p : Int32 → Prop) (m d : Nat → Int32), p 0 → wpY_areEnds p (m, d) e)) ∨
     (a ≤ 1024 ∧ b ≤ 1024 ∧ (∀ p : Int32 → Prop, p 1 → wpX_areEnds p e) ∧ (∀ (p : Int32 → Prop) (m d : Nat → Int32), p 1 → wpY_areEnds p (m, d) e))) := by
  obtain ⟨a, ha, ea⟩ := pk_andE e (m := 2047) 11 (by decide)
  obtain ⟨b, hb, eb⟩ := pk_andE (e >>> ((11 : Int32) &&& 31)) (m := 2047) 11 (by decide)
  have eb' := (cs_up e).trans eb
  refine ⟨a, b, ea, eb', eb, ?_⟩
  unfold wpX_areEnds wpX_lowerEnd wpX_upperEnd wpY_areEnds
  dsimp only
  rw [ea, eb', eb]
  by_cases h1 : a ≤ 1024
  · have g1 : ¬ (1024 : Int32) < nI a := nI_nlt (a := 1024) h1 (by decide)
    by_cases h2 : b ≤ 1024
    · have g2 : ¬ (1024 : Int32) < nI b := nI_nlt (a := 1024) h2 (by decide)
      exact Or.inr ⟨h1, h2, fun p hp => cs_eX h1 (cs_eX h2 hp), fun p m d hp => br_f g1 (br_f g2 hp)⟩
    · have g2 : (1024 : Int32) < nI b := nI_lt (a := 1024) (by omega) (by omega)
      exact Or.inl ⟨fun p hp => cs_eX h1 (cs_fX (by omega) (by omega) hp), fun p m d hp => br_f g1 (br_t g2 hp)⟩
  · have g1 : (1024 : Int32) < nI a := nI_lt (a := 1024) (by omega) (by omega)
    exact Or.inl ⟨fun p hp => cs_fX (by omega) (by omega) hp, fun p m d hp => br_t g1 hp⟩
end
section
/-! the reading loops, class and reference in step: one answer serves both -/
theorem cs_cnt (f : Nat → Int32) {j : Nat} (hj : j < 4) {b : Nat} (hb : b ≤ 1024) : ∀ e a c : Nat, b - a = e → a ≤ 1024 →
    ∃ r : Nat, r ≤ c + e ∧ (∀ p : Int32 → Prop, p (nI r) → wX_countBetween_6 p (nI j) (nI b) f (e + 1) (nI c) (nI a)) ∧
      (∀ (p : Int32 → Prop) (d : Nat → Int32), p (nI r) → wY_count_6 p (nI j) (nI b) f d (e + 1) (nI c) (nI a)) := by
  intro e
  induction e with
  | zero =>
    intro a c h1 h2
    have h : nI b ≤ nI a := nI_le (by omega) (by omega)
    exact ⟨c, by omega, fun p hp => br_t h hp, fun p d hp => br_t h hp⟩
  | succ e ih =>
    intro a c h1 h2
    have h : ¬ nI b ≤ nI a := nI_ge (by omega) (by omega)
    have hi : vp_in (nI j * 1024 + nI a) 4096 := cs_in hj (by omega)
    by_cases z : f (nI j * 1024 + nI a).toNatClampNeg = 0
    · obtain ⟨r, hr, hX, hY⟩ := ih (a + 1) c (by omega) (by omega)
      exact ⟨r, by omega, fun p hp => br_f h ⟨hi, br_t z (nm_r (nI_1 a) (hX p hp))⟩,
        fun p d hp => br_f h ⟨hi, br_t z (nm_r (nI_1 a) (hY p d hp))⟩⟩
    · obtain ⟨r, hr, hX, hY⟩ := ih (a + 1) (c + 1) (by omega) (by omega)
      exact ⟨r, by omega, fun p hp => br_f h ⟨hi, br_f z (nm_r (nI_1 c) (nm_r (nI_1 a) (hX p hp)))⟩,
        fun p d hp => br_f h ⟨hi, br_f z (nm_r (nI_1 c) (nm_r (nI_1 a) (hY p d hp)))⟩⟩
theorem cs_btw (f : Nat → Int32) {j : Nat} (hj : j < 4) {a b : Nat} (ha : a ≤ 1024) (hb : b ≤ 1024) :
    ∃ r : Nat, r ≤ 1024 ∧ (∀ p : Int32 → Prop, p (nI r) → wpX_countBetween p f (nI j) (nI a) (nI b)) ∧
      (∀ (p : Int32 → Prop) (d : Nat → Int32), p (nI r) → wpY_count p (f, d) (nI j) (nI a) (nI b)) := by
  obtain ⟨r, hr, hX, hY⟩ := cs_cnt f hj hb (b - a) a 0 rfl ha
  exact ⟨r, by omega, fun p hp => ⟨_, hX p hp⟩, fun p d hp => ⟨_, hY p d hp⟩⟩
theorem cs_all (f : Nat → Int32) {j : Nat} (hj : j < 4) :
    ∃ r : Nat, r ≤ 1024 ∧ (∀ p : Int32 → Prop, p (nI r) → wpX_countAll p f (nI j)) ∧
      (∀ (p : Int32 → Prop) (d : Nat → Int32), p (nI r) → wpY_size p (f, d) (nI j)) := by
  obtain ⟨r, hr, hX, hY⟩ := cs_btw f hj (a := 0) (b := 1024) (by omega) (by omega)
  refine ⟨r, hr, fun p hp => ?_, fun p d hp => ?_⟩
  · unfold wpX_countAll
    exact hX _ hp
  · unfold wpY_size
    exact cs_sY hj (hY _ d hp)
theorem cs_com (f : Nat → Int32) {j t : Nat} (hj : j < 4) (ht : t < 4) : ∀ e a c : Nat, 1024 - a = e → a ≤ 1024 →
    ∃ r : Int32, (∀ p : Int32 → Prop, p r → wX_countCommon_5 p (nI j) (nI t) f (e + 1) (nI c) (nI a)) ∧
      (∀ (p : Int32 → Prop) (d : Nat → Int32), p r → wY_common_23 p (nI j) (nI t) f d (e + 1) (nI c) (nI a)) := by
  intro e
  induction e with
  | zero =>
    intro a c h1 h2
    have h : (1024 : Int32) ≤ nI a := nI_le (a := 1024) (by omega) (by omega)
    exact ⟨nI c, fun p hp => br_t h hp, fun p d hp => br_t h hp⟩
  | succ e ih =>
    intro a c h1 h2
    have h : ¬ (1024 : Int32) ≤ nI a := nI_ge (b := 1024) (by omega) (by omega)
    have hi : vp_in (nI j * 1024 + nI a) 4096 := cs_in hj (by omega)
    have hi2 : vp_in (nI t * 1024 + nI a) 4096 := cs_in ht (by omega)
    by_cases z : f (nI j * 1024 + nI a).toNatClampNeg = 0
    · obtain ⟨r, hX, hY⟩ := ih (a + 1) c (by omega) (by omega)
      exact ⟨r, fun p hp => br_f h ⟨hi, br_t z (nm_r (nI_1 a) (hX p hp))⟩,
        fun p d hp => br_f h ⟨hi, br_t z (nm_r (nI_1 a) (hY p d hp))⟩⟩
    · by_cases y : f (nI t * 1024 + nI a).toNatClampNeg = 0
      · obtain ⟨r, hX, hY⟩ := ih (a + 1) c (by omega) (by omega)
        exact ⟨r, fun p hp => br_f h ⟨hi, br_f z ⟨hi2, br_t y (nm_r (nI_1 a) (hX p hp))⟩⟩,
          fun p d hp => br_f h ⟨hi, br_f z ⟨hi2, br_t y (nm_r (nI_1 a) (hY p d hp))⟩⟩⟩
      · obtain ⟨r, hX, hY⟩ := ih (a + 1) (c + 1) (by omega) (by omega)
        exact ⟨r, fun p hp => br_f h ⟨hi, br_f z ⟨hi2, br_f y (nm_r (nI_1 c) (nm_r (nI_1 a) (hX p hp)))⟩⟩,
          fun p d hp => br_f h ⟨hi, br_f z ⟨hi2, br_f y (nm_r (nI_1 c) (nm_r (nI_1 a) (hY p d hp)))⟩⟩⟩
theorem cs_nxt (f : Nat → Int32) {j : Nat} (hj : j < 4) : ∀ e a : Nat, 1024 - a = e → a ≤ 1024 →
    ∃ r : Int32, (∀ p : Int32 → Prop, p r → wX_next_21 p (nI j) f (e + 1) (nI a)) ∧
      (∀ (p : Int32 → Prop) (d : Nat → Int32), p r → wY_next_23 p (nI j) f d (e + 1) (nI a)) := by
  intro e
  induction e with
  | zero =>
    intro a h1 h2
    have h : (1024 : Int32) ≤ nI a := nI_le (a := 1024) (by omega) (by omega)
    exact ⟨-3, fun p hp => br_t h hp, fun p d hp => br_t h hp⟩
  | succ e ih =>
    intro a h1 h2
    have h : ¬ (1024 : Int32) ≤ nI a := nI_ge (b := 1024) (by omega) (by omega)
    have hi : vp_in (nI j * 1024 + nI a) 4096 := cs_in hj (by omega)
    by_cases z : f (nI j * 1024 + nI a).toNatClampNeg = 0
    · obtain ⟨r, hX, hY⟩ := ih (a + 1) (by omega) (by omega)
      exact ⟨r, fun p hp => br_f h ⟨hi, br_t z (nm_r (nI_1 a) (hX p hp))⟩,
        fun p d hp => br_f h ⟨hi, br_t z (nm_r (nI_1 a) (hY p d hp))⟩⟩
    · exact ⟨nI a, fun p hp => br_f h ⟨hi, br_f z hp⟩, fun p d hp => br_f h ⟨hi, br_f z hp⟩⟩
/-! select: the class counts up to k, the reference from k down -/
theorem cs_selN (f : Nat → Int32) {j : Nat} (hj : j < 4) {k : Int32} (hk : k < 0) : ∀ e a c : Nat, 1024 - a = e → a ≤ 1024 → c ≤ a →
    ∀ p : Int32 → Prop, p (-3) → wX_select_14 p (nI j) k f (e + 1) (nI c) (nI a) := by
  intro e
  induction e with
  | zero =>
    intro a c h1 h2 h3 p hp
    have h : (1024 : Int32) ≤ nI a := nI_le (a := 1024) (by omega) (by omega)
    exact br_t h hp
  | succ e ih =>
    intro a c h1 h2 h3 p hp
    have h : ¬ (1024 : Int32) ≤ nI a := nI_ge (b := 1024) (by omega) (by omega)
    have hi : vp_in (nI j * 1024 + nI a) 4096 := cs_in hj (by omega)
    have hne : ¬ nI c = k := by
      intro g
      rw [← g] at hk
      exact nI_pos (by omega) hk
    by_cases z : f (nI j * 1024 + nI a).toNatClampNeg = 0
    · exact br_f h ⟨hi, br_t z (nm_r (nI_1 a) (ih (a + 1) c (by omega) (by omega) (by omega) p hp))⟩
    · exact br_f h ⟨hi, br_f z (br_f hne (nm_r (nI_1 c) (nm_r (nI_1 a) (ih (a + 1) (c + 1) (by omega) (by omega) (by omega) p hp))))⟩
theorem cs_selP (f : Nat → Int32) {j : Nat} (hj : j < 4) {q : Nat} (hq : q < 2 ^ 31) : ∀ e a c l : Nat, 1024 - a = e → a ≤ 1024 → c + l = q → c ≤ a →
    ∃ r : Int32, (∀ p : Int32 → Prop, p r → wX_select_14 p (nI j) (nI q) f (e + 1) (nI c) (nI a)) ∧
      (∀ (p : Int32 → Prop) (d : Nat → Int32), p r → wY_select_15 p (nI j) (nI q) f d (e + 1) (nI l) (nI a)) := by
  intro e
  induction e with
  | zero =>
    intro a c l h1 h2 h3 h4
    have h : (1024 : Int32) ≤ nI a := nI_le (a := 1024) (by omega) (by omega)
    exact ⟨-3, fun p hp => br_t h hp, fun p d hp => br_t h hp⟩
  | succ e ih =>
    intro a c l h1 h2 h3 h4
    have h : ¬ (1024 : Int32) ≤ nI a := nI_ge (b := 1024) (by omega) (by omega)
    have hi : vp_in (nI j * 1024 + nI a) 4096 := cs_in hj (by omega)
    have hp0 : ¬ nI q < 0 := nI_pos hq
    by_cases z : f (nI j * 1024 + nI a).toNatClampNeg = 0
    · obtain ⟨r, hX, hY⟩ := ih (a + 1) c l (by omega) (by omega) h3 (by omega)
      exact ⟨r, fun p hp => br_f h ⟨hi, br_t z (nm_r (nI_1 a) (hX p hp))⟩,
        fun p d hp => br_f h (br_f hp0 ⟨hi, br_t z (nm_r (nI_1 a) (hY p d hp))⟩)⟩
    · cases l with
      | zero =>
        have g : nI c = nI q := by rw [show c = q by omega]
        exact ⟨nI a, fun p hp => br_f h ⟨hi, br_f z (br_t g hp)⟩,
          fun p d hp => br_f h (br_f hp0 ⟨hi, br_f z (br_t nI_0 hp)⟩)⟩
      | succ l =>
        have g : ¬ nI c = nI q := by
          rw [nI_eq (by omega) hq]
          omega
        have g2 : ¬ nI (l + 1) = 0 := nI_ne0 (by omega) (by omega)
        obtain ⟨r, hX, hY⟩ := ih (a + 1) (c + 1) l (by omega) (by omega) (by omega) (by omega)
        exact ⟨r, fun p hp => br_f h ⟨hi, br_f z (br_f g (nm_r (nI_1 c) (nm_r (nI_1 a) (hX p hp))))⟩,
          fun p d hp => br_f h (br_f hp0 ⟨hi, br_f z (br_f g2 (nm_r (pk_m1 l) (nm_r (nI_1 a) (hY p d hp))))⟩)⟩
/-! ranges: the class keeps the cell before, the reference asks has -/
theorem cs_has0 {f d : Nat → Int32} {j x : Nat} (hj : j < 4) (hx : x < 1024) (z : f (nI j * 1024 + nI x).toNatClampNeg = 0) {p : Int32 → Prop} (hp : p 0) : wpY_has p (f, d) (nI j) (nI x) := by
  unfold wpY_has
  exact cs_sY hj (cs_nY hx ⟨cs_in hj hx, br_t z hp⟩)
theorem cs_has1 {f d : Nat → Int32} {j x : Nat} (hj : j < 4) (hx : x < 1024) (z : ¬ f (nI j * 1024 + nI x).toNatClampNeg = 0) {p : Int32 → Prop} (hp : p 1) : wpY_has p (f, d) (nI j) (nI x) := by
  unfold wpY_has
  exact cs_sY hj (cs_nY hx ⟨cs_in hj hx, br_f z hp⟩)
theorem cs_hasB {f d : Nat → Int32} {j : Nat} (hj : j < 4) {x : Int32} (hx : cs_bad 1024 x) {p : Int32 → Prop} (hp : p 0) : wpY_has p (f, d) (nI j) x := by
  unfold wpY_has
  exact cs_sY hj (cs_yY hx hp)
def cs_bef (f : Nat → Int32) (j a : Nat) (w : Int32) : Prop := (a = 0 ∧ w = 0) ∨ ∃ b : Nat, a = b + 1 ∧ w = f (nI j * 1024 + nI b).toNatClampNeg
theorem cs_prev0 {f d : Nat → Int32} {j a : Nat} (hj : j < 4) (ha : a < 1024) {w : Int32} (hw : cs_bef f j a w) (z : w = 0) {p : Int32 → Prop} (hp : p 0) : wpY_has p (f, d) (nI j) (nI a - 1) := by
  rcases hw with ⟨rfl, _⟩ | ⟨b, rfl, rfl⟩
  · exact cs_hasB hj (Or.inl (by decide +kernel)) hp
  · rw [nI_pred]
    exact cs_has0 hj (by omega) z hp
theorem cs_prev1 {f d : Nat → Int32} {j a : Nat} (hj : j < 4) (ha : a < 1024) {w : Int32} (hw : cs_bef f j a w) (z : ¬ w = 0) {p : Int32 → Prop} (hp : p 1) : wpY_has p (f, d) (nI j) (nI a - 1) := by
  rcases hw with ⟨_, e⟩ | ⟨b, rfl, rfl⟩
  · exact absurd e z
  · rw [nI_pred]
    exact cs_has1 hj (by omega) z hp
theorem cs_rgs (f : Nat → Int32) {j : Nat} (hj : j < 4) : ∀ (e a c : Nat) (w : Int32), 1024 - a = e → a ≤ 1024 → cs_bef f j a w →
    ∃ r : Int32, (∀ p : Int32 → Prop, p r → wX_ranges_16 p (nI j) f (e + 1) (nI c) w (nI a)) ∧
      (∀ (p : Int32 → Prop) (d : Nat → Int32), p r → wY_ranges_14 p (nI j) f d (e + 1) (nI c) (nI a)) := by
  intro e
  induction e with
  | zero =>
    intro a c w h1 h2 hw
    have h : (1024 : Int32) ≤ nI a := nI_le (a := 1024) (by omega) (by omega)
    exact ⟨nI c, fun p hp => br_t h hp, fun p d hp => br_t h hp⟩
  | succ e ih =>
    intro a c w h1 h2 hw
    have h : ¬ (1024 : Int32) ≤ nI a := nI_ge (b := 1024) (by omega) (by omega)
    have ha : a < 1024 := by omega
    have hi : vp_in (nI j * 1024 + nI a) 4096 := cs_in hj ha
    have hb : cs_bef f j (a + 1) (f (nI j * 1024 + nI a).toNatClampNeg) := Or.inr ⟨a, rfl, rfl⟩
    by_cases z : f (nI j * 1024 + nI a).toNatClampNeg = 0
    · obtain ⟨r, hX, hY⟩ := ih (a + 1) c _ (by omega) (by omega) hb
      exact ⟨r, fun p hp => br_f h ⟨hi, nm_e (br_t z (nm_r (nI_1 a) (hX p hp)))⟩,
        fun p d hp => br_f h (cs_has0 hj ha z (br_t rfl (nm_r (nI_1 a) (hY p d hp))))⟩
    · by_cases y : w = 0
      · obtain ⟨r, hX, hY⟩ := ih (a + 1) (c + 1) _ (by omega) (by omega) hb
        exact ⟨r, fun p hp => br_f h ⟨hi, nm_e (br_f z (br_t y (nm_r (nI_1 c) (nm_r (nI_1 a) (hX p hp)))))⟩,
          fun p d hp => br_f h (cs_has1 hj ha z (br_f cs_10 (cs_prev0 hj ha hw y (br_t rfl (nm_r (nI_1 c) (nm_r (nI_1 a) (hY p d hp)))))))⟩
      · obtain ⟨r, hX, hY⟩ := ih (a + 1) c _ (by omega) (by omega) hb
        exact ⟨r, fun p hp => br_f h ⟨hi, nm_e (br_f z (br_f y (nm_r (nI_1 a) (hX p hp))))⟩,
          fun p d hp => br_f h (cs_has1 hj ha z (br_f cs_10 (cs_prev1 hj ha hw y (br_f cs_10 (nm_r (nI_1 a) (hY p d hp))))))⟩
end
