/-- every cell holds 0 or 1 -/
def cs_01 (f : Nat → Int32) : Prop := ∀ j, f j = 0 ∨ f j = 1
/-- the cells of the class are the marks of the reference, each 0 or 1; the reference's second array is free -/
def i_Rel (_ : Nat) (u : SX) (v : SY) : Prop := u = v.1 ∧ cs_01 u
theorem i_up {k : Nat} {u : SX} {v : SY} (h : i_Rel k u v) : i_Rel (k + 5) u v := h
theorem i_vc0 : wpX_init (fun u => wpY_init (fun v => i_Rel 0 u v)) := ⟨rfl, fun _ => Or.inl rfl⟩
/-! rows of kit/rows -/
theorem pk_us {f : Nat → Int32} {k : Nat} {x : Int32} : upd f k x k = x := if_pos rfl
theorem pk_un {f : Nat → Int32} {k j : Nat} {x : Int32} (h : j ≠ k) : upd f k x j = f j := if_neg h
theorem pk_sub {a b : Nat} (h : b ≤ a) : nI a - nI b = nI (a - b) := by
  obtain ⟨c, rfl⟩ : ∃ c, a = c + b := ⟨a - b, by omega⟩
  rw [← nI_add, Int32.add_sub_cancel, Nat.add_sub_cancel]
theorem pk_m1 (n : Nat) : nI (n + 1) + (-1) = nI n := by
  rw [← nI_1, Int32.add_assoc, show (1 : Int32) + (-1) = 0 from rfl, Int32.add_zero]
theorem pk_mul (a b : Nat) : nI a * nI b = nI (a * b) := (Int32.ofNat_mul a b).symm
theorem pk_sub_toInt {a b : Nat} (ha : a < 2 ^ 30) (hb : b < 2 ^ 30) : (nI a - nI b).toInt = (a : Int) - b := by
  rw [Int32.toInt_sub, nI_toInt (by omega), nI_toInt (by omega)]
  exact Int.bmod_eq_of_le (by omega) (by omega)
theorem pk_sneg {a b : Nat} (hb : b < 2 ^ 30) (h : a < b) : nI a - nI b < 0 := by
  rw [Int32.lt_iff_toInt_lt, pk_sub_toInt (by omega) hb, show (0 : Int32).toInt = 0 from by decide]
  omega
theorem pk_ix (x : Int32) {n : Nat} (hn : n < 2 ^ 31) : x < 0 ∨ nI n ≤ x ∨ ∃ j : Nat, j < n ∧ x = nI j := by
  by_cases h : x < 0
  · exact Or.inl h
  · obtain ⟨j, hj, rfl⟩ := nI_of h
    by_cases h2 : j < n
    · exact Or.inr (Or.inr ⟨j, h2, rfl⟩)
    · exact Or.inr (Or.inl (nI_le (by omega) hj))
theorem pk_and (x : Int32) {m : Int32} (k : Nat) (hm : m.toBitVec.toNat = 2 ^ k - 1) : x &&& m = nI (x.toBitVec.toNat % 2 ^ k) := by
  apply Int32.toBitVec_inj.mp
  apply BitVec.eq_of_toNat_eq
  rw [Int32.toBitVec_and, BitVec.toNat_and, hm, Nat.and_two_pow_sub_one_eq_mod]
  show _ = (BitVec.ofNat 32 _).toNat
  rw [BitVec.toNat_ofNat]
  exact (Nat.mod_eq_of_lt (Nat.lt_of_le_of_lt (Nat.mod_le _ _) x.toBitVec.isLt)).symm
theorem pk_andE (x : Int32) {m : Int32} (k : Nat) (hm : m.toBitVec.toNat = 2 ^ k - 1) : ∃ j : Nat, j < 2 ^ k ∧ x &&& m = nI j := ⟨_, Nat.mod_lt _ (Nat.two_pow_pos k), pk_and x k hm⟩
def bt (x : Int32) (i : Nat) : Bool := x.toBitVec.getLsbD i
theorem b_ext {x y : Int32} (h : ∀ i, i < 32 → bt x i = bt y i) : x = y := Int32.toBitVec_inj.mp (BitVec.eq_of_getLsbD_eq (fun i hi => h i hi))
theorem b_and (x y : Int32) (i : Nat) : bt (x &&& y) i = (bt x i && bt y i) := by unfold bt; rw [Int32.toBitVec_and, BitVec.getLsbD_and]
theorem s_l : ∀ n, n < 32 → ((nI n &&& 31).toBitVec.smod 32).toNat = n := by decide +kernel
theorem s_u : ∀ n, n < 32 → (((nI n).toUInt32 &&& Int32.toUInt32 31).toBitVec % 32).toNat = n := by decide +kernel
theorem b_ushr (n : Nat) (hn : n < 32) (x : Int32) (i : Nat) : bt ((x.toUInt32 >>> ((nI n).toUInt32 &&& Int32.toUInt32 31)).toInt32) i = bt x (n + i) := by
  show (x.toUInt32 >>> ((nI n).toUInt32 &&& Int32.toUInt32 31)).toBitVec.getLsbD i = x.toUInt32.toBitVec.getLsbD (n + i)
  rw [UInt32.toBitVec_shiftRight]
  show (x.toUInt32.toBitVec >>> (((nI n).toUInt32 &&& Int32.toUInt32 31).toBitVec % 32).toNat).getLsbD i = _
  rw [s_u n hn, BitVec.getLsbD_ushiftRight]
theorem b_sshr (n : Nat) (hn : n < 32) (x : Int32) {i : Nat} (hi : i < 32) : bt (x >>> (nI n &&& 31)) i = if n + i < 32 then bt x (n + i) else bt x 31 := by
  unfold bt
  rw [Int32.toBitVec_shiftRight]
  show (x.toBitVec.sshiftRight ((nI n &&& 31).toBitVec.smod 32).toNat).getLsbD i = _
  rw [s_l n hn, BitVec.getLsbD_sshiftRight, BitVec.msb_eq_getLsbD_last]
  simp [hi]
/-! cells, small types -/
theorem cs_10 : ¬ (1 : Int32) = 0 := by decide
theorem cs_n0 : vp_nar .boolean 0 = 0 := by decide +kernel
theorem cs_n1 : vp_nar .boolean 1 = 1 := by decide +kernel
theorem cs_nar {x : Int32} (h : x = 0 ∨ x = 1) : vp_nar .boolean x = x := by
  rcases h with rfl | rfl
  · exact cs_n0
  · exact cs_n1
theorem cs_upd01 {f : Nat → Int32} {k : Nat} {x : Int32} (h : cs_01 f) (hx : x = 0 ∨ x = 1) : cs_01 (upd f k x) := by
  intro j
  unfold upd
  split
  · exact hx
  · exact h j
theorem cs_upd0 {f : Nat → Int32} {k : Nat} (h : cs_01 f) : cs_01 (upd f k (vp_nar .boolean 0)) := cs_upd01 h (Or.inl cs_n0)
theorem cs_upd1 {f : Nat → Int32} {k : Nat} (h : cs_01 f) : cs_01 (upd f k (vp_nar .boolean 1)) := cs_upd01 h (Or.inr cs_n1)
theorem cs_ix (j x : Nat) : nI j * 1024 + nI x = nI (j * 1024 + x) := by
  show nI j * nI 1024 + nI x = _
  rw [pk_mul, nI_add]
theorem cs_in {j x : Nat} (hj : j < 4) (hx : x < 1024) : vp_in (nI j * 1024 + nI x) 4096 := by
  rw [cs_ix]
  exact vp_in_nI (by omega) (by omega)
theorem cs_cl {j x : Nat} (hj : j < 4) (hx : x < 1024) : (nI j * 1024 + nI x).toNatClampNeg = j * 1024 + x := by
  rw [cs_ix, nI_clamp (by omega)]
/-! sets and numbers -/
def cs_bad (n : Nat) (x : Int32) : Prop := x < 0 ∨ nI n ≤ x
theorem cs_case (n : Nat) (hn : n < 2 ^ 31) (x : Int32) : cs_bad n x ∨ ∃ j : Nat, j < n ∧ x = nI j := by
  rcases pk_ix x hn with h | h | h
  · exact Or.inl (Or.inl h)
  · exact Or.inl (Or.inr h)
  · exact Or.inr h
theorem cs_nn {n : Nat} (hn : n < 2 ^ 31) {x : Int32} (h : nI n ≤ x) : ¬ x < 0 := Int32.not_lt.mpr (Int32.le_trans (nI_pos' hn) h)
theorem cs_sX {A B : Prop} {j : Nat} (hj : j < 4) (h : B) : wpX_isSet (fun r => (r = 0 → A) ∧ (¬ r = 0 → B)) (nI j) :=
  br_f (nI_pos (by omega)) (br_f (nI_ge (b := 4) hj (by decide)) (br_f cs_10 h))
theorem cs_sY {A B : Prop} {j : Nat} {m d : Nat → Int32} (hj : j < 4) (h : B) : wpY_isSet (fun r => (r = 0 → A) ∧ (¬ r = 0 → B)) (m, d) (nI j) :=
  br_f (nI_pos (by omega)) (br_f (nI_ge (b := 4) hj (by decide)) (br_f cs_10 h))
theorem cs_xX {A B : Prop} {s : Int32} (hs : cs_bad 4 s) (h : A) : wpX_isSet (fun r => (r = 0 → A) ∧ (¬ r = 0 → B)) s := by
  rcases hs with g | g
  · exact br_t g (br_t rfl h)
  · exact br_f (cs_nn (by decide) g) (br_t g (br_t rfl h))
theorem cs_xY {A B : Prop} {s : Int32} {m d : Nat → Int32} (hs : cs_bad 4 s) (h : A) : wpY_isSet (fun r => (r = 0 → A) ∧ (¬ r = 0 → B)) (m, d) s := by
  rcases hs with g | g
  · exact br_t g (br_t rfl h)
  · exact br_f (cs_nn (by decide) g) (br_t g (br_t rfl h))
theorem cs_nX {A B : Prop} {j : Nat} (hj : j < 1024) (h : B) : wpX_isNumber (fun r => (r = 0 → A) ∧ (¬ r = 0 → B)) (nI j) :=
  br_f (nI_pos (by omega)) (br_f (nI_ge (b := 1024) hj (by decide)) (br_f cs_10 h))
theorem cs_nY {A B : Prop} {j : Nat} {m d : Nat → Int32} (hj : j < 1024) (h : B) : wpY_isNumber (fun r => (r = 0 → A) ∧ (¬ r = 0 → B)) (m, d) (nI j) :=
  br_f (nI_pos (by omega)) (br_f (nI_ge (b := 1024) hj (by decide)) (br_f cs_10 h))
theorem cs_yX {A B : Prop} {s : Int32} (hs : cs_bad 1024 s) (h : A) : wpX_isNumber (fun r => (r = 0 → A) ∧ (¬ r = 0 → B)) s := by
  rcases hs with g | g
  · exact br_t g (br_t rfl h)
  · exact br_f (cs_nn (by decide) g) (br_t g (br_t rfl h))
theorem cs_yY {A B : Prop} {s : Int32} {m d : Nat → Int32} (hs : cs_bad 1024 s) (h : A) : wpY_isNumber (fun r => (r = 0 → A) ∧ (¬ r = 0 → B)) (m, d) s := by
  rcases hs with g | g
  · exact br_t g (br_t rfl h)
  · exact br_f (cs_nn (by decide) g) (br_t g (br_t rfl h))
/-! ends -/
theorem cs_2047 : ∀ i, i < 32 → bt 2047 i = decide (i < 11) := by decide +kernel
theorem cs_up (x : Int32) : ((x.toUInt32 >>> ((11 : Int32).toUInt32 &&& Int32.toUInt32 31)).toInt32) &&& 2047 = (x >>> ((11 : Int32) &&& 31)) &&& 2047 := by
  apply b_ext
  intro i hi
  have e1 : bt ((x.toUInt32 >>> ((11 : Int32).toUInt32 &&& Int32.toUInt32 31)).toInt32) i = bt x (11 + i) := b_ushr 11 (by omega) x i
  have e2 : bt (x >>> ((11 : Int32) &&& 31)) i = if 11 + i < 32 then bt x (11 + i) else bt x 31 := b_sshr 11 (by omega) x hi
  rw [b_and, b_and, e1, e2, cs_2047 i hi]
  by_cases h : i < 11
  · rw [if_pos (by omega)]
  · rw [decide_eq_false h, Bool.and_false, Bool.and_false]
theorem cs_eX {A B : Prop} {j : Nat} (hj : j ≤ 1024) (h : B) : wpX_isEnd (fun r => (r = 0 → A) ∧ (¬ r = 0 → B)) (nI j) :=
  br_f (nI_pos (by omega)) (br_f (nI_nlt (b := j) (a := 1024) hj (by decide)) (br_f cs_10 h))
theorem cs_fX {A B : Prop} {j : Nat} (hj : 1024 < j) (h2 : j < 2 ^ 31) (h : A) : wpX_isEnd (fun r => (r = 0 → A) ∧ (¬ r = 0 → B)) (nI j) :=
  br_f (nI_pos h2) (br_t (nI_lt (a := 1024) hj h2) (br_t rfl h))
theorem cs_ends (e : Int32) : ∃ a b : Nat, e &&& 2047 = nI a ∧ ((e.toUInt32 >>> ((11 : Int32).toUInt32 &&& Int32.toUInt32 31)).toInt32) &&& 2047 = nI b ∧ (e >>> ((11 : Int32) &&& 31)) &&& 2047 = nI b ∧
    (((∀ p : Int32 → Prop, p 0 → wpX_areEnds p e) ∧ (∀ (p : Int32 → Prop) (m d : Nat → Int32), p 0 → wpY_areEnds p (m, d) e)) ∨
     (a ≤ 1024 ∧ b ≤ 1024 ∧ (∀ p : Int32 → Prop, p 1 → wpX_areEnds p e) ∧ (∀ (p : Int32 → Prop) (m d : Nat → Int32), p 1 → wpY_areEnds p (m, d) e))) := by
  obtain ⟨a, ha, ea⟩ := pk_andE e (m := 2047) 11 (by decide)
  obtain ⟨b, hb, eb⟩ := pk_andE (e >>> ((11 : Int32) &&& 31)) (m := 2047) 11 (by decide)
  have eb' := (cs_up e).trans eb
  refine ⟨a, b, ea, eb', eb, ?_⟩
  unfold wpX_areEnds wpX_lowerEnd wpX_upperEnd wpY_areEnds
  dsimp only
  rw [ea, eb', eb]
  by_cases h1 : a ≤ 1024
  · have g1 : ¬ (1024 : Int32) < nI a := nI_nlt (a := 1024) h1 (by decide)
    by_cases h2 : b ≤ 1024
    · have g2 : ¬ (1024 : Int32) < nI b := nI_nlt (a := 1024) h2 (by decide)
      exact Or.inr ⟨h1, h2, fun p hp => cs_eX h1 (cs_eX h2 hp), fun p m d hp => br_f g1 (br_f g2 hp)⟩
    · have g2 : (1024 : Int32) < nI b := nI_lt (a := 1024) (by omega) (by omega)
      exact Or.inl ⟨fun p hp => cs_eX h1 (cs_fX (by omega) (by omega) hp), fun p m d hp => br_f g1 (br_t g2 hp)⟩
  · have g1 : (1024 : Int32) < nI a := nI_lt (a := 1024) (by omega) (by omega)
    exact Or.inl ⟨fun p hp => cs_fX (by omega) (by omega) hp, fun p m d hp => br_t g1 hp⟩
