/-! shift: the class in place, upwards from the top and downwards from the bottom; the reference by its second array -/
def cs_hD (f : Nat → Int32) (b w : Nat) : Nat → Int32 := fun x => if 1024 ≤ x + w then 0 else lw_bz (f (b + (x + w)))
def cs_hU (f : Nat → Int32) (b w : Nat) : Nat → Int32 := fun x => if x < w then 0 else lw_bz (f (b + (x - w)))
theorem cs_hD01 (f : Nat → Int32) (b w : Nat) : cs_01 (cs_hD f b w) := by
  intro x
  unfold cs_hD
  split
  · exact Or.inl rfl
  · exact lw_bz_01 _
theorem cs_hU01 (f : Nat → Int32) (b w : Nat) : cs_01 (cs_hU f b w) := by
  intro x
  unfold cs_hU
  split
  · exact Or.inl rfl
  · exact lw_bz_01 _
theorem cs_bz0 {v : Int32} (h : v = 0) : lw_bz v = 0 := if_pos h
theorem cs_bz1 {v : Int32} (h : ¬ v = 0) : lw_bz v = 1 := if_neg h
theorem cs_shD {f : Nat → Int32} {j w : Nat} (hj : j < 4) (hw : w < 1024) : ∀ e a : Nat, 1024 - a = e → a ≤ 1024 →
    ∀ p : SX → Prop, p (cs_mid f (cs_hD f (j * 1024) w) (j * 1024) 0 1024) → wX_shiftDown_2 p (nI j) (nI w) (e + 1) (nI a) (cs_mid f (cs_hD f (j * 1024) w) (j * 1024) 0 a) := by
  intro e
  induction e with
  | zero =>
    intro a h1 h2 p hp
    have g : (1024 : Int32) ≤ nI a := nI_le (a := 1024) (by omega) (by omega)
    have e : a = 1024 := by omega
    subst e
    exact br_t g hp
  | succ e ih =>
    intro a h1 h2 p hp
    have g : ¬ (1024 : Int32) ≤ nI a := nI_ge (b := 1024) (by omega) (by omega)
    have ha : a < 1024 := by omega
    have hi := cs_in hj ha
    have es : (1024 : Int32) - nI w = nI (1024 - w) := pk_sub (a := 1024) (by omega)
    have ih' := ih (a + 1) (by omega) (by omega) p hp
    have hu : ∀ v : Int32, cs_hD f (j * 1024) w a = v → upd (cs_mid f (cs_hD f (j * 1024) w) (j * 1024) 0 a) (nI j * 1024 + nI a).toNatClampNeg (vp_nar .boolean v) = cs_mid f (cs_hD f (j * 1024) w) (j * 1024) 0 (a + 1) := by
      intro v ev
      subst ev
      rw [cs_cl hj ha, cs_nar (cs_hD01 f _ _ a), cs_midU f _ (Nat.zero_le a)]
    by_cases q : 1024 ≤ a + w
    · have c : (1024 : Int32) - nI w ≤ nI a := by
        rw [es]
        exact nI_le (by omega) (by omega)
      exact br_f g (br_t c ⟨hi, nm_r (hu 0 (if_pos q)) (nm_r (nI_1 a) ih')⟩)
    · have c : ¬ (1024 : Int32) - nI w ≤ nI a := by
        rw [es]
        exact nI_ge (by omega) (by omega)
      have hv : cs_hD f (j * 1024) w a = lw_bz (f (j * 1024 + (a + w))) := if_neg q
      have hi2 : vp_in (nI j * 1024 + (nI a + nI w)) 4096 := by
        rw [nI_add]
        exact cs_in hj (by omega)
      have eg : cs_mid f (cs_hD f (j * 1024) w) (j * 1024) 0 a (nI j * 1024 + (nI a + nI w)).toNatClampNeg = f (j * 1024 + (a + w)) := by
        rw [nI_add, cs_cl hj (by omega)]
        exact cs_midN (by omega)
      by_cases z : f (j * 1024 + (a + w)) = 0
      · exact br_f g (br_f c ⟨hi2, br_t (eg.trans z) ⟨hi, nm_r (hu 0 (hv.trans (cs_bz0 z))) (nm_r (nI_1 a) ih')⟩⟩)
      · exact br_f g (br_f c ⟨hi2, br_f (fun y => z (eg.symm.trans y)) ⟨hi, nm_r (hu 1 (hv.trans (cs_bz1 z))) (nm_r (nI_1 a) ih')⟩⟩)
theorem cs_shU {f : Nat → Int32} {j w : Nat} (hj : j < 4) (hw : w < 1024) : ∀ e : Nat, e ≤ 1024 →
    ∀ p : SX → Prop, p (cs_mid f (cs_hU f (j * 1024) w) (j * 1024) 0 1024) → wX_shiftUp_4 p (nI j) (nI w) (e + 1) (nI e + (-1)) (cs_mid f (cs_hU f (j * 1024) w) (j * 1024) e 1024) := by
  intro e
  induction e with
  | zero =>
    intro h2 p hp
    have g : nI 0 + (-1) < 0 := by decide +kernel
    exact br_t g hp
  | succ a ih =>
    intro h2 p hp
    have g : ¬ nI a < 0 := nI_pos (by omega)
    have ha : a < 1024 := by omega
    have hi := cs_in hj ha
    have ih' := ih (by omega) p hp
    have hu : ∀ v : Int32, cs_hU f (j * 1024) w a = v → upd (cs_mid f (cs_hU f (j * 1024) w) (j * 1024) (a + 1) 1024) (nI j * 1024 + nI a).toNatClampNeg (vp_nar .boolean v) = cs_mid f (cs_hU f (j * 1024) w) (j * 1024) a 1024 := by
      intro v ev
      subst ev
      rw [cs_cl hj ha, cs_nar (cs_hU01 f _ _ a), cs_midD f _ ha]
    rw [pk_m1]
    by_cases q : a < w
    · have c : nI a < nI w := nI_lt q (by omega)
      exact br_f g (br_t c ⟨hi, nm_r (hu 0 (if_pos q)) (nm_e ih')⟩)
    · have c : ¬ nI a < nI w := nI_nlt (by omega) (by omega)
      have hv : cs_hU f (j * 1024) w a = lw_bz (f (j * 1024 + (a - w))) := if_neg q
      have hi2 : vp_in (nI j * 1024 + (nI a - nI w)) 4096 := by
        rw [pk_sub (by omega)]
        exact cs_in hj (by omega)
      have eg : cs_mid f (cs_hU f (j * 1024) w) (j * 1024) (a + 1) 1024 (nI j * 1024 + (nI a - nI w)).toNatClampNeg = f (j * 1024 + (a - w)) := by
        rw [pk_sub (by omega), cs_cl hj (by omega)]
        exact cs_midN (by omega)
      by_cases z : f (j * 1024 + (a - w)) = 0
      · exact br_f g (br_f c ⟨hi2, br_t (eg.trans z) ⟨hi, nm_r (hu 0 (hv.trans (cs_bz0 z))) (nm_e ih')⟩⟩)
      · exact br_f g (br_f c ⟨hi2, br_f (fun y => z (eg.symm.trans y)) ⟨hi, nm_r (hu 1 (hv.trans (cs_bz1 z))) (nm_e ih')⟩⟩)
/-- what the reference needs of h at one number -/
def cs_st (f h : Nat → Int32) (j : Nat) (y : Int32) (a : Nat) : Prop :=
  (cs_bad 1024 (nI a - y) ∧ h a = 0) ∨ ∃ q : Nat, q < 1024 ∧ nI a - y = nI q ∧ nI j * 1024 + nI a - y = nI (j * 1024 + q) ∧ h a = lw_bz (f (j * 1024 + q))
theorem cs_shY {f : Nat → Int32} {j : Nat} (hj : j < 4) {y : Int32} {h : Nat → Int32} (hh : cs_01 h) (hs : ∀ a, a < 1024 → cs_st f h j y a) (p : Int32 → SY → Prop)
    (hp : ∀ d, (∀ i, i < 1024 → d i = h i) → wpY_store (fun r u => match u with | (m, d) => p r (m, d)) (f, d) (nI j)) :
    ∀ (e a : Nat) (d : Nat → Int32), 1024 - a = e → a ≤ 1024 → (∀ i, i < a → d i = h i) → wY_shift_29 p (nI j) y (e + 1) (nI a) f d := by
  intro e
  induction e with
  | zero =>
    intro a d h1 h2 hd
    have g : (1024 : Int32) ≤ nI a := nI_le (a := 1024) (by omega) (by omega)
    have e : a = 1024 := by omega
    subst e
    exact br_t g (hp d hd)
  | succ e ih =>
    intro a d h1 h2 hd
    have g : ¬ (1024 : Int32) ≤ nI a := nI_ge (b := 1024) (by omega) (by omega)
    have ha : a < 1024 := by omega
    have hi : vp_in (nI a) 1024 := vp_in_nI ha (by omega)
    have hd' : ∀ v : Int32, h a = v → ∀ i, i < a + 1 → upd d (nI a).toNatClampNeg (vp_nar .boolean v) i = h i := by
      intro v ev i hi
      subst ev
      rw [nI_clamp (by omega), cs_nar (hh a)]
      by_cases e : i = a
      · subst e
        exact pk_us
      · rw [pk_un e]
        exact hd i (by omega)
    refine br_f g ?_
    rcases hs a ha with ⟨hb, h0⟩ | ⟨q, hq, e1, e2, e3⟩
    · exact cs_yY hb ⟨hi, nm_e (nm_r (nI_1 a) (ih (a + 1) _ (by omega) (by omega) (hd' 0 h0)))⟩
    · have hi2 : vp_in (nI j * 1024 + nI a - y) 4096 := by
        rw [e2]
        exact vp_in_nI (by omega) (by omega)
      have eg : f (nI j * 1024 + nI a - y).toNatClampNeg = f (j * 1024 + q) := by rw [e2, nI_clamp (by omega)]
      rw [e1]
      by_cases z : f (j * 1024 + q) = 0
      · exact cs_nY hq ⟨hi2, br_t (eg.trans z) ⟨hi, nm_e (nm_r (nI_1 a) (ih (a + 1) _ (by omega) (by omega) (hd' 0 (e3.trans (cs_bz0 z)))))⟩⟩
      · exact cs_nY hq ⟨hi2, br_f (fun x => z (eg.symm.trans x)) ⟨hi, nm_e (nm_r (nI_1 a) (ih (a + 1) _ (by omega) (by omega) (hd' 1 (e3.trans (cs_bz1 z)))))⟩⟩
theorem cs_stU (f : Nat → Int32) {j w : Nat} (hj : j < 4) (hw : w < 1024) : ∀ a, a < 1024 → cs_st f (cs_hU f (j * 1024) w) j (nI w) a := by
  intro a ha
  by_cases q : a < w
  · exact Or.inl ⟨Or.inl (pk_sneg (by omega) q), if_pos q⟩
  · refine Or.inr ⟨a - w, by omega, pk_sub (by omega), ?_, if_neg q⟩
    rw [cs_ix, pk_sub (by omega)]
    exact congrArg nI (by omega)
theorem cs_stD (f : Nat → Int32) {j w : Nat} (hj : j < 4) (hw : w < 1024) : ∀ a, a < 1024 → cs_st f (cs_hD f (j * 1024) w) j (-nI w) a := by
  intro a ha
  have e1 : nI a - -nI w = nI (a + w) := by rw [Int32.sub_neg, nI_add]
  by_cases q : 1024 ≤ a + w
  · refine Or.inl ⟨Or.inr ?_, if_pos q⟩
    rw [e1]
    exact nI_le q (by omega)
  · refine Or.inr ⟨a + w, by omega, e1, ?_, if_neg q⟩
    rw [cs_ix, Int32.sub_neg, nI_add]
    exact congrArg nI (by omega)
