/-! range: both sides store the same into the same cell -/
theorem cs_rng {j : Nat} (hj : j < 4) (how ends : Int32) {b : Nat} (hb : b ≤ 1024) (hE : (ends >>> ((11 : Int32) &&& 31)) &&& 2047 = nI b) : ∀ (e a : Nat) (f : Nat → Int32), cs_01 f → b - a = e → a ≤ 1024 →
    ∃ f' : Nat → Int32, cs_01 f' ∧ (∀ p : Int32 → SX → Prop, wpX_countAll (fun r => p r f') f' (nI j) → wX_range_40 p (nI j) how (nI b) (e + 1) (nI a) f) ∧
      (∀ (p : Int32 → SY → Prop) (d : Nat → Int32), wpY_size (fun r => p r (f', d)) (f', d) (nI j) → wY_range_37 p (nI j) ends how (e + 1) (nI a) f d) := by
  intro e
  induction e with
  | zero =>
    intro a f h01 h1 h2
    have h : nI b ≤ nI a := nI_le (by omega) (by omega)
    have hy : (ends >>> ((11 : Int32) &&& 31)) &&& 2047 ≤ nI a := by rw [hE]; exact h
    exact ⟨f, h01, fun p hp => br_t h hp, fun p d hp => br_t hy hp⟩
  | succ e ih =>
    intro a f h01 h1 h2
    have h : ¬ nI b ≤ nI a := nI_ge (by omega) (by omega)
    have hy : ¬ (ends >>> ((11 : Int32) &&& 31)) &&& 2047 ≤ nI a := by rw [hE]; exact h
    have hi : vp_in (nI j * 1024 + nI a) 4096 := cs_in hj (by omega)
    by_cases w0 : how = 0
    · obtain ⟨f', h', hX, hY⟩ := ih (a + 1) (upd f (nI j * 1024 + nI a).toNatClampNeg (vp_nar .boolean 1)) (cs_upd1 h01) (by omega) (by omega)
      exact ⟨f', h', fun p hp => br_f h (br_t w0 ⟨hi, nm_e (nm_r (nI_1 a) (hX p hp))⟩),
        fun p d hp => br_f hy (nm_e (br_t w0 ⟨hi, nm_e (nm_r (nI_1 a) (hY p d hp))⟩))⟩
    · by_cases w2 : how = 2
      · by_cases z : f (nI j * 1024 + nI a).toNatClampNeg = 0
        · obtain ⟨f', h', hX, hY⟩ := ih (a + 1) (upd f (nI j * 1024 + nI a).toNatClampNeg (vp_nar .boolean 1)) (cs_upd1 h01) (by omega) (by omega)
          exact ⟨f', h', fun p hp => br_f h (br_f w0 (br_t w2 ⟨hi, br_t z ⟨hi, nm_e (nm_r (nI_1 a) (hX p hp))⟩⟩)),
            fun p d hp => br_f hy (nm_e (br_f w0 (br_t w2 ⟨hi, br_t z ⟨hi, nm_e (nm_r (nI_1 a) (hY p d hp))⟩⟩)))⟩
        · obtain ⟨f', h', hX, hY⟩ := ih (a + 1) (upd f (nI j * 1024 + nI a).toNatClampNeg (vp_nar .boolean 0)) (cs_upd0 h01) (by omega) (by omega)
          exact ⟨f', h', fun p hp => br_f h (br_f w0 (br_t w2 ⟨hi, br_f z ⟨hi, nm_e (nm_r (nI_1 a) (hX p hp))⟩⟩)),
            fun p d hp => br_f hy (nm_e (br_f w0 (br_t w2 ⟨hi, br_f z ⟨hi, nm_e (nm_r (nI_1 a) (hY p d hp))⟩⟩)))⟩
      · obtain ⟨f', h', hX, hY⟩ := ih (a + 1) (upd f (nI j * 1024 + nI a).toNatClampNeg (vp_nar .boolean 0)) (cs_upd0 h01) (by omega) (by omega)
        exact ⟨f', h', fun p hp => br_f h (br_f w0 (br_f w2 ⟨hi, nm_e (nm_r (nI_1 a) (hX p hp))⟩)),
          fun p d hp => br_f hy (nm_e (br_f w0 (br_f w2 ⟨hi, nm_e (nm_r (nI_1 a) (hY p d hp))⟩)))⟩
/-! clear -/
theorem cs_clr {j : Nat} (hj : j < 4) {x : Int32} (hx : ¬ x < 0) : ∀ (e a : Nat) (f : Nat → Int32), cs_01 f → 1024 - a = e → a ≤ 1024 →
    ∃ f' : Nat → Int32, cs_01 f' ∧ (∀ p : Int32 → SX → Prop, p x f' → wX_clear_17 p (nI j) x (e + 1) (nI a) f) ∧
      (∀ (p : Int32 → SY → Prop) (d : Nat → Int32), p x (f', d) → wY_clear_8 p (nI j) x (e + 1) (nI a) f d) := by
  intro e
  induction e with
  | zero =>
    intro a f h01 h1 h2
    have h : (1024 : Int32) ≤ nI a := nI_le (a := 1024) (by omega) (by omega)
    exact ⟨f, h01, fun p hp => br_t h hp, fun p d hp => br_t h hp⟩
  | succ e ih =>
    intro a f h01 h1 h2
    have h : ¬ (1024 : Int32) ≤ nI a := nI_ge (b := 1024) (by omega) (by omega)
    have hi : vp_in (nI j * 1024 + nI a) 4096 := cs_in hj (by omega)
    obtain ⟨f', h', hX, hY⟩ := ih (a + 1) (upd f (nI j * 1024 + nI a).toNatClampNeg (vp_nar .boolean 0)) (cs_upd0 h01) (by omega) (by omega)
    exact ⟨f', h', fun p hp => br_f h ⟨hi, nm_e (nm_r (nI_1 a) (hX p hp))⟩,
      fun p d hp => br_f h (br_f hx ⟨hi, nm_e (nm_r (nI_1 a) (hY p d hp))⟩)⟩
/-! a stretch of a set that holds what h says, the rest as in f -/
def cs_mid (f h : Nat → Int32) (b lo hi : Nat) : Nat → Int32 := fun i => if b + lo ≤ i ∧ i < b + hi then h (i - b) else f i
theorem cs_mid0 (f h : Nat → Int32) (b lo : Nat) : cs_mid f h b lo lo = f := by
  funext i
  exact if_neg (by omega)
theorem cs_midN {f h : Nat → Int32} {b lo hi i : Nat} (n : ¬ (b + lo ≤ i ∧ i < b + hi)) : cs_mid f h b lo hi i = f i := if_neg n
theorem cs_midU (f h : Nat → Int32) {b lo hi : Nat} (g : lo ≤ hi) : upd (cs_mid f h b lo hi) (b + hi) (h hi) = cs_mid f h b lo (hi + 1) := by
  funext i
  unfold upd cs_mid
  by_cases e : i = b + hi
  · subst e
    rw [if_pos rfl, if_pos (by omega), Nat.add_sub_cancel_left]
  · rw [if_neg e]
    by_cases n : b + lo ≤ i ∧ i < b + hi
    · rw [if_pos n, if_pos (by omega)]
    · rw [if_neg n, if_neg (by omega)]
theorem cs_midD (f h : Nat → Int32) {b lo hi : Nat} (g : lo < hi) : upd (cs_mid f h b (lo + 1) hi) (b + lo) (h lo) = cs_mid f h b lo hi := by
  funext i
  unfold upd cs_mid
  by_cases e : i = b + lo
  · subst e
    rw [if_pos rfl, if_pos (by omega), Nat.add_sub_cancel_left]
  · rw [if_neg e]
    by_cases n : b + (lo + 1) ≤ i ∧ i < b + hi
    · rw [if_pos n, if_pos (by omega)]
    · rw [if_neg n, if_neg (by omega)]
theorem cs_mid01 {f h : Nat → Int32} (hf : cs_01 f) (hh : cs_01 h) (b lo hi : Nat) : cs_01 (cs_mid f h b lo hi) := by
  intro i
  unfold cs_mid
  split
  · exact hh _
  · exact hf _
/-! the reference's store -/
theorem cs_sto {f h d : Nat → Int32} (hh : cs_01 h) (hd : ∀ i, i < 1024 → d i = h i) {j : Nat} (hj : j < 4) : ∀ e a : Nat, 1024 - a = e → a ≤ 1024 →
    ∀ p : Int32 → SY → Prop, wpY_size (fun r => p r (cs_mid f h (j * 1024) 0 1024, d)) (cs_mid f h (j * 1024) 0 1024, d) (nI j) → wY_store_2 p (nI j) (e + 1) (nI a) (cs_mid f h (j * 1024) 0 a) d := by
  intro e
  induction e with
  | zero =>
    intro a h1 h2 p hp
    have g : (1024 : Int32) ≤ nI a := nI_le (a := 1024) (by omega) (by omega)
    have e : a = 1024 := by omega
    subst e
    exact br_t g hp
  | succ e ih =>
    intro a h1 h2 p hp
    have g : ¬ (1024 : Int32) ≤ nI a := nI_ge (b := 1024) (by omega) (by omega)
    have ha : a < 1024 := by omega
    have hu : upd (cs_mid f h (j * 1024) 0 a) (nI j * 1024 + nI a).toNatClampNeg (vp_nar .boolean (d (nI a).toNatClampNeg)) = cs_mid f h (j * 1024) 0 (a + 1) := by
      rw [cs_cl hj ha, nI_clamp (by omega), hd a ha, cs_nar (hh a), cs_midU f h (Nat.zero_le a)]
    exact br_f g ⟨vp_in_nI ha (by omega), cs_in hj ha, nm_r hu (nm_r (nI_1 a) (ih (a + 1) (by omega) (by omega) p hp))⟩
theorem cs_store {f h d : Nat → Int32} (hh : cs_01 h) (hd : ∀ i, i < 1024 → d i = h i) {j : Nat} (hj : j < 4) (p : Int32 → SY → Prop)
    (hp : wpY_size (fun r => p r (cs_mid f h (j * 1024) 0 1024, d)) (cs_mid f h (j * 1024) 0 1024, d) (nI j)) : wpY_store p (f, d) (nI j) := by
  have t := cs_sto (f := f) hh hd hj 1024 0 rfl (by omega) p hp
  rw [cs_mid0] at t
  exact ⟨1025, t⟩
/-! combine -/
def cs_J (how a b : Int32) : Int32 :=
  if how = 0 then (if a = 0 then (if b = 0 then 0 else 1) else 1) else
  if how = 1 then (if a = 0 then 0 else (if b = 0 then 0 else 1)) else
  if how = 2 then (if a = 0 then 0 else (if b = 0 then 1 else 0)) else
  (if a = b then 0 else 1)
theorem cs_J01 (how a b : Int32) : cs_J how a b = 0 ∨ cs_J how a b = 1 := by
  unfold cs_J
  repeat' split
  all_goals first | exact Or.inl rfl | exact Or.inr rfl
theorem cs_jY {T : Int32 → Prop} {how a b : Int32} (k : T (cs_J how a b)) :
    (how = 0 → ((a = 0 → ((b = 0 → T 0) ∧ (¬ b = 0 → T 1))) ∧ (¬ a = 0 → T 1))) ∧
    (¬ how = 0 → ((how = 1 → ((a = 0 → T 0) ∧ (¬ a = 0 → ((b = 0 → T 0) ∧ (¬ b = 0 → T 1))))) ∧
      (¬ how = 1 → ((how = 2 → ((a = 0 → T 0) ∧ (¬ a = 0 → ((b = 0 → T 1) ∧ (¬ b = 0 → T 0))))) ∧
        (¬ how = 2 → ((a = b → T 0) ∧ (¬ a = b → T 1))))))) := by
  unfold cs_J at k
  refine ⟨fun w0 => ?_, fun w0 => ⟨fun w1 => ?_, fun w1 => ⟨fun w2 => ?_, fun w2 => ?_⟩⟩⟩
  · rw [if_pos w0] at k
    refine ⟨fun ha => ⟨fun hb => ?_, fun hb => ?_⟩, fun ha => ?_⟩
    · rw [if_pos ha, if_pos hb] at k; exact k
    · rw [if_pos ha, if_neg hb] at k; exact k
    · rw [if_neg ha] at k; exact k
  · rw [if_neg w0, if_pos w1] at k
    refine ⟨fun ha => ?_, fun ha => ⟨fun hb => ?_, fun hb => ?_⟩⟩
    · rw [if_pos ha] at k; exact k
    · rw [if_neg ha, if_pos hb] at k; exact k
    · rw [if_neg ha, if_neg hb] at k; exact k
  · rw [if_neg w0, if_neg w1, if_pos w2] at k
    refine ⟨fun ha => ?_, fun ha => ⟨fun hb => ?_, fun hb => ?_⟩⟩
    · rw [if_pos ha] at k; exact k
    · rw [if_neg ha, if_pos hb] at k; exact k
    · rw [if_neg ha, if_neg hb] at k; exact k
  · rw [if_neg w0, if_neg w1, if_neg w2] at k
    refine ⟨fun ha => ?_, fun ha => ?_⟩
    · rw [if_pos ha] at k; exact k
    · rw [if_neg ha] at k; exact k
theorem cs_jX {how a b : Int32} {p : Int32 → Prop} (h0 : ¬ how < 0) (h3 : how ≤ 3) (k : p (cs_J how a b)) : wpX_joined p a b how := by
  have t := cs_jY k
  refine br_f h0 (br_c (fun h2 => ?_) (fun h2 => br_c t.1 fun w0 => br_c (t.2 w0).1 fun w1 => br_c ((t.2 w0).2 w1).1 fun _ => trivial))
  have w0 : ¬ how = 0 := fun e => by rw [e] at h2; exact absurd h2 (by decide)
  have w1 : ¬ how = 1 := fun e => by rw [e] at h2; exact absurd h2 (by decide)
  have w2 : ¬ how = 2 := fun e => by rw [e] at h2; exact absurd h2 (by decide)
  exact ((t.2 w0).2 w1).2 w2
theorem cs_cmX {f : Nat → Int32} {to s t : Nat} (hto : to < 4) (hs : s < 4) (ht : t < 4) {how : Int32} (h0 : ¬ how < 0) (h3 : how ≤ 3) {h : Nat → Int32} (hh : ∀ x, h x = cs_J how (f (s * 1024 + x)) (f (t * 1024 + x))) :
    ∀ e a : Nat, 1024 - a = e → a ≤ 1024 → ∀ p : Int32 → SX → Prop, wpX_countAll (fun r => p r (cs_mid f h (to * 1024) 0 1024)) (cs_mid f h (to * 1024) 0 1024) (nI to) →
      wX_combine_40 p (nI to) (nI s) (nI t) how (e + 1) (nI a) (cs_mid f h (to * 1024) 0 a) := by
  intro e
  induction e with
  | zero =>
    intro a h1 h2 p hp
    have g : (1024 : Int32) ≤ nI a := nI_le (a := 1024) (by omega) (by omega)
    have e : a = 1024 := by omega
    subst e
    exact br_t g hp
  | succ e ih =>
    intro a h1 h2 p hp
    have g : ¬ (1024 : Int32) ≤ nI a := nI_ge (b := 1024) (by omega) (by omega)
    have ha : a < 1024 := by omega
    have es : cs_mid f h (to * 1024) 0 a (nI s * 1024 + nI a).toNatClampNeg = f (s * 1024 + a) := by
      rw [cs_cl hs ha]
      exact cs_midN (by omega)
    have et : cs_mid f h (to * 1024) 0 a (nI t * 1024 + nI a).toNatClampNeg = f (t * 1024 + a) := by
      rw [cs_cl ht ha]
      exact cs_midN (by omega)
    have hu : upd (cs_mid f h (to * 1024) 0 a) (nI to * 1024 + nI a).toNatClampNeg (vp_nar .boolean (cs_J how (f (s * 1024 + a)) (f (t * 1024 + a)))) = cs_mid f h (to * 1024) 0 (a + 1) := by
      rw [cs_cl hto ha, cs_nar (cs_J01 _ _ _), ← hh a, cs_midU f h (Nat.zero_le a)]
    refine br_f g ⟨cs_in hs ha, nm_r es ⟨cs_in ht ha, nm_r et ?_⟩⟩
    unfold wpX_cellOf
    exact cs_jX h0 h3 ⟨cs_in hto ha, nm_r hu (nm_r (nI_1 a) (ih (a + 1) (by omega) (by omega) p hp))⟩
theorem cs_cmY {f : Nat → Int32} {to s t : Nat} (hs : s < 4) (ht : t < 4) {how : Int32} {h : Nat → Int32} (hh : ∀ x, h x = cs_J how (f (s * 1024 + x)) (f (t * 1024 + x))) (p : Int32 → SY → Prop)
    (hp : ∀ d, (∀ i, i < 1024 → d i = h i) → wpY_store (fun r u => match u with | (m, d) => p r (m, d)) (f, d) (nI to)) :
    ∀ (e a : Nat) (d : Nat → Int32), 1024 - a = e → a ≤ 1024 → (∀ i, i < a → d i = h i) → wY_combine_43 p (nI to) (nI s) (nI t) how (e + 1) (nI a) f d := by
  intro e
  induction e with
  | zero =>
    intro a d h1 h2 hd
    have g : (1024 : Int32) ≤ nI a := nI_le (a := 1024) (by omega) (by omega)
    have e : a = 1024 := by omega
    subst e
    exact br_t g (hp d hd)
  | succ e ih =>
    intro a d h1 h2 hd
    have g : ¬ (1024 : Int32) ≤ nI a := nI_ge (b := 1024) (by omega) (by omega)
    have ha : a < 1024 := by omega
    have es : f (nI s * 1024 + nI a).toNatClampNeg = f (s * 1024 + a) := by rw [cs_cl hs ha]
    have et : f (nI t * 1024 + nI a).toNatClampNeg = f (t * 1024 + a) := by rw [cs_cl ht ha]
    have hd' : ∀ i, i < a + 1 → upd d (nI a).toNatClampNeg (vp_nar .boolean (cs_J how (f (s * 1024 + a)) (f (t * 1024 + a)))) i = h i := by
      intro i hi
      rw [nI_clamp (by omega), cs_nar (cs_J01 _ _ _), ← hh a]
      by_cases e : i = a
      · subst e
        exact pk_us
      · rw [pk_un e]
        exact hd i (by omega)
    exact br_f g ⟨cs_in hs ha, nm_r es ⟨cs_in ht ha, nm_r et (cs_jY (T := fun v => vp_in (nI a) 1024 ∧ ∀ m' : Nat → Int32, m' = upd d (nI a).toNatClampNeg (vp_nar .boolean v) → ∀ x' : Int32, x' = nI a + 1 → wY_combine_43 p (nI to) (nI s) (nI t) how (e + 1) x' f m')
      ⟨vp_in_nI ha (by omega), nm_e (nm_r (nI_1 a) (ih (a + 1) _ (by omega) (by omega) hd'))⟩)⟩⟩
