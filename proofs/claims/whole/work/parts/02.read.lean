/-! the reading loops, class and reference in step: one answer serves both -/
theorem cs_cnt (f : Nat → Int32) {j : Nat} (hj : j < 4) {b : Nat} (hb : b ≤ 1024) : ∀ e a c : Nat, b - a = e → a ≤ 1024 →
    ∃ r : Nat, r ≤ c + e ∧ (∀ p : Int32 → Prop, p (nI r) → wX_countBetween_6 p (nI j) (nI b) f (e + 1) (nI c) (nI a)) ∧
      (∀ (p : Int32 → Prop) (d : Nat → Int32), p (nI r) → wY_count_6 p (nI j) (nI b) f d (e + 1) (nI c) (nI a)) := by
  intro e
  induction e with
  | zero =>
    intro a c h1 h2
    have h : nI b ≤ nI a := nI_le (by omega) (by omega)
    exact ⟨c, by omega, fun p hp => br_t h hp, fun p d hp => br_t h hp⟩
  | succ e ih =>
    intro a c h1 h2
    have h : ¬ nI b ≤ nI a := nI_ge (by omega) (by omega)
    have hi : vp_in (nI j * 1024 + nI a) 4096 := cs_in hj (by omega)
    by_cases z : f (nI j * 1024 + nI a).toNatClampNeg = 0
    · obtain ⟨r, hr, hX, hY⟩ := ih (a + 1) c (by omega) (by omega)
      exact ⟨r, by omega, fun p hp => br_f h ⟨hi, br_t z (nm_r (nI_1 a) (hX p hp))⟩,
        fun p d hp => br_f h ⟨hi, br_t z (nm_r (nI_1 a) (hY p d hp))⟩⟩
    · obtain ⟨r, hr, hX, hY⟩ := ih (a + 1) (c + 1) (by omega) (by omega)
      exact ⟨r, by omega, fun p hp => br_f h ⟨hi, br_f z (nm_r (nI_1 c) (nm_r (nI_1 a) (hX p hp)))⟩,
        fun p d hp => br_f h ⟨hi, br_f z (nm_r (nI_1 c) (nm_r (nI_1 a) (hY p d hp)))⟩⟩
theorem cs_btw (f : Nat → Int32) {j : Nat} (hj : j < 4) {a b : Nat} (ha : a ≤ 1024) (hb : b ≤ 1024) :
    ∃ r : Nat, r ≤ 1024 ∧ (∀ p : Int32 → Prop, p (nI r) → wpX_countBetween p f (nI j) (nI a) (nI b)) ∧
      (∀ (p : Int32 → Prop) (d : Nat → Int32), p (nI r) → wpY_count p (f, d) (nI j) (nI a) (nI b)) := by
  obtain ⟨r, hr, hX, hY⟩ := cs_cnt f hj hb (b - a) a 0 rfl ha
  exact ⟨r, by omega, fun p hp => ⟨_, hX p hp⟩, fun p d hp => ⟨_, hY p d hp⟩⟩
theorem cs_all (f : Nat → Int32) {j : Nat} (hj : j < 4) :
    ∃ r : Nat, r ≤ 1024 ∧ (∀ p : Int32 → Prop, p (nI r) → wpX_countAll p f (nI j)) ∧
      (∀ (p : Int32 → Prop) (d : Nat → Int32), p (nI r) → wpY_size p (f, d) (nI j)) := by
  obtain ⟨r, hr, hX, hY⟩ := cs_btw f hj (a := 0) (b := 1024) (by omega) (by omega)
  refine ⟨r, hr, fun p hp => ?_, fun p d hp => ?_⟩
  · unfold wpX_countAll
    exact hX _ hp
  · unfold wpY_size
    exact cs_sY hj (hY _ d hp)
theorem cs_com (f : Nat → Int32) {j t : Nat} (hj : j < 4) (ht : t < 4) : ∀ e a c : Nat, 1024 - a = e → a ≤ 1024 →
    ∃ r : Int32, (∀ p : Int32 → Prop, p r → wX_countCommon_5 p (nI j) (nI t) f (e + 1) (nI c) (nI a)) ∧
      (∀ (p : Int32 → Prop) (d : Nat → Int32), p r → wY_common_23 p (nI j) (nI t) f d (e + 1) (nI c) (nI a)) := by
  intro e
  induction e with
  | zero =>
    intro a c h1 h2
    have h : (1024 : Int32) ≤ nI a := nI_le (a := 1024) (by omega) (by omega)
    exact ⟨nI c, fun p hp => br_t h hp, fun p d hp => br_t h hp⟩
  | succ e ih =>
    intro a c h1 h2
    have h : ¬ (1024 : Int32) ≤ nI a := nI_ge (b := 1024) (by omega) (by omega)
    have hi : vp_in (nI j * 1024 + nI a) 4096 := cs_in hj (by omega)
    have hi2 : vp_in (nI t * 1024 + nI a) 4096 := cs_in ht (by omega)
    by_cases z : f (nI j * 1024 + nI a).toNatClampNeg = 0
    · obtain ⟨r, hX, hY⟩ := ih (a + 1) c (by omega) (by omega)
      exact ⟨r, fun p hp => br_f h ⟨hi, br_t z (nm_r (nI_1 a) (hX p hp))⟩,
        fun p d hp => br_f h ⟨hi, br_t z (nm_r (nI_1 a) (hY p d hp))⟩⟩
    · by_cases y : f (nI t * 1024 + nI a).toNatClampNeg = 0
      · obtain ⟨r, hX, hY⟩ := ih (a + 1) c (by omega) (by omega)
        exact ⟨r, fun p hp => br_f h ⟨hi, br_f z ⟨hi2, br_t y (nm_r (nI_1 a) (hX p hp))⟩⟩,
          fun p d hp => br_f h ⟨hi, br_f z ⟨hi2, br_t y (nm_r (nI_1 a) (hY p d hp))⟩⟩⟩
      · obtain ⟨r, hX, hY⟩ := ih (a + 1) (c + 1) (by omega) (by omega)
        exact ⟨r, fun p hp => br_f h ⟨hi, br_f z ⟨hi2, br_f y (nm_r (nI_1 c) (nm_r (nI_1 a) (hX p hp)))⟩⟩,
          fun p d hp => br_f h ⟨hi, br_f z ⟨hi2, br_f y (nm_r (nI_1 c) (nm_r (nI_1 a) (hY p d hp)))⟩⟩⟩
theorem cs_nxt (f : Nat → Int32) {j : Nat} (hj : j < 4) : ∀ e a : Nat, 1024 - a = e → a ≤ 1024 →
    ∃ r : Int32, (∀ p : Int32 → Prop, p r → wX_next_21 p (nI j) f (e + 1) (nI a)) ∧
      (∀ (p : Int32 → Prop) (d : Nat → Int32), p r → wY_next_23 p (nI j) f d (e + 1) (nI a)) := by
  intro e
  induction e with
  | zero =>
    intro a h1 h2
    have h : (1024 : Int32) ≤ nI a := nI_le (a := 1024) (by omega) (by omega)
    exact ⟨-3, fun p hp => br_t h hp, fun p d hp => br_t h hp⟩
  | succ e ih =>
    intro a h1 h2
    have h : ¬ (1024 : Int32) ≤ nI a := nI_ge (b := 1024) (by omega) (by omega)
    have hi : vp_in (nI j * 1024 + nI a) 4096 := cs_in hj (by omega)
    by_cases z : f (nI j * 1024 + nI a).toNatClampNeg = 0
    · obtain ⟨r, hX, hY⟩ := ih (a + 1) (by omega) (by omega)
      exact ⟨r, fun p hp => br_f h ⟨hi, br_t z (nm_r (nI_1 a) (hX p hp))⟩,
        fun p d hp => br_f h ⟨hi, br_t z (nm_r (nI_1 a) (hY p d hp))⟩⟩
    · exact ⟨nI a, fun p hp => br_f h ⟨hi, br_f z hp⟩, fun p d hp => br_f h ⟨hi, br_f z hp⟩⟩
/-! select: the class counts up to k, the reference from k down -/
theorem cs_selN (f : Nat → Int32) {j : Nat} (hj : j < 4) {k : Int32} (hk : k < 0) : ∀ e a c : Nat, 1024 - a = e → a ≤ 1024 → c ≤ a →
    ∀ p : Int32 → Prop, p (-3) → wX_select_14 p (nI j) k f (e + 1) (nI c) (nI a) := by
  intro e
  induction e with
  | zero =>
    intro a c h1 h2 h3 p hp
    have h : (1024 : Int32) ≤ nI a := nI_le (a := 1024) (by omega) (by omega)
    exact br_t h hp
  | succ e ih =>
    intro a c h1 h2 h3 p hp
    have h : ¬ (1024 : Int32) ≤ nI a := nI_ge (b := 1024) (by omega) (by omega)
    have hi : vp_in (nI j * 1024 + nI a) 4096 := cs_in hj (by omega)
    have hne : ¬ nI c = k := by
      intro g
      rw [← g] at hk
      exact nI_pos (by omega) hk
    by_cases z : f (nI j * 1024 + nI a).toNatClampNeg = 0
    · exact br_f h ⟨hi, br_t z (nm_r (nI_1 a) (ih (a + 1) c (by omega) (by omega) (by omega) p hp))⟩
    · exact br_f h ⟨hi, br_f z (br_f hne (nm_r (nI_1 c) (nm_r (nI_1 a) (ih (a + 1) (c + 1) (by omega) (by omega) (by omega) p hp))))⟩
theorem cs_selP (f : Nat → Int32) {j : Nat} (hj : j < 4) {q : Nat} (hq : q < 2 ^ 31) : ∀ e a c l : Nat, 1024 - a = e → a ≤ 1024 → c + l = q → c ≤ a →
    ∃ r : Int32, (∀ p : Int32 → Prop, p r → wX_select_14 p (nI j) (nI q) f (e + 1) (nI c) (nI a)) ∧
      (∀ (p : Int32 → Prop) (d : Nat → Int32), p r → wY_select_15 p (nI j) (nI q) f d (e + 1) (nI l) (nI a)) := by
  intro e
  induction e with
  | zero =>
    intro a c l h1 h2 h3 h4
    have h : (1024 : Int32) ≤ nI a := nI_le (a := 1024) (by omega) (by omega)
    exact ⟨-3, fun p hp => br_t h hp, fun p d hp => br_t h hp⟩
  | succ e ih =>
    intro a c l h1 h2 h3 h4
    have h : ¬ (1024 : Int32) ≤ nI a := nI_ge (b := 1024) (by omega) (by omega)
    have hi : vp_in (nI j * 1024 + nI a) 4096 := cs_in hj (by omega)
    have hp0 : ¬ nI q < 0 := nI_pos hq
    by_cases z : f (nI j * 1024 + nI a).toNatClampNeg = 0
    · obtain ⟨r, hX, hY⟩ := ih (a + 1) c l (by omega) (by omega) h3 (by omega)
      exact ⟨r, fun p hp => br_f h ⟨hi, br_t z (nm_r (nI_1 a) (hX p hp))⟩,
        fun p d hp => br_f h (br_f hp0 ⟨hi, br_t z (nm_r (nI_1 a) (hY p d hp))⟩)⟩
    · cases l with
      | zero =>
        have g : nI c = nI q := by rw [show c = q by omega]
        exact ⟨nI a, fun p hp => br_f h ⟨hi, br_f z (br_t g hp)⟩,
          fun p d hp => br_f h (br_f hp0 ⟨hi, br_f z (br_t nI_0 hp)⟩)⟩
      | succ l =>
        have g : ¬ nI c = nI q := by
          rw [nI_eq (by omega) hq]
          omega
        have g2 : ¬ nI (l + 1) = 0 := nI_ne0 (by omega) (by omega)
        obtain ⟨r, hX, hY⟩ := ih (a + 1) (c + 1) l (by omega) (by omega) (by omega) (by omega)
        exact ⟨r, fun p hp => br_f h ⟨hi, br_f z (br_f g (nm_r (nI_1 c) (nm_r (nI_1 a) (hX p hp))))⟩,
          fun p d hp => br_f h (br_f hp0 ⟨hi, br_f z (br_f g2 (nm_r (pk_m1 l) (nm_r (nI_1 a) (hY p d hp))))⟩)⟩
/-! ranges: the class keeps the cell before, the reference asks has -/
theorem cs_has0 {f d : Nat → Int32} {j x : Nat} (hj : j < 4) (hx : x < 1024) (z : f (nI j * 1024 + nI x).toNatClampNeg = 0) {p : Int32 → Prop} (hp : p 0) : wpY_has p (f, d) (nI j) (nI x) := by
  unfold wpY_has
  exact cs_sY hj (cs_nY hx ⟨cs_in hj hx, br_t z hp⟩)
theorem cs_has1 {f d : Nat → Int32} {j x : Nat} (hj : j < 4) (hx : x < 1024) (z : ¬ f (nI j * 1024 + nI x).toNatClampNeg = 0) {p : Int32 → Prop} (hp : p 1) : wpY_has p (f, d) (nI j) (nI x) := by
  unfold wpY_has
  exact cs_sY hj (cs_nY hx ⟨cs_in hj hx, br_f z hp⟩)
theorem cs_hasB {f d : Nat → Int32} {j : Nat} (hj : j < 4) {x : Int32} (hx : cs_bad 1024 x) {p : Int32 → Prop} (hp : p 0) : wpY_has p (f, d) (nI j) x := by
  unfold wpY_has
  exact cs_sY hj (cs_yY hx hp)
def cs_bef (f : Nat → Int32) (j a : Nat) (w : Int32) : Prop := (a = 0 ∧ w = 0) ∨ ∃ b : Nat, a = b + 1 ∧ w = f (nI j * 1024 + nI b).toNatClampNeg
theorem cs_prev0 {f d : Nat → Int32} {j a : Nat} (hj : j < 4) (ha : a < 1024) {w : Int32} (hw : cs_bef f j a w) (z : w = 0) {p : Int32 → Prop} (hp : p 0) : wpY_has p (f, d) (nI j) (nI a - 1) := by
  rcases hw with ⟨rfl, _⟩ | ⟨b, rfl, rfl⟩
  · exact cs_hasB hj (Or.inl (by decide +kernel)) hp
  · rw [nI_pred]
    exact cs_has0 hj (by omega) z hp
theorem cs_prev1 {f d : Nat → Int32} {j a : Nat} (hj : j < 4) (ha : a < 1024) {w : Int32} (hw : cs_bef f j a w) (z : ¬ w = 0) {p : Int32 → Prop} (hp : p 1) : wpY_has p (f, d) (nI j) (nI a - 1) := by
  rcases hw with ⟨_, e⟩ | ⟨b, rfl, rfl⟩
  · exact absurd e z
  · rw [nI_pred]
    exact cs_has1 hj (by omega) z hp
theorem cs_rgs (f : Nat → Int32) {j : Nat} (hj : j < 4) : ∀ (e a c : Nat) (w : Int32), 1024 - a = e → a ≤ 1024 → cs_bef f j a w →
    ∃ r : Int32, (∀ p : Int32 → Prop, p r → wX_ranges_16 p (nI j) f (e + 1) (nI c) w (nI a)) ∧
      (∀ (p : Int32 → Prop) (d : Nat → Int32), p r → wY_ranges_14 p (nI j) f d (e + 1) (nI c) (nI a)) := by
  intro e
  induction e with
  | zero =>
    intro a c w h1 h2 hw
    have h : (1024 : Int32) ≤ nI a := nI_le (a := 1024) (by omega) (by omega)
    exact ⟨nI c, fun p hp => br_t h hp, fun p d hp => br_t h hp⟩
  | succ e ih =>
    intro a c w h1 h2 hw
    have h : ¬ (1024 : Int32) ≤ nI a := nI_ge (b := 1024) (by omega) (by omega)
    have ha : a < 1024 := by omega
    have hi : vp_in (nI j * 1024 + nI a) 4096 := cs_in hj ha
    have hb : cs_bef f j (a + 1) (f (nI j * 1024 + nI a).toNatClampNeg) := Or.inr ⟨a, rfl, rfl⟩
    by_cases z : f (nI j * 1024 + nI a).toNatClampNeg = 0
    · obtain ⟨r, hX, hY⟩ := ih (a + 1) c _ (by omega) (by omega) hb
      exact ⟨r, fun p hp => br_f h ⟨hi, nm_e (br_t z (nm_r (nI_1 a) (hX p hp)))⟩,
        fun p d hp => br_f h (cs_has0 hj ha z (br_t rfl (nm_r (nI_1 a) (hY p d hp))))⟩
    · by_cases y : w = 0
      · obtain ⟨r, hX, hY⟩ := ih (a + 1) (c + 1) _ (by omega) (by omega) hb
        exact ⟨r, fun p hp => br_f h ⟨hi, nm_e (br_f z (br_t y (nm_r (nI_1 c) (nm_r (nI_1 a) (hX p hp)))))⟩,
          fun p d hp => br_f h (cs_has1 hj ha z (br_f cs_10 (cs_prev0 hj ha hw y (br_t rfl (nm_r (nI_1 c) (nm_r (nI_1 a) (hY p d hp)))))))⟩
      · obtain ⟨r, hX, hY⟩ := ih (a + 1) c _ (by omega) (by omega) hb
        exact ⟨r, fun p hp => br_f h ⟨hi, nm_e (br_f z (br_f y (nm_r (nI_1 a) (hX p hp))))⟩,
          fun p d hp => br_f h (cs_has1 hj ha z (br_f cs_10 (cs_prev1 hj ha hw y (br_f cs_10 (nm_r (nI_1 a) (hY p d hp))))))⟩
