/-! the numbers that shift takes -/
theorem cs_negT {w : Nat} (h : w < 2 ^ 31) : (-nI w).toInt = -(w : Int) := by
  rw [Int32.toInt_neg, nI_toInt h]
  exact Int.bmod_eq_of_le (by omega) (by omega)
theorem cs_lo {x : Int32} : x ≤ -1024 ↔ x < -1023 := by
  rw [Int32.le_iff_toInt_le, Int32.lt_iff_toInt_lt, show (-1024 : Int32).toInt = -1024 from by decide, show (-1023 : Int32).toInt = -1023 from by decide]
  omega
theorem cs_hi {x : Int32} : x < 1024 ↔ x ≤ 1023 := by
  rw [Int32.le_iff_toInt_le, Int32.lt_iff_toInt_lt, show (1024 : Int32).toInt = 1024 from by decide, show (1023 : Int32).toInt = 1023 from by decide]
  omega
theorem cs_neg {x : Int32} (h : ¬ x ≤ -1024) (h0 : x ≤ 0) : ∃ w : Nat, w < 1024 ∧ x = -nI w := by
  rw [Int32.le_iff_toInt_le, show (-1024 : Int32).toInt = -1024 from by decide] at h
  rw [Int32.le_iff_toInt_le, show (0 : Int32).toInt = 0 from by decide] at h0
  refine ⟨(-x.toInt).toNat, by omega, ?_⟩
  apply Int32.toInt_inj.mp
  rw [cs_negT (by omega)]
  omega
theorem cs_posi {x : Int32} (h : x < 1024) (h0 : ¬ x ≤ 0) : ∃ w : Nat, w < 1024 ∧ x = nI w := by
  rw [Int32.lt_iff_toInt_lt, show (1024 : Int32).toInt = 1024 from by decide] at h
  rw [Int32.le_iff_toInt_le, show (0 : Int32).toInt = 0 from by decide] at h0
  refine ⟨x.toInt.toNat, by omega, ?_⟩
  apply Int32.toInt_inj.mp
  rw [nI_toInt (by omega)]
  omega
theorem i_vc_add {k : Nat} {u : SX} {v : SY} (I : i_Rel k u v) (hk : k + 5 ≤ 2560) (v1 : Int32) (v2 : Int32) : wpX_add (fun r u' => wpY_add (fun r' v' => r' = r ∧ i_Rel (k + 5) u' v') v v1 v2) u v1 v2 := by
  obtain ⟨m, d⟩ := v
  obtain ⟨e, h01⟩ := I
  have e : u = m := e
  subst e
  unfold wpX_add wpY_add wpY_put
  dsimp only
  rcases cs_case 4 (by decide) v1 with hb | ⟨j, hj, rfl⟩
  · exact cs_xX hb (cs_xY hb ⟨rfl, rfl, h01⟩)
  · rcases cs_case 1024 (by decide) v2 with hb | ⟨x, hx, rfl⟩
    · exact cs_sX hj (cs_yX hb (cs_sY hj (cs_yY hb ⟨rfl, rfl, h01⟩)))
    · have hi := cs_in hj hx
      rcases h01 (nI j * 1024 + nI x).toNatClampNeg with z | z
      · exact cs_sX hj (cs_nX hx ⟨hi, br_t z ⟨hi, nm_e (cs_sY hj (cs_nY hx ⟨hi, nm_r z ⟨hi, nm_e (br_f (by decide) ⟨rfl, rfl, cs_upd1 h01⟩)⟩⟩))⟩⟩)
      · have z' : ¬ u (nI j * 1024 + nI x).toNatClampNeg = 0 := by rw [z]; decide
        exact cs_sX hj (cs_nX hx ⟨hi, br_f z' ⟨hi, nm_e (cs_sY hj (cs_nY hx ⟨hi, nm_r z ⟨hi, nm_e (br_t rfl ⟨rfl, rfl, cs_upd1 h01⟩)⟩⟩))⟩⟩)
theorem i_vc_remove {k : Nat} {u : SX} {v : SY} (I : i_Rel k u v) (hk : k + 5 ≤ 2560) (v1 : Int32) (v2 : Int32) : wpX_remove (fun r u' => wpY_remove (fun r' v' => r' = r ∧ i_Rel (k + 5) u' v') v v1 v2) u v1 v2 := by
  obtain ⟨m, d⟩ := v
  obtain ⟨e, h01⟩ := I
  have e : u = m := e
  subst e
  unfold wpX_remove wpY_remove wpY_put
  dsimp only
  rcases cs_case 4 (by decide) v1 with hb | ⟨j, hj, rfl⟩
  · exact cs_xX hb (cs_xY hb ⟨rfl, rfl, h01⟩)
  · rcases cs_case 1024 (by decide) v2 with hb | ⟨x, hx, rfl⟩
    · exact cs_sX hj (cs_yX hb (cs_sY hj (cs_yY hb ⟨rfl, rfl, h01⟩)))
    · have hi := cs_in hj hx
      rcases h01 (nI j * 1024 + nI x).toNatClampNeg with z | z
      · exact cs_sX hj (cs_nX hx ⟨hi, br_t z ⟨hi, nm_e (cs_sY hj (cs_nY hx ⟨hi, nm_r z ⟨hi, nm_e (br_t rfl ⟨rfl, rfl, cs_upd0 h01⟩)⟩⟩))⟩⟩)
      · have z' : ¬ u (nI j * 1024 + nI x).toNatClampNeg = 0 := by rw [z]; decide
        exact cs_sX hj (cs_nX hx ⟨hi, br_f z' ⟨hi, nm_e (cs_sY hj (cs_nY hx ⟨hi, nm_r z ⟨hi, nm_e (br_f (by decide) ⟨rfl, rfl, cs_upd0 h01⟩)⟩⟩))⟩⟩)
theorem i_vc_range {k : Nat} {u : SX} {v : SY} (I : i_Rel k u v) (hk : k + 5 ≤ 2560) (v1 : Int32) (v2 : Int32) (v3 : Int32) : wpX_range (fun r u' => wpY_range (fun r' v' => r' = r ∧ i_Rel (k + 5) u' v') v v1 v2 v3) u v1 v2 v3 := by
  obtain ⟨m, d⟩ := v
  obtain ⟨e, h01⟩ := I
  have e : u = m := e
  subst e
  obtain ⟨a, b, ea, ebX, ebY, hE⟩ := cs_ends v2
  unfold wpX_range wpY_range wpX_upperEnd wpX_lowerEnd
  dsimp only
  rw [ebX, ea]
  rcases cs_case 4 (by decide) v1 with hb | ⟨j, hj, rfl⟩
  · exact cs_xX hb (cs_xY hb ⟨rfl, rfl, h01⟩)
  · rcases hE with ⟨hX, hY⟩ | ⟨ha, hb, hX, hY⟩
    · exact cs_sX hj (hX _ (br_t rfl (cs_sY hj (hY _ _ _ (br_t rfl ⟨rfl, rfl, h01⟩)))))
    · by_cases w0 : v3 < 0
      · exact cs_sX hj (hX _ (br_f cs_10 (br_t w0 (cs_sY hj (hY _ _ _ (br_f cs_10 (br_t w0 ⟨rfl, rfl, h01⟩)))))))
      · by_cases w2 : v3 ≤ 2
        · obtain ⟨f', h', gX, gY⟩ := cs_rng hj v3 v2 hb ebY (b - a) a u h01 rfl ha
          obtain ⟨r, hr, cX, cY⟩ := cs_all f' hj
          exact cs_sX hj (hX _ (br_f cs_10 (br_f w0 (br_t w2 ⟨_, gX _ (cX _ (cs_sY hj (hY _ _ _ (br_f cs_10 (br_f w0 (br_t w2 (nm_e ⟨_, gY _ _ (cY _ _ ⟨rfl, rfl, h'⟩)⟩)))))))⟩))))
        · exact cs_sX hj (hX _ (br_f cs_10 (br_f w0 (br_f w2 (cs_sY hj (hY _ _ _ (br_f cs_10 (br_f w0 (br_f w2 ⟨rfl, rfl, h01⟩)))))))))
theorem i_vc_combine {k : Nat} {u : SX} {v : SY} (I : i_Rel k u v) (hk : k + 5 ≤ 2560) (v1 : Int32) (v2 : Int32) (v3 : Int32) (v4 : Int32) : wpX_combine (fun r u' => wpY_combine (fun r' v' => r' = r ∧ i_Rel (k + 5) u' v') v v1 v2 v3 v4) u v1 v2 v3 v4 := by
  obtain ⟨m, d⟩ := v
  obtain ⟨e, h01⟩ := I
  have e : u = m := e
  subst e
  unfold wpX_combine wpY_combine
  dsimp only
  rcases cs_case 4 (by decide) v1 with hb | ⟨to, hto, rfl⟩
  · exact cs_xX hb (cs_xY hb ⟨rfl, rfl, h01⟩)
  rcases cs_case 4 (by decide) v2 with hb | ⟨s, hs, rfl⟩
  · exact cs_sX hto (cs_xX hb (cs_sY hto (cs_xY hb ⟨rfl, rfl, h01⟩)))
  rcases cs_case 4 (by decide) v3 with hb | ⟨t, ht, rfl⟩
  · exact cs_sX hto (cs_sX hs (cs_xX hb (cs_sY hto (cs_sY hs (cs_xY hb ⟨rfl, rfl, h01⟩)))))
  by_cases w0 : v4 < 0
  · exact cs_sX hto (cs_sX hs (cs_sX ht (br_t w0 (cs_sY hto (cs_sY hs (cs_sY ht (br_t w0 ⟨rfl, rfl, h01⟩)))))))
  by_cases w3 : v4 ≤ 3
  · have gX := cs_cmX (f := u) hto hs ht w0 w3 (h := fun x => cs_J v4 (u (s * 1024 + x)) (u (t * 1024 + x))) (fun _ => rfl) 1024 0 rfl (by omega)
    rw [cs_mid0] at gX
    have hh : cs_01 (fun x => cs_J v4 (u (s * 1024 + x)) (u (t * 1024 + x))) := fun _ => cs_J01 _ _ _
    have h' := cs_mid01 h01 hh (to * 1024) 0 1024
    obtain ⟨r, hr, cX, cY⟩ := cs_all (cs_mid u (fun x => cs_J v4 (u (s * 1024 + x)) (u (t * 1024 + x))) (to * 1024) 0 1024) hto
    refine cs_sX hto (cs_sX hs (cs_sX ht (br_f w0 (br_t w3 ⟨_, gX _ (cX _ (cs_sY hto (cs_sY hs (cs_sY ht (br_f w0 (br_t w3 ⟨1025, ?_⟩))))))⟩))))
    exact cs_cmY hs ht (fun _ => rfl) _ (fun d' hd' => cs_store hh hd' hto _ (cY _ _ ⟨rfl, rfl, h'⟩)) 1024 0 d rfl (by omega) (fun i hi => absurd hi (by omega))
  · exact cs_sX hto (cs_sX hs (cs_sX ht (br_f w0 (br_f w3 (cs_sY hto (cs_sY hs (cs_sY ht (br_f w0 (br_f w3 ⟨rfl, rfl, h01⟩)))))))))
theorem i_vc_shift {k : Nat} {u : SX} {v : SY} (I : i_Rel k u v) (hk : k + 5 ≤ 2560) (v1 : Int32) (v2 : Int32) : wpX_shift (fun r u' => wpY_shift (fun r' v' => r' = r ∧ i_Rel (k + 5) u' v') v v1 v2) u v1 v2 := by
  obtain ⟨m, d⟩ := v
  obtain ⟨e, h01⟩ := I
  have e : u = m := e
  subst e
  unfold wpX_shift wpY_shift
  dsimp only
  rcases cs_case 4 (by decide) v1 with hb | ⟨j, hj, rfl⟩
  · exact cs_xX hb (cs_xY hb ⟨rfl, rfl, h01⟩)
  by_cases w0 : v2 ≤ -1024
  · exact cs_sX hj (br_t w0 (cs_sY hj (br_t (cs_lo.mp w0) ⟨rfl, rfl, h01⟩)))
  have y0 : ¬ v2 < -1023 := fun y => w0 (cs_lo.mpr y)
  by_cases w1 : v2 < 1024
  · have y1 : v2 ≤ 1023 := cs_hi.mp w1
    by_cases w2 : v2 ≤ 0
    · obtain ⟨w, hw, rfl⟩ := cs_neg w0 w2
      have gX := cs_shD (f := u) (w := w) hj hw 1024 0 rfl (by omega)
      rw [cs_mid0] at gX
      have hh := cs_hD01 u (j * 1024) w
      have h' := cs_mid01 h01 hh (j * 1024) 0 1024
      obtain ⟨r, hr, cX, cY⟩ := cs_all (cs_mid u (cs_hD u (j * 1024) w) (j * 1024) 0 1024) hj
      refine cs_sX hj (br_f w0 (br_t w1 (br_t w2 ?_)))
      rw [Int32.neg_neg]
      refine ⟨1025, gX _ (cX _ (cs_sY hj (br_f y0 (br_t y1 ⟨1025, ?_⟩))))⟩
      exact cs_shY hj hh (cs_stD u hj hw) _ (fun d' hd' => cs_store hh hd' hj _ (cY _ _ ⟨rfl, rfl, h'⟩)) 1024 0 d rfl (by omega) (fun i hi => absurd hi (by omega))
    · obtain ⟨w, hw, rfl⟩ := cs_posi w1 w2
      have gX := cs_shU (f := u) (w := w) hj hw 1024 (by omega)
      rw [cs_mid0] at gX
      have hh := cs_hU01 u (j * 1024) w
      have h' := cs_mid01 h01 hh (j * 1024) 0 1024
      obtain ⟨r, hr, cX, cY⟩ := cs_all (cs_mid u (cs_hU u (j * 1024) w) (j * 1024) 0 1024) hj
      refine cs_sX hj (br_f w0 (br_t w1 (br_f w2 ⟨1025, gX _ (cX _ (cs_sY hj (br_f y0 (br_t y1 ⟨1025, ?_⟩))))⟩)))
      exact cs_shY hj hh (cs_stU u hj hw) _ (fun d' hd' => cs_store hh hd' hj _ (cY _ _ ⟨rfl, rfl, h'⟩)) 1024 0 d rfl (by omega) (fun i hi => absurd hi (by omega))
  · have y1 : ¬ v2 ≤ 1023 := fun y => w1 (cs_hi.mpr y)
    exact cs_sX hj (br_f w0 (br_f w1 (cs_sY hj (br_f y0 (br_f y1 ⟨rfl, rfl, h01⟩)))))
theorem i_vc_clear {k : Nat} {u : SX} {v : SY} (I : i_Rel k u v) (hk : k + 5 ≤ 2560) (v1 : Int32) : wpX_clear (fun r u' => wpY_clear (fun r' v' => r' = r ∧ i_Rel (k + 5) u' v') v v1) u v1 := by
  obtain ⟨m, d⟩ := v
  obtain ⟨e, h01⟩ := I
  have e : u = m := e
  subst e
  rcases cs_case 4 (by decide) v1 with hb | ⟨j, hj, rfl⟩
  · unfold wpX_clear wpY_clear wpY_size
    dsimp only
    exact cs_xX hb (cs_xY hb ⟨1, br_f (by decide) (br_t (by decide) ⟨rfl, rfl, h01⟩)⟩)
  · obtain ⟨r, hr, cX, cY⟩ := cs_all u hj
    obtain ⟨f', h', gX, gY⟩ := cs_clr hj (x := nI r) (nI_pos (by omega)) 1024 0 u h01 rfl (by omega)
    unfold wpX_clear wpY_clear
    dsimp only
    exact cs_sX hj (cX _ ⟨_, gX _ (cY _ d ⟨_, gY _ d ⟨rfl, rfl, h'⟩⟩)⟩)
