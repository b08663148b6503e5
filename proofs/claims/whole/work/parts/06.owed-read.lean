/-! the asking methods -/
theorem i_vc_tidy {k : Nat} {u : SX} {v : SY} (I : i_Rel k u v) (hk : k + 5 ≤ 2560) (v1 : Int32) : wpX_tidy (fun r => wpY_tidy (fun r' => r' = r ∧ i_Rel (k + 5) u v) v v1) u v1 := by
  obtain ⟨m, d⟩ := v
  obtain ⟨e, h01⟩ := I
  have e : u = m := e
  subst e
  unfold wpX_tidy wpY_tidy
  dsimp only
  rcases cs_case 4 (by decide) v1 with hb | ⟨j, hj, rfl⟩
  · exact cs_xX hb (cs_xY hb ⟨rfl, rfl, h01⟩)
  · exact cs_sX hj (cs_sY hj ⟨rfl, rfl, h01⟩)
theorem i_vc_has {k : Nat} {u : SX} {v : SY} (I : i_Rel k u v) (hk : k + 5 ≤ 2560) (v1 : Int32) (v2 : Int32) : wpX_has (fun r => wpY_has (fun r' => r' = r ∧ i_Rel (k + 5) u v) v v1 v2) u v1 v2 := by
  obtain ⟨m, d⟩ := v
  obtain ⟨e, h01⟩ := I
  have e : u = m := e
  subst e
  unfold wpX_has wpY_has
  dsimp only
  rcases cs_case 4 (by decide) v1 with hb | ⟨j, hj, rfl⟩
  · exact cs_xX hb (cs_xY hb ⟨rfl, rfl, h01⟩)
  · rcases cs_case 1024 (by decide) v2 with hb | ⟨x, hx, rfl⟩
    · exact cs_sX hj (cs_yX hb (cs_sY hj (cs_yY hb ⟨rfl, rfl, h01⟩)))
    · have hi := cs_in hj hx
      by_cases z : u (nI j * 1024 + nI x).toNatClampNeg = 0
      · exact cs_sX hj (cs_nX hx ⟨hi, br_t z (cs_sY hj (cs_nY hx ⟨hi, br_t z ⟨rfl, rfl, h01⟩⟩))⟩)
      · exact cs_sX hj (cs_nX hx ⟨hi, br_f z (cs_sY hj (cs_nY hx ⟨hi, br_f z ⟨rfl, rfl, h01⟩⟩))⟩)
theorem i_vc_size {k : Nat} {u : SX} {v : SY} (I : i_Rel k u v) (hk : k + 5 ≤ 2560) (v1 : Int32) : wpX_size (fun r => wpY_size (fun r' => r' = r ∧ i_Rel (k + 5) u v) v v1) u v1 := by
  obtain ⟨m, d⟩ := v
  obtain ⟨e, h01⟩ := I
  have e : u = m := e
  subst e
  rcases cs_case 4 (by decide) v1 with hb | ⟨j, hj, rfl⟩
  · unfold wpX_size wpY_size
    dsimp only
    exact cs_xX hb (cs_xY hb ⟨rfl, rfl, h01⟩)
  · obtain ⟨r, hr, cX, cY⟩ := cs_all u hj
    unfold wpX_size
    exact cs_sX hj (cX _ (cY _ d ⟨rfl, rfl, h01⟩))
theorem i_vc_rank {k : Nat} {u : SX} {v : SY} (I : i_Rel k u v) (hk : k + 5 ≤ 2560) (v1 : Int32) (v2 : Int32) : wpX_rank (fun r => wpY_rank (fun r' => r' = r ∧ i_Rel (k + 5) u v) v v1 v2) u v1 v2 := by
  obtain ⟨m, d⟩ := v
  obtain ⟨e, h01⟩ := I
  have e : u = m := e
  subst e
  unfold wpX_rank wpY_rank
  dsimp only
  rcases cs_case 4 (by decide) v1 with hb | ⟨j, hj, rfl⟩
  · exact cs_xX hb (cs_xY hb ⟨rfl, rfl, h01⟩)
  · by_cases w0 : v2 < 0
    · exact cs_sX hj (br_t w0 (br_t rfl (cs_sY hj (br_t w0 ⟨rfl, rfl, h01⟩))))
    · obtain ⟨x, hx, rfl⟩ := nI_of w0
      by_cases q : x ≤ 1024
      · have w1 : nI x ≤ 1024 := nI_le (b := 1024) q (by decide)
        obtain ⟨r, hr, cX, cY⟩ := cs_btw u hj (a := 0) (by omega) q
        exact cs_sX hj (cs_eX q (cX _ (cs_sY hj (br_f w0 (br_t w1 (cY _ d ⟨rfl, rfl, h01⟩))))))
      · have w1 : ¬ nI x ≤ 1024 := nI_ge (a := 1024) (by omega) hx
        exact cs_sX hj (cs_fX (by omega) hx (cs_sY hj (br_f w0 (br_f w1 ⟨rfl, rfl, h01⟩))))
theorem i_vc_select {k : Nat} {u : SX} {v : SY} (I : i_Rel k u v) (hk : k + 5 ≤ 2560) (v1 : Int32) (v2 : Int32) : wpX_select (fun r => wpY_select (fun r' => r' = r ∧ i_Rel (k + 5) u v) v v1 v2) u v1 v2 := by
  obtain ⟨m, d⟩ := v
  obtain ⟨e, h01⟩ := I
  have e : u = m := e
  subst e
  unfold wpX_select wpY_select
  dsimp only
  rcases cs_case 4 (by decide) v1 with hb | ⟨j, hj, rfl⟩
  · exact cs_xX hb (cs_xY hb ⟨rfl, rfl, h01⟩)
  · by_cases w0 : v2 < 0
    · exact cs_sX hj ⟨1025, cs_selN u hj w0 1024 0 0 rfl (by omega) (by omega) _ (cs_sY hj ⟨1, br_f (by decide) (br_t w0 ⟨rfl, rfl, h01⟩)⟩)⟩
    · obtain ⟨q, hq, rfl⟩ := nI_of w0
      obtain ⟨r, gX, gY⟩ := cs_selP u hj hq 1024 0 0 q rfl (by omega) (by omega) (by omega)
      exact cs_sX hj ⟨1025, gX _ (cs_sY hj ⟨1025, gY _ d ⟨rfl, rfl, h01⟩⟩)⟩
theorem i_vc_next {k : Nat} {u : SX} {v : SY} (I : i_Rel k u v) (hk : k + 5 ≤ 2560) (v1 : Int32) (v2 : Int32) : wpX_next (fun r => wpY_next (fun r' => r' = r ∧ i_Rel (k + 5) u v) v v1 v2) u v1 v2 := by
  obtain ⟨m, d⟩ := v
  obtain ⟨e, h01⟩ := I
  have e : u = m := e
  subst e
  unfold wpX_next wpY_next
  dsimp only
  rcases cs_case 4 (by decide) v1 with hb | ⟨j, hj, rfl⟩
  · exact cs_xX hb (cs_xY hb ⟨rfl, rfl, h01⟩)
  · rcases cs_case 1024 (by decide) v2 with hb | ⟨x, hx, rfl⟩
    · exact cs_sX hj (cs_yX hb (cs_sY hj (cs_yY hb ⟨rfl, rfl, h01⟩)))
    · obtain ⟨r, gX, gY⟩ := cs_nxt u hj (1024 - x) x rfl (by omega)
      exact cs_sX hj (cs_nX hx ⟨_, gX _ (cs_sY hj (cs_nY hx ⟨_, gY _ d ⟨rfl, rfl, h01⟩⟩))⟩)
theorem i_vc_ranges {k : Nat} {u : SX} {v : SY} (I : i_Rel k u v) (hk : k + 5 ≤ 2560) (v1 : Int32) : wpX_ranges (fun r => wpY_ranges (fun r' => r' = r ∧ i_Rel (k + 5) u v) v v1) u v1 := by
  obtain ⟨m, d⟩ := v
  obtain ⟨e, h01⟩ := I
  have e : u = m := e
  subst e
  unfold wpX_ranges wpY_ranges
  dsimp only
  rcases cs_case 4 (by decide) v1 with hb | ⟨j, hj, rfl⟩
  · exact cs_xX hb (cs_xY hb ⟨rfl, rfl, h01⟩)
  · obtain ⟨r, gX, gY⟩ := cs_rgs u hj 1024 0 0 0 rfl (by omega) (Or.inl ⟨rfl, rfl⟩)
    exact cs_sX hj ⟨1025, gX _ (cs_sY hj ⟨1025, gY _ d ⟨rfl, rfl, h01⟩⟩)⟩
theorem i_vc_common {k : Nat} {u : SX} {v : SY} (I : i_Rel k u v) (hk : k + 5 ≤ 2560) (v1 : Int32) (v2 : Int32) : wpX_common (fun r => wpY_common (fun r' => r' = r ∧ i_Rel (k + 5) u v) v v1 v2) u v1 v2 := by
  obtain ⟨m, d⟩ := v
  obtain ⟨e, h01⟩ := I
  have e : u = m := e
  subst e
  unfold wpX_common wpY_common
  dsimp only
  rcases cs_case 4 (by decide) v1 with hb | ⟨j, hj, rfl⟩
  · exact cs_xX hb (cs_xY hb ⟨rfl, rfl, h01⟩)
  · rcases cs_case 4 (by decide) v2 with hb | ⟨t, ht, rfl⟩
    · exact cs_sX hj (cs_xX hb (cs_sY hj (cs_xY hb ⟨rfl, rfl, h01⟩)))
    · obtain ⟨r, gX, gY⟩ := cs_com u hj ht 1024 0 0 rfl (by omega)
      exact cs_sX hj (cs_sX ht ⟨1025, gX _ (cs_sY hj (cs_sY ht ⟨1025, gY _ d ⟨rfl, rfl, h01⟩⟩))⟩)
theorem i_vc_within {k : Nat} {u : SX} {v : SY} (I : i_Rel k u v) (hk : k + 5 ≤ 2560) (v1 : Int32) (v2 : Int32) : wpX_within (fun r => wpY_within (fun r' => r' = r ∧ i_Rel (k + 5) u v) v v1 v2) u v1 v2 := by
  obtain ⟨m, d⟩ := v
  obtain ⟨e, h01⟩ := I
  have e : u = m := e
  subst e
  rcases cs_case 4 (by decide) v1 with hb | ⟨j, hj, rfl⟩
  · unfold wpX_within wpY_within
    dsimp only
    exact cs_xX hb (cs_xY hb ⟨rfl, rfl, h01⟩)
  · rcases cs_case 4 (by decide) v2 with hb | ⟨t, ht, rfl⟩
    · unfold wpX_within wpY_within
      dsimp only
      exact cs_sX hj (cs_xX hb (cs_sY hj (cs_xY hb ⟨rfl, rfl, h01⟩)))
    · obtain ⟨r, gX, gY⟩ := cs_com u hj ht 1024 0 0 rfl (by omega)
      obtain ⟨c, hc, cX, cY⟩ := cs_all u hj
      have yc : ∀ p : Int32 → Prop, p r → wpY_common p (u, d) (nI j) (nI t) := by
        intro p hp
        unfold wpY_common
        exact cs_sY hj (cs_sY ht ⟨1025, gY _ d hp⟩)
      unfold wpX_within wpY_within
      dsimp only
      by_cases q : r = nI c
      · exact cs_sX hj (cs_sX ht ⟨1025, gX _ (cX _ (br_t q (cs_sY hj (cs_sY ht (yc _ (cY _ d (br_t q ⟨rfl, rfl, h01⟩)))))))⟩)
      · exact cs_sX hj (cs_sX ht ⟨1025, gX _ (cX _ (br_f q (cs_sY hj (cs_sY ht (yc _ (cY _ d (br_f q ⟨rfl, rfl, h01⟩)))))))⟩)
theorem i_vc_countIn {k : Nat} {u : SX} {v : SY} (I : i_Rel k u v) (hk : k + 5 ≤ 2560) (v1 : Int32) (v2 : Int32) : wpX_countIn (fun r => wpY_countIn (fun r' => r' = r ∧ i_Rel (k + 5) u v) v v1 v2) u v1 v2 := by
  obtain ⟨m, d⟩ := v
  obtain ⟨e, h01⟩ := I
  have e : u = m := e
  subst e
  obtain ⟨a, b, ea, ebX, ebY, hE⟩ := cs_ends v2
  unfold wpX_countIn wpY_countIn wpX_upperEnd wpX_lowerEnd
  dsimp only
  rw [ebX, ea, ebY]
  rcases cs_case 4 (by decide) v1 with hb | ⟨j, hj, rfl⟩
  · exact cs_xX hb (cs_xY hb ⟨rfl, rfl, h01⟩)
  · rcases hE with ⟨hX, hY⟩ | ⟨ha, hb, hX, hY⟩
    · exact cs_sX hj (hX _ (br_t rfl (cs_sY hj (hY _ _ _ (br_t rfl ⟨rfl, rfl, h01⟩)))))
    · obtain ⟨r, hr, cX, cY⟩ := cs_btw u hj ha hb
      exact cs_sX hj (hX _ (br_f cs_10 (cX _ (cs_sY hj (hY _ _ _ (br_f cs_10 (cY _ d ⟨rfl, rfl, h01⟩)))))))
