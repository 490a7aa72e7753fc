theorem i_vc_mode {k : Nat} {u : SX} {v : SY} (I : i_Rel k u v) (hk : k + 5 ≤ 2561) : wpX_mode (fun r => wpY_mode (fun r' => r' = r ∧ i_Rel (k + 5) u v) v) u := by
  have J := i_up I
  obtain ⟨c, n, t, ad, md, la, xn, xd, pe, cr, lo, hi, nx, pd, rX, rY, dn, dm, cX, cY, st, rfl, rfl, h1, h2, h3, h4, h5, h6, h7⟩ := I
  exact ⟨rfl, J⟩
theorem i_vc_xNum {k : Nat} {u : SX} {v : SY} (I : i_Rel k u v) (hk : k + 5 ≤ 2561) : wpX_xNum (fun r => wpY_xNum (fun r' => r' = r ∧ i_Rel (k + 5) u v) v) u := by
  have J := i_up I
  obtain ⟨c, n, t, ad, md, la, xn, xd, pe, cr, lo, hi, nx, pd, rX, rY, dn, dm, cX, cY, st, rfl, rfl, h1, h2, h3, h4, h5, h6, h7⟩ := I
  exact ⟨rfl, J⟩
theorem i_vc_xDen {k : Nat} {u : SX} {v : SY} (I : i_Rel k u v) (hk : k + 5 ≤ 2561) : wpX_xDen (fun r => wpY_xDen (fun r' => r' = r ∧ i_Rel (k + 5) u v) v) u := by
  have J := i_up I
  obtain ⟨c, n, t, ad, md, la, xn, xd, pe, cr, lo, hi, nx, pd, rX, rY, dn, dm, cX, cY, st, rfl, rfl, h1, h2, h3, h4, h5, h6, h7⟩ := I
  exact ⟨rfl, J⟩
theorem i_vc_lastRan {k : Nat} {u : SX} {v : SY} (I : i_Rel k u v) (hk : k + 5 ≤ 2561) : wpX_lastRan (fun r => wpY_lastRan (fun r' => r' = r ∧ i_Rel (k + 5) u v) v) u := by
  have J := i_up I
  obtain ⟨c, n, t, ad, md, la, xn, xd, pe, cr, lo, hi, nx, pd, rX, rY, dn, dm, cX, cY, st, rfl, rfl, h1, h2, h3, h4, h5, h6, h7⟩ := I
  exact ⟨rfl, J⟩
theorem i_vc_time {k : Nat} {u : SX} {v : SY} (I : i_Rel k u v) (hk : k + 5 ≤ 2561) : wpX_time (fun r => wpY_time (fun r' => r' = r ∧ i_Rel (k + 5) u v) v) u := by
  have J := i_up I
  obtain ⟨c, n, t, ad, md, la, xn, xd, pe, cr, lo, hi, nx, pd, rX, rY, dn, dm, cX, cY, st, rfl, rfl, h1, h2, h3, h4, h5, h6, h7⟩ := I
  exact ⟨(lN_i t).symm, J⟩
theorem kz_hasJob (n t : Nat) (kc ad md la xn xd : Int32) (pe cr lo hi nx : Nat → Int32) (pd dn dm cX st : Nat → Int32) (rX : Nat → Int64) (j : Nat) (hj : j < n) (hn : n ≤ 8) (post : Int32 → Prop) (h0 : pd j = 0 → post 0) (h1 : ¬ pd j = 0 → post 1) : wpX_hasJob post (kc, (nI n), ad, (lN t), md, la, xn, xd, pe, cr, lo, hi, nx, pd, rX, dn, dm, cX, st) (nI j) := by
  have hj8 : j < 8 := by omega
  have ec := kz_cl hj8
  refine br_f (nI_pos (by omega)) (br_f (nI_ge (by omega) (by omega)) (br_f (by decide) ⟨kz_v8 hj8, br_c (fun z => h0 ?_) (fun z => h1 ?_)⟩))
  · rw [ec] at z; exact z
  · rw [ec] at z; exact z
theorem i_vc_jobDone {k : Nat} {u : SX} {v : SY} (I : i_Rel k u v) (hk : k + 5 ≤ 2561) (v1 : Int32) : wpX_jobDone (fun r => wpY_jobDone (fun r' => r' = r ∧ i_Rel (k + 5) u v) v v1) u v1 := by
  have J := i_up I
  obtain ⟨c, n, t, ad, md, la, xn, xd, pe, cr, lo, hi, nx, pd, rX, rY, dn, dm, cX, cY, st, rfl, rfl, h1, h2, h3, h4, h5, h6, h7⟩ := I
  rcases pk_ix v1 (n := n) (by omega) with a | a | ⟨j, hj, e⟩
  · exact br_t a (br_t rfl (br_t rfl (br_t a ⟨rfl, J⟩)))
  · have b : ¬ v1 < 0 := Int32.not_lt.mpr (Int32.le_trans (nI_pos' (by omega)) a)
    exact br_f b (br_t a (br_t rfl (br_t rfl (br_f b (br_t a ⟨rfl, J⟩)))))
  · subst e
    have hj8 : j < 8 := by omega
    have b : ¬ nI j < 0 := nI_pos (by omega)
    have b2 : ¬ nI n ≤ nI j := nI_ge (by omega) (by omega)
    have hv := kz_v8 hj8
    have ec := kz_cl hj8
    unfold wpX_jobDone
    dsimp only
    refine kz_hasJob n t (nI c) ad md la xn xd pe cr lo hi nx pd dn dm cX st rX j hj (by omega) _ (fun z => ?_) (fun z => ?_)
    · exact br_t rfl (br_f b (br_f b2 ⟨hv, br_t (by rw [ec]; exact z) ⟨rfl, J⟩⟩))
    · exact br_f (by decide) ⟨hv, br_f b (br_f b2 ⟨hv, br_f (by rw [ec]; exact z) ⟨hv, rfl, J⟩⟩)⟩
theorem i_vc_jobDeadline {k : Nat} {u : SX} {v : SY} (I : i_Rel k u v) (hk : k + 5 ≤ 2561) (v1 : Int32) : wpX_jobDeadline (fun r => wpY_jobDeadline (fun r' => r' = r ∧ i_Rel (k + 5) u v) v v1) u v1 := by
  have J := i_up I
  obtain ⟨c, n, t, ad, md, la, xn, xd, pe, cr, lo, hi, nx, pd, rX, rY, dn, dm, cX, cY, st, rfl, rfl, h1, h2, h3, h4, h5, h6, h7⟩ := I
  rcases pk_ix v1 (n := n) (by omega) with a | a | ⟨j, hj, e⟩
  · exact br_t a (br_t rfl (br_t rfl (br_t a ⟨rfl, J⟩)))
  · have b : ¬ v1 < 0 := Int32.not_lt.mpr (Int32.le_trans (nI_pos' (by omega)) a)
    exact br_f b (br_t a (br_t rfl (br_t rfl (br_f b (br_t a ⟨rfl, J⟩)))))
  · subst e
    have hj8 : j < 8 := by omega
    have b : ¬ nI j < 0 := nI_pos (by omega)
    have b2 : ¬ nI n ≤ nI j := nI_ge (by omega) (by omega)
    have hv := kz_v8 hj8
    have ec := kz_cl hj8
    obtain ⟨q, kX, kY⟩ := kz_key n t (nI c) ad md la xn xd pe cr lo hi nx pd dn dm cX st rX rY cY (by omega) h5 j hj8
    unfold wpX_jobDeadline
    dsimp only
    refine kz_hasJob n t (nI c) ad md la xn xd pe cr lo hi nx pd dn dm cX st rX j hj (by omega) _ (fun z => ?_) (fun z => ?_)
    · exact br_t rfl (br_f b (br_f b2 ⟨hv, br_t (by rw [ec]; exact z) ⟨rfl, J⟩⟩))
    · exact br_f (by decide) (kX _ (br_f b (br_f b2 ⟨hv, br_f (by rw [ec]; exact z) (kY _ ⟨rfl, J⟩)⟩)))
theorem kz_cs (n t : Nat) (kc ad md la xn xd : Int32) (pe cr lo hi nx : Nat → Int32) (pd dn dm cX st : Nat → Int32) (rX : Nat → Int64) (rY cY : Nat → Int32) (hn : n ≤ 8) (hC : kz_C cX cY) (m : Nat) (hm : m < 6) : ∀ d j, j + d = n → ∀ s : Int32, ∃ r : Int32, (∀ post : Int32 → Prop, post r → wX_counterSum_4 post (nI m) kc (nI n) ad (lN t) md la xn xd pe cr lo hi nx pd rX dn dm cX st (d + 1) s (nI j)) ∧ (∀ post : Int32 → Prop, post r → wY_counter_21 post (nI m) kc (nI n) ad (nI t) md la xn xd pe lo hi cr nx pd rY dm dn cY st (d + 1) s (nI j)) := by
  intro d
  induction d with
  | zero =>
    intro j hj s
    have e : j = n := by omega
    rw [e]
    exact ⟨s, fun post h => br_t (kz_nle hn) h, fun post h => br_t (kz_nle hn) h⟩
  | succ d ih =>
    intro j hj s
    have hj8 : j < 8 := by omega
    have hge : ¬ nI n ≤ nI j := nI_ge (by omega) (by omega)
    obtain ⟨r, g1, g2⟩ := ih (j + 1) (by omega) (s + cX (m * 8 + j))
    refine ⟨r, fun post h => br_f hge ⟨kz_xv hm hj8, nm_r ?_ (nm_r (nI_1 j) (g1 post h))⟩, fun post h => br_f hge ⟨kz_yv hm hj8, nm_r ?_ (nm_r (nI_1 j) (g2 post h))⟩⟩
    · rw [kz_xc hm hj8]
    · rw [kz_yc hm hj8, hC j m hj8 hm]
theorem i_vc_counter {k : Nat} {u : SX} {v : SY} (I : i_Rel k u v) (hk : k + 5 ≤ 2561) (v1 : Int32) (v2 : Int32) : wpX_counter (fun r => wpY_counter (fun r' => r' = r ∧ i_Rel (k + 5) u v) v v1 v2) u v1 v2 := by
  have J := i_up I
  obtain ⟨c, n, t, ad, md, la, xn, xd, pe, cr, lo, hi, nx, pd, rX, rY, dn, dm, cX, cY, st, rfl, rfl, h1, h2, h3, h4, h5, h6, h7⟩ := I
  rcases pk_ix v2 (n := 6) (by omega) with a | a | ⟨m, hm, e⟩
  · exact br_t a (br_t a ⟨rfl, J⟩)
  · have b : ¬ v2 < 0 := Int32.not_lt.mpr (Int32.le_trans (nI_pos' (n := 6) (by omega)) a)
    have b2 : ¬ v2 < 6 := Int32.not_lt.mpr a
    have b3 : ¬ v2 ≤ 5 := Int32.not_le.mpr (Int32.lt_of_lt_of_le (b := nI 6) (by decide) a)
    exact br_f b (br_f b2 (br_f b (br_f b3 ⟨rfl, J⟩)))
  · subst e
    have b : ¬ nI m < 0 := nI_pos (by omega)
    have b2 : nI m < 6 := nI_lt (b := 6) (by omega) (by decide)
    have b3 : nI m ≤ 5 := nI_le (b := 5) (by omega) (by decide)
    refine br_f b (br_t b2 ?_)
    by_cases w : v1 = -1
    · obtain ⟨r, g1, g2⟩ := kz_cs n t (nI c) ad md la xn xd pe cr lo hi nx pd dn dm cX st rX rY cY (by omega) h6 m hm n 0 (by omega) 0
      exact br_t w ⟨n + 1, g1 _ (br_f b (br_t b3 (br_t w ⟨n + 1, g2 _ ⟨rfl, J⟩⟩)))⟩
    · refine br_f w ?_
      rcases pk_ix v1 (n := n) (by omega) with a | a | ⟨j, hj, e⟩
      · exact br_t a (br_t rfl (br_f b (br_t b3 (br_f w (br_t a ⟨rfl, J⟩)))))
      · have c1 : ¬ v1 < 0 := Int32.not_lt.mpr (Int32.le_trans (nI_pos' (by omega)) a)
        exact br_f c1 (br_t a (br_t rfl (br_f b (br_t b3 (br_f w (br_f c1 (br_f (Int32.not_lt.mpr a) ⟨rfl, J⟩)))))))
      · subst e
        have hj8 : j < 8 := by omega
        have c1 : ¬ nI j < 0 := nI_pos (by omega)
        have c2 : ¬ nI n ≤ nI j := nI_ge (by omega) (by omega)
        have c3 : nI j < nI n := nI_lt (by omega) (by omega)
        refine br_f c1 (br_f c2 (br_f (by decide) ⟨kz_xv hm hj8, br_f b (br_t b3 (br_f w (br_f c1 (br_t c3 ⟨kz_yv hm hj8, ?_, J⟩))))⟩))
        rw [kz_xc hm hj8, kz_yc hm hj8, h6 j m hj8 hm]
