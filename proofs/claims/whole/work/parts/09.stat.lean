theorem i_vc_stat {k : Nat} {u : SX} {v : SY} (I : i_Rel k u v) (hk : k + 5 ≤ 2561) (v1 : Int32) : wpX_stat (fun r => wpY_stat (fun r' => r' = r ∧ i_Rel (k + 5) u v) v v1) u v1 := by
  have J := i_up I
  obtain ⟨c, n, t, ad, md, la, xn, xd, pe, cr, lo, hi, nx, pd, rX, rY, dn, dm, cX, cY, st, rfl, rfl, h1, h2, h3, h4, h5, h6, h7⟩ := I
  rcases pk_ix v1 (n := 4) (by omega) with a | a | ⟨m, hm, e⟩
  · exact br_t a (br_t a ⟨rfl, J⟩)
  · have b : ¬ v1 < 0 := Int32.not_lt.mpr (Int32.le_trans (nI_pos' (n := 4) (by omega)) a)
    have b3 : ¬ v1 ≤ 3 := Int32.not_le.mpr (Int32.lt_of_lt_of_le (b := nI 4) (by decide) a)
    exact br_f b (br_t a (br_f b (br_f b3 ⟨rfl, J⟩)))
  · subst e
    have b : ¬ nI m < 0 := nI_pos (by omega)
    have b2 : ¬ 4 ≤ nI m := nI_ge (b := 4) (by omega) (by decide)
    have b3 : nI m ≤ 3 := nI_le (b := 3) (by omega) (by decide)
    have hv : vp_in (nI m) 4 := vp_in_nI hm (by omega)
    exact br_f b (br_f b2 ⟨hv, br_f b (br_t b3 ⟨hv, rfl, J⟩)⟩)
