/-! places, endings, the loops of release, miss, drop, choose -/
theorem kz_cl {j : Nat} (h : j < 8) : (nI j).toNatClampNeg = j := nI_clamp (by omega)
theorem kz_v8 {j : Nat} (h : j < 8) : vp_in (nI j) 8 := vp_in_nI h (by omega)
theorem kz_xe (k j : Nat) : nI k * 8 + nI j = nI (k * 8 + j) := by
  rw [show (8 : Int32) = nI 8 from rfl, pk_mul, nI_add]
theorem kz_xc {k j : Nat} (hk : k < 6) (hj : j < 8) : (nI k * 8 + nI j).toNatClampNeg = k * 8 + j := by
  rw [kz_xe]; exact nI_clamp (by omega)
theorem kz_xv {k j : Nat} (hk : k < 6) (hj : j < 8) : vp_in (nI k * 8 + nI j) 48 := by
  rw [kz_xe]; exact vp_in_nI (by omega) (by omega)
theorem kz_ye (k j : Nat) : nI j * 6 + nI k = nI (j * 6 + k) := by
  rw [show (6 : Int32) = nI 6 from rfl, pk_mul, nI_add]
theorem kz_yc {k j : Nat} (hk : k < 6) (hj : j < 8) : (nI j * 6 + nI k).toNatClampNeg = j * 6 + k := by
  rw [kz_ye]; exact nI_clamp (by omega)
theorem kz_yv {k j : Nat} (hk : k < 6) (hj : j < 8) : vp_in (nI j * 6 + nI k) 48 := by
  rw [kz_ye]; exact vp_in_nI (by omega) (by omega)
theorem kz_s0 {j : Nat} (hj : j < 8) : ((0 : Int32) + nI j).toNatClampNeg = 0 * 8 + j := by
  rw [show (0 : Int32) = nI 0 from rfl, nI_add, show 0 + j = 0 * 8 + j from by omega]; exact nI_clamp (by omega)
theorem kz_sv0 {j : Nat} (hj : j < 8) : vp_in ((0 : Int32) + nI j) 48 := by
  rw [show (0 : Int32) = nI 0 from rfl, nI_add]; exact vp_in_nI (by omega) (by omega)
theorem kz_s4 {j : Nat} (hj : j < 8) : ((32 : Int32) + nI j).toNatClampNeg = 4 * 8 + j := by
  rw [show (32 : Int32) = nI 32 from rfl, nI_add, show 32 + j = 4 * 8 + j from by omega]; exact nI_clamp (by omega)
theorem kz_sv4 {j : Nat} (hj : j < 8) : vp_in ((32 : Int32) + nI j) 48 := by
  rw [show (32 : Int32) = nI 32 from rfl, nI_add]; exact vp_in_nI (by omega) (by omega)
theorem kz_nm1 {i : Nat} (h : i < 2 ^ 31) : ¬ nI i = -1 := by
  intro e
  have h1 := nI_pos h
  rw [e] at h1
  exact h1 (by decide)
theorem kz_C_i {cX cY : Nat → Int32} (h : kz_C cX cY) (t k : Nat) (ht : t < 8) (hk : k < 6) : kz_C (upd cX (k * 8 + t) (cX (k * 8 + t) + 1)) (upd cY (t * 6 + k) (cY (t * 6 + k) + 1)) := by
  rw [h t k ht hk]; exact kz_C_u h t k ht hk _
theorem kz_L_e {t : Nat} {rX : Nat → Int64} {rY : Nat → Int32} (h : kz_L t rX rY) (ht : t < 2 ^ 31) (j : Nat) : rX j = (rY j).toInt64 := by
  obtain ⟨r, h1, h2, h3⟩ := h j
  rw [h2, h3, nI_l (by omega)]
theorem kz_xej (n t : Nat) (kc ad md la xn xd : Int32) (pe cr lo hi nx : Nat → Int32) (pd dn dm cX st : Nat → Int32) (rX : Nat → Int64) (k j : Nat) (hk : k < 6) (hj : j < 8) (post : SX → Prop)
    (hp : post (kc, (nI n), ad, (lN t), md, la, xn, xd, pe, cr, lo, hi, nx, upd pd j (vp_nar .boolean 0), rX, dn, dm, upd cX (k * 8 + j) (cX (k * 8 + j) + 1), st)) : wpX_endJob post (kc, (nI n), ad, (lN t), md, la, xn, xd, pe, cr, lo, hi, nx, pd, rX, dn, dm, cX, st) (nI j) (nI k) := by
  unfold wpX_endJob
  dsimp only
  rw [kz_cl hj, kz_xc hk hj]
  refine ⟨kz_v8 hj, fun a ea => ⟨kz_xv hk hj, kz_xv hk hj, fun b eb => ?_⟩⟩
  subst ea; subst eb
  exact hp
theorem kz_xrj1 (n t : Nat) (kc ad md la xn xd : Int32) (pe cr lo hi nx : Nat → Int32) (pd dn dm cX st : Nat → Int32) (rX : Nat → Int64) (j : Nat) (hj : j < 8) (h1 : md = 1) (h0 : cr j = 0) (post : SX → Prop)
    (hp : post (kc, (nI n), ad, (lN t), md, la, xn, xd, pe, cr, lo, hi, nx, pd, rX, dn, dm, upd cX (4 * 8 + j) (cX (4 * 8 + j) + 1), st)) : wpX_releaseJob post (kc, (nI n), ad, (lN t), md, la, xn, xd, pe, cr, lo, hi, nx, pd, rX, dn, dm, cX, st) (nI j) := by
  unfold wpX_releaseJob
  dsimp only
  rw [kz_cl hj, kz_s4 hj]
  refine br_t h1 ⟨kz_v8 hj, br_t h0 ⟨kz_sv4 hj, kz_sv4 hj, fun b eb => ?_⟩⟩
  subst eb
  exact hp
theorem kz_xrj2 (n t : Nat) (kc ad md la xn xd : Int32) (pe cr lo hi nx : Nat → Int32) (pd dn dm cX st : Nat → Int32) (rX : Nat → Int64) (j : Nat) (hj : j < 8) (h : ¬ (md = 1 ∧ cr j = 0)) (post : SX → Prop)
    (hp : post (kc, (nI n), ad, (lN t), md, la, xn, xd, pe, cr, lo, hi, nx, upd pd j (vp_nar .boolean 1), vp_updL rX j (lN t), upd dn j 0, upd dm j (nx j), upd cX (0 * 8 + j) (cX (0 * 8 + j) + 1), st)) : wpX_releaseJob post (kc, (nI n), ad, (lN t), md, la, xn, xd, pe, cr, lo, hi, nx, pd, rX, dn, dm, cX, st) (nI j) := by
  have k : wX_releaseJob_31 post (nI j) kc (nI n) ad (lN t) md la xn xd pe cr lo hi nx pd rX dn dm cX st := by
    unfold wX_releaseJob_31
    rw [kz_cl hj, kz_s0 hj]
    refine ⟨kz_sv0 hj, kz_sv0 hj, fun a1 e1 => ⟨kz_v8 hj, fun a2 e2 => ⟨kz_v8 hj, fun a3 e3 => ⟨kz_v8 hj, fun a4 e4 => ⟨kz_v8 hj, kz_v8 hj, fun a5 e5 => ?_⟩⟩⟩⟩⟩
    subst e1; subst e2; subst e3; subst e4; subst e5
    exact hp
  unfold wpX_releaseJob
  dsimp only
  rw [kz_cl hj]
  by_cases m : md = 1
  · exact br_t m ⟨kz_v8 hj, br_f (fun z => h ⟨m, z⟩) k⟩
  · exact br_f m k
/-- the release of jobs at t, both sides -/
theorem kz_rel (n t : Nat) (kc ad md la xn xd : Int32) (pe cr lo hi nx : Nat → Int32) (st : Nat → Int32) (hT : kz_T n pe lo hi cr) (hn : n ≤ 8) (ht : t < 2 ^ 31) : ∀ d j, j + d = n → ∀ (pd : Nat → Int32) (rX : Nat → Int64) (rY dn dm cX cY : Nat → Int32), kz_L t rX rY → kz_C cX cY →
    ∃ (pd' : Nat → Int32) (rX' : Nat → Int64) (rY' dn' dm' cX' cY' : Nat → Int32), kz_L t rX' rY' ∧ kz_C cX' cY'
      ∧ (∀ post : SX → Prop, wX_releaseJobs_2 post 1 (nI n) kc (nI n) ad (lN t) md la xn xd pe cr lo hi nx pd' rX' dn' dm' cX' st → wX_releaseJobs_2 post (d + 1) (nI j) kc (nI n) ad (lN t) md la xn xd pe cr lo hi nx pd rX dn dm cX st)
      ∧ (∀ post : SY → Prop, wY_release_2 post (nI t) kc (nI n) ad (nI t) md la xn xd 1 (nI n) pe lo hi cr nx pd' rY' dm' dn' cY' st → wY_release_2 post (nI t) kc (nI n) ad (nI t) md la xn xd (d + 1) (nI j) pe lo hi cr nx pd rY dm dn cY st) := by
  intro d
  induction d with
  | zero =>
    intro j hj pd rX rY dn dm cX cY hL hC
    have e : j = n := by omega
    rw [e]
    exact ⟨pd, rX, rY, dn, dm, cX, cY, hL, hC, fun _ h => h, fun _ h => h⟩
  | succ d ih =>
    intro j hj pd rX rY dn dm cX cY hL hC
    have hj8 : j < 8 := by omega
    have hge : ¬ nI n ≤ nI j := nI_ge (by omega) (by omega)
    have hv := kz_v8 hj8
    have ec := kz_cl hj8
    obtain ⟨p, ep, hp1, hp16⟩ := kz_T_p hT (show j < n by omega)
    have nX : ¬ (pe (nI j).toNatClampNeg).toInt64 = 0 := by
      rw [ec, ep, nI_l (by omega), show (0 : Int64) = lN 0 from rfl, lN_eq (by omega) (by omega)]; omega
    have nY : ¬ pe (nI j).toNatClampNeg = 0 := by rw [ec, ep]; exact nI_ne0 (by omega) (by omega)
    have qX : (lN t - lN t / (pe (nI j).toNatClampNeg).toInt64 * (pe (nI j).toNatClampNeg).toInt64 = 0) ↔ t % p = 0 := by
      have hm := Nat.mod_le t p
      rw [ec, ep, nI_l (by omega), pk_lRem (by omega) (by omega) (by omega), show (0 : Int64) = lN 0 from rfl, lN_eq (by omega) (by omega)]
    have qY : (nI t - nI t / pe (nI j).toNatClampNeg * pe (nI j).toNatClampNeg = 0) ↔ t % p = 0 := by
      have hm := Nat.mod_le t p
      rw [ec, ep, pk_rem (by omega) (by omega) (by omega), show (0 : Int32) = nI 0 from rfl, nI_eq (by omega) (by omega)]
    by_cases z : t % p = 0
    · have zX := qX.mpr z
      have zY := qY.mpr z
      by_cases m : md = 1 ∧ cr j = 0
      · obtain ⟨pd', rX', rY', dn', dm', cX', cY', g1, g2, g3, g4⟩ := ih (j + 1) (by omega) pd rX rY dn dm _ _ hL (kz_C_i hC j 4 hj8 (by omega))
        refine ⟨pd', rX', rY', dn', dm', cX', cY', g1, g2, fun post h => ?_, fun post h => ?_⟩
        · refine br_f hge ⟨hv, nX, br_t zX ?_⟩
          exact kz_xrj1 n t kc ad md la xn xd pe cr lo hi nx pd dn dm cX st rX j hj8 m.1 m.2 _ (nm_r (nI_1 j) (g3 post h))
        · have m2 : cr (nI j).toNatClampNeg = 0 := by rw [ec]; exact m.2
          have y4 : (nI j * 6 + 4).toNatClampNeg = j * 6 + 4 := kz_yc (k := 4) (by omega) hj8
          have w4 : vp_in (nI j * 6 + 4) 48 := kz_yv (k := 4) (by omega) hj8
          refine br_f hge ⟨hv, nY, br_t zY (br_t m.1 ⟨hv, br_t m2 ⟨w4, w4, fun b eb => nm_r (nI_1 j) ?_⟩⟩)⟩
          rw [y4] at eb
          subst eb
          exact g4 post h
      · obtain ⟨pd', rX', rY', dn', dm', cX', cY', g1, g2, g3, g4⟩ := ih (j + 1) (by omega) (upd pd j (vp_nar .boolean 1)) _ _ (upd dn j 0) (upd dm j (nx j)) _ _ (kz_L_u hL j) (kz_C_i hC j 0 hj8 (by omega))
        refine ⟨pd', rX', rY', dn', dm', cX', cY', g1, g2, fun post h => ?_, fun post h => ?_⟩
        · refine br_f hge ⟨hv, nX, br_t zX ?_⟩
          exact kz_xrj2 n t kc ad md la xn xd pe cr lo hi nx pd dn dm cX st rX j hj8 m _ (nm_r (nI_1 j) (g3 post h))
        · have y0 : (nI j * 6 + 0).toNatClampNeg = j * 6 + 0 := kz_yc (k := 0) (by omega) hj8
          have w0 : vp_in (nI j * 6 + 0) 48 := kz_yv (k := 0) (by omega) hj8
          have k : wY_release_56 post (wY_release_2 post (nI t) kc (nI n) ad (nI t) md la xn xd (d + 1)) (nI t) (nI j) kc (nI n) ad (nI t) md la xn xd pe lo hi cr nx pd rY dm dn cY st := by
            refine ⟨w0, w0, fun a1 e1 => ⟨hv, fun a2 e2 => ⟨hv, fun a3 e3 => ⟨hv, fun a4 e4 => ⟨hv, hv, fun a5 e5 => nm_r (nI_1 j) ?_⟩⟩⟩⟩⟩
            rw [y0] at e1
            rw [ec] at e2 e3 e4 e5
            subst e1; subst e2; subst e3; subst e4; subst e5
            exact g4 post h
          refine br_f hge ⟨hv, nY, br_t zY ?_⟩
          by_cases m1 : md = 1
          · exact br_t m1 ⟨hv, br_f (by rw [ec]; exact fun z0 => m ⟨m1, z0⟩) k⟩
          · exact br_f m1 k
    · obtain ⟨pd', rX', rY', dn', dm', cX', cY', g1, g2, g3, g4⟩ := ih (j + 1) (by omega) pd rX rY dn dm cX cY hL hC
      refine ⟨pd', rX', rY', dn', dm', cX', cY', g1, g2, fun post h => ?_, fun post h => ?_⟩
      · exact br_f hge ⟨hv, nX, br_f (fun q => z (qX.mp q)) (nm_r (nI_1 j) (g3 post h))⟩
      · exact br_f hge ⟨hv, nY, br_f (fun q => z (qY.mp q)) (nm_r (nI_1 j) (g4 post h))⟩
theorem kz_release (n t : Nat) (kc ad md la xn xd : Int32) (pe cr lo hi nx : Nat → Int32) (st : Nat → Int32) (hT : kz_T n pe lo hi cr) (hn : n ≤ 8) (ht : t < 2 ^ 31) (pd : Nat → Int32) (rX : Nat → Int64) (rY dn dm cX cY : Nat → Int32) (hL : kz_L t rX rY) (hC : kz_C cX cY) :
    ∃ (pd' : Nat → Int32) (rX' : Nat → Int64) (rY' dn' dm' cX' cY' : Nat → Int32), kz_L t rX' rY' ∧ kz_C cX' cY'
      ∧ (∀ post : SX → Prop, post (kc, (nI n), ad, (lN t), md, la, xn, xd, pe, cr, lo, hi, nx, pd', rX', dn', dm', cX', st) → wpX_releaseJobs post (kc, (nI n), ad, (lN t), md, la, xn, xd, pe, cr, lo, hi, nx, pd, rX, dn, dm, cX, st))
      ∧ (∀ post : SY → Prop, post (kc, (nI n), ad, (nI t), md, la, xn, xd, pe, lo, hi, cr, nx, pd', rY', dm', dn', cY', st) → wpY_release post (kc, (nI n), ad, (nI t), md, la, xn, xd, pe, lo, hi, cr, nx, pd, rY, dm, dn, cY, st) (nI t)) := by
  obtain ⟨pd', rX', rY', dn', dm', cX', cY', g1, g2, g3, g4⟩ := kz_rel n t kc ad md la xn xd pe cr lo hi nx st hT hn ht n 0 (by omega) pd rX rY dn dm cX cY hL hC
  refine ⟨pd', rX', rY', dn', dm', cX', cY', g1, g2, fun post h => ⟨n + 1, ?_⟩, fun post h => ⟨n + 1, ?_⟩⟩
  · exact g3 post (br_t (nI_le (Nat.le_refl n) (by omega)) h)
  · exact g4 post (br_t (nI_le (Nat.le_refl n) (by omega)) h)
