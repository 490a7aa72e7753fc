/-! places, the end of a job, the release of a job -/
theorem kz_cl {j : Nat} (h : j < 8) : (nI j).toNatClampNeg = j := nI_clamp (by omega)
theorem kz_v8 {j : Nat} (h : j < 8) : vp_in (nI j) 8 := vp_in_nI h (by omega)
theorem kz_xe (k j : Nat) : nI k * 8 + nI j = nI (k * 8 + j) := by
  rw [show (8 : Int32) = nI 8 from rfl, pk_mul, nI_add]
theorem kz_xc {k j : Nat} (hk : k < 6) (hj : j < 8) : (nI k * 8 + nI j).toNatClampNeg = k * 8 + j := by
  rw [kz_xe]; exact nI_clamp (by omega)
theorem kz_xv {k j : Nat} (hk : k < 6) (hj : j < 8) : vp_in (nI k * 8 + nI j) 48 := by
  rw [kz_xe]; exact vp_in_nI (by omega) (by omega)
theorem kz_s0 {j : Nat} (hj : j < 8) : ((0 : Int32) + nI j).toNatClampNeg = 0 * 8 + j := by
  rw [show (0 : Int32) = nI 0 from rfl, nI_add, show 0 + j = 0 * 8 + j from by omega]; exact nI_clamp (by omega)
theorem kz_sv0 {j : Nat} (hj : j < 8) : vp_in ((0 : Int32) + nI j) 48 := by
  rw [show (0 : Int32) = nI 0 from rfl, nI_add]; exact vp_in_nI (by omega) (by omega)
theorem kz_s4 {j : Nat} (hj : j < 8) : ((32 : Int32) + nI j).toNatClampNeg = 4 * 8 + j := by
  rw [show (32 : Int32) = nI 32 from rfl, nI_add, show 32 + j = 4 * 8 + j from by omega]; exact nI_clamp (by omega)
theorem kz_sv4 {j : Nat} (hj : j < 8) : vp_in ((32 : Int32) + nI j) 48 := by
  rw [show (32 : Int32) = nI 32 from rfl, nI_add]; exact vp_in_nI (by omega) (by omega)
theorem kz_nm1 {i : Nat} (h : i < 2 ^ 31) : ¬ nI i = -1 := by
  intro e
  have h1 := nI_pos h
  rw [e] at h1
  exact h1 (by decide)
theorem kz_xej (n t : Nat) (kc ad md la xn xd : Int32) (pe cr lo hi nx : Nat → Int32) (pd dn dm cX st : Nat → Int32) (rX : Nat → Int64) (k j : Nat) (hk : k < 6) (hj : j < 8) (post : St2 → Prop)
    (hp : post (kc, (nI n), ad, (lN t), md, la, xn, xd, pe, cr, lo, hi, nx, upd pd j (0), rX, dn, dm, upd cX (k * 8 + j) (cX (k * 8 + j) + 1), st)) : wpX_endJob post (kc, (nI n), ad, (lN t), md, la, xn, xd, pe, cr, lo, hi, nx, pd, rX, dn, dm, cX, st) (nI j) (nI k) := by
  unfold wpX_endJob
  dsimp only
  rw [kz_cl hj, kz_xc hk hj]
  refine ⟨kz_v8 hj, fun a ea => ⟨kz_xv hk hj, kz_xv hk hj, fun b eb => ?_⟩⟩
  subst ea; subst eb
  exact hp
theorem kz_xrj1 (n t : Nat) (kc ad md la xn xd : Int32) (pe cr lo hi nx : Nat → Int32) (pd dn dm cX st : Nat → Int32) (rX : Nat → Int64) (j : Nat) (hj : j < 8) (h1 : md = 1) (h0 : cr j = 0) (post : St2 → Prop)
    (hp : post (kc, (nI n), ad, (lN t), md, la, xn, xd, pe, cr, lo, hi, nx, pd, rX, dn, dm, upd cX (4 * 8 + j) (cX (4 * 8 + j) + 1), st)) : wpX_releaseJob post (kc, (nI n), ad, (lN t), md, la, xn, xd, pe, cr, lo, hi, nx, pd, rX, dn, dm, cX, st) (nI j) := by
  unfold wpX_releaseJob
  dsimp only
  rw [kz_cl hj, kz_s4 hj]
  refine br_t h1 ⟨kz_v8 hj, br_t h0 ⟨kz_sv4 hj, kz_sv4 hj, fun b eb => ?_⟩⟩
  subst eb
  exact hp
theorem kz_xrj2 (n t : Nat) (kc ad md la xn xd : Int32) (pe cr lo hi nx : Nat → Int32) (pd dn dm cX st : Nat → Int32) (rX : Nat → Int64) (j : Nat) (hj : j < 8) (h : ¬ (md = 1 ∧ cr j = 0)) (post : St2 → Prop)
    (hp : post (kc, (nI n), ad, (lN t), md, la, xn, xd, pe, cr, lo, hi, nx, upd pd j (1), vp_updL rX j (lN t), upd dn j 0, upd dm j (nx j), upd cX (0 * 8 + j) (cX (0 * 8 + j) + 1), st)) : wpX_releaseJob post (kc, (nI n), ad, (lN t), md, la, xn, xd, pe, cr, lo, hi, nx, pd, rX, dn, dm, cX, st) (nI j) := by
  have k : wX_releaseJob_31 post (nI j) kc (nI n) ad (lN t) md la xn xd pe cr lo hi nx pd rX dn dm cX st := by
    unfold wX_releaseJob_31
    rw [kz_cl hj, kz_s0 hj]
    refine ⟨kz_sv0 hj, kz_sv0 hj, fun a1 e1 => ⟨kz_v8 hj, fun a2 e2 => ⟨kz_v8 hj, fun a3 e3 => ⟨kz_v8 hj, fun a4 e4 => ⟨kz_v8 hj, kz_v8 hj, fun a5 e5 => ?_⟩⟩⟩⟩⟩
    subst e1; subst e2; subst e3; subst e4; subst e5
    exact hp
  unfold wpX_releaseJob
  dsimp only
  rw [kz_cl hj]
  by_cases m : md = 1
  · exact br_t m ⟨kz_v8 hj, br_f (fun z => h ⟨m, z⟩) k⟩
  · exact br_f m k
