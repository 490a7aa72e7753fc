/-! late jobs, dropped jobs, is a job pending, keys, the choice -/
theorem kz_miss (n t : Nat) (kc ad md la xn xd : Int32) (pe cr lo hi nx : Nat → Int32) (st dn dm : Nat → Int32) (rX : Nat → Int64) (rY : Nat → Int32) (x4 : Int32) (hT : kz_T n pe lo hi cr) (hn : n ≤ 8) (ht : t < 2 ^ 31) (hL : kz_L t rX rY) (ht2 : t + 16 < 2 ^ 31) : ∀ d j, j + d = n → ∀ (pd cX cY : Nat → Int32), kz_C cX cY →
    ∃ (pd' cX' cY' : Nat → Int32), kz_C cX' cY'
      ∧ (∀ post : SX → Prop, wX_missDeadlines_2 post 1 (nI n) kc (nI n) ad (lN t) md la xn xd pe cr lo hi nx pd' rX dn dm cX' st → wX_missDeadlines_2 post (d + 1) (nI j) kc (nI n) ad (lN t) md la xn xd pe cr lo hi nx pd rX dn dm cX st)
      ∧ (∀ post : Int32 → SY → Prop, wY_tick_340 post x4 kc (nI n) ad (nI t) md la xn xd 1 (nI n) pe lo hi cr nx pd' rY dm dn cY' st → wY_tick_340 post x4 kc (nI n) ad (nI t) md la xn xd (d + 1) (nI j) pe lo hi cr nx pd rY dm dn cY st) := by
  intro d
  induction d with
  | zero =>
    intro j hj pd cX cY hC
    have e : j = n := by omega
    rw [e]
    exact ⟨pd, cX, cY, hC, fun _ h => h, fun _ h => h⟩
  | succ d ih =>
    intro j hj pd cX cY hC
    have hj8 : j < 8 := by omega
    have hge : ¬ nI n ≤ nI j := nI_ge (by omega) (by omega)
    have hv := kz_v8 hj8
    have ec := kz_cl hj8
    obtain ⟨p, ep, hp1, hp16⟩ := kz_T_p hT (show j < n by omega)
    obtain ⟨r, hr, erX, erY⟩ := hL j
    have qX : (lN t < rX (nI j).toNatClampNeg + (pe (nI j).toNatClampNeg).toInt64) ↔ t < r + p := by
      rw [ec, ep, erX, nI_l (by omega), lN_add, lN_lt (by omega) (by omega)]
    have qY : (nI t < rY (nI j).toNatClampNeg + pe (nI j).toNatClampNeg) ↔ t < r + p := by
      rw [ec, ep, erY, nI_add, nI_ltI (by omega) (by omega)]
    by_cases z : pd j = 0
    · have z' : pd (nI j).toNatClampNeg = 0 := by rw [ec]; exact z
      obtain ⟨pd', cX', cY', g1, g2, g3⟩ := ih (j + 1) (by omega) pd cX cY hC
      refine ⟨pd', cX', cY', g1, fun post h => ?_, fun post h => ?_⟩
      · exact br_f hge ⟨hv, br_t z' (nm_r (nI_1 j) (g2 post h))⟩
      · exact br_f hge ⟨hv, br_t z' (nm_r (nI_1 j) (g3 post h))⟩
    · have z' : ¬ pd (nI j).toNatClampNeg = 0 := by rw [ec]; exact z
      by_cases w : t < r + p
      · obtain ⟨pd', cX', cY', g1, g2, g3⟩ := ih (j + 1) (by omega) pd cX cY hC
        refine ⟨pd', cX', cY', g1, fun post h => ?_, fun post h => ?_⟩
        · exact br_f hge ⟨hv, br_f z' ⟨hv, hv, br_t (qX.mpr w) (nm_r (nI_1 j) (g2 post h))⟩⟩
        · exact br_f hge ⟨hv, br_f z' ⟨hv, hv, br_t (qY.mpr w) (nm_r (nI_1 j) (g3 post h))⟩⟩
      · obtain ⟨pd', cX', cY', g1, g2, g3⟩ := ih (j + 1) (by omega) (upd pd j (vp_nar .boolean 0)) _ _ (kz_C_i hC j 5 hj8 (by omega))
        have wX : ¬ lN t < rX (nI j).toNatClampNeg + (pe (nI j).toNatClampNeg).toInt64 := fun q => w (qX.mp q)
        have wY : ¬ nI t < rY (nI j).toNatClampNeg + pe (nI j).toNatClampNeg := fun q => w (qY.mp q)
        refine ⟨pd', cX', cY', g1, fun post h => ?_, fun post h => ?_⟩
        · refine br_f hge ⟨hv, br_f z' ⟨hv, hv, br_f wX ?_⟩⟩
          exact kz_xej n t kc ad md la xn xd pe cr lo hi nx pd dn dm cX st rX 5 j (by omega) hj8 _ (nm_r (nI_1 j) (g2 post h))
        · have y5 : (nI j * 6 + 5).toNatClampNeg = j * 6 + 5 := kz_yc (k := 5) (by omega) hj8
          have w5 : vp_in (nI j * 6 + 5) 48 := kz_yv (k := 5) (by omega) hj8
          refine br_f hge ⟨hv, br_f z' ⟨hv, hv, br_f wY ⟨w5, w5, fun a ea => ⟨hv, fun b eb => nm_r (nI_1 j) ?_⟩⟩⟩⟩
          rw [y5] at ea
          rw [ec] at eb
          subst ea; subst eb
          exact g3 post h
theorem kz_drop (n t : Nat) (kc ad md la xn xd : Int32) (pe cr lo hi nx : Nat → Int32) (st dn dm : Nat → Int32) (rX : Nat → Int64) (rY : Nat → Int32) (x1 x4 x5 : Int32) (hn : n ≤ 8) : ∀ d j, j + d = n → ∀ (pd cX cY : Nat → Int32), kz_C cX cY →
    ∃ (pd' cX' cY' : Nat → Int32), kz_C cX' cY'
      ∧ (∀ post : SX → Prop, wX_switchToHi_17 post 1 (nI n) kc (nI n) ad (lN t) md la xn xd pe cr lo hi nx pd' rX dn dm cX' st → wX_switchToHi_17 post (d + 1) (nI j) kc (nI n) ad (lN t) md la xn xd pe cr lo hi nx pd rX dn dm cX st)
      ∧ (∀ post : Int32 → SY → Prop, wY_tick_235 post x1 x4 x5 kc (nI n) ad (nI t) md la xn xd 1 (nI n) pe lo hi cr nx pd' rY dm dn cY' st → wY_tick_235 post x1 x4 x5 kc (nI n) ad (nI t) md la xn xd (d + 1) (nI j) pe lo hi cr nx pd rY dm dn cY st) := by
  intro d
  induction d with
  | zero =>
    intro j hj pd cX cY hC
    have e : j = n := by omega
    rw [e]
    exact ⟨pd, cX, cY, hC, fun _ h => h, fun _ h => h⟩
  | succ d ih =>
    intro j hj pd cX cY hC
    have hj8 : j < 8 := by omega
    have hge : ¬ nI n ≤ nI j := nI_ge (by omega) (by omega)
    have hv := kz_v8 hj8
    have ec := kz_cl hj8
    by_cases c : cr j = 0
    · have c' : cr (nI j).toNatClampNeg = 0 := by rw [ec]; exact c
      by_cases z : pd j = 0
      · have z' : pd (nI j).toNatClampNeg = 0 := by rw [ec]; exact z
        obtain ⟨pd', cX', cY', g1, g2, g3⟩ := ih (j + 1) (by omega) pd cX cY hC
        refine ⟨pd', cX', cY', g1, fun post h => ?_, fun post h => ?_⟩
        · exact br_f hge ⟨hv, br_t c' ⟨hv, br_t z' (nm_r (nI_1 j) (g2 post h))⟩⟩
        · exact br_f hge ⟨hv, br_t c' ⟨hv, br_t z' (nm_r (nI_1 j) (g3 post h))⟩⟩
      · have z' : ¬ pd (nI j).toNatClampNeg = 0 := by rw [ec]; exact z
        obtain ⟨pd', cX', cY', g1, g2, g3⟩ := ih (j + 1) (by omega) (upd pd j (vp_nar .boolean 0)) _ _ (kz_C_i hC j 3 hj8 (by omega))
        refine ⟨pd', cX', cY', g1, fun post h => ?_, fun post h => ?_⟩
        · refine br_f hge ⟨hv, br_t c' ⟨hv, br_f z' ?_⟩⟩
          exact kz_xej n t kc ad md la xn xd pe cr lo hi nx pd dn dm cX st rX 3 j (by omega) hj8 _ (nm_r (nI_1 j) (g2 post h))
        · have y3 : (nI j * 6 + 3).toNatClampNeg = j * 6 + 3 := kz_yc (k := 3) (by omega) hj8
          have w3 : vp_in (nI j * 6 + 3) 48 := kz_yv (k := 3) (by omega) hj8
          refine br_f hge ⟨hv, br_t c' ⟨hv, br_f z' ⟨hv, fun b eb => ⟨w3, w3, fun a ea => nm_r (nI_1 j) ?_⟩⟩⟩⟩
          rw [y3] at ea
          rw [ec] at eb
          subst ea; subst eb
          exact g3 post h
    · have c' : ¬ cr (nI j).toNatClampNeg = 0 := by rw [ec]; exact c
      obtain ⟨pd', cX', cY', g1, g2, g3⟩ := ih (j + 1) (by omega) pd cX cY hC
      refine ⟨pd', cX', cY', g1, fun post h => ?_, fun post h => ?_⟩
      · exact br_f hge ⟨hv, br_f c' (nm_r (nI_1 j) (g2 post h))⟩
      · exact br_f hge ⟨hv, br_f c' (nm_r (nI_1 j) (g3 post h))⟩
theorem kz_any1 (n t : Nat) (kc ad md la xn xd : Int32) (pe cr lo hi nx : Nat → Int32) (pd rY dm dn cY st : Nat → Int32) (x4 : Int32) (hn : n ≤ 8) (post : Int32 → SY → Prop) (h : wY_tick_425 post x4 kc (nI n) ad (nI t) md la xn xd pe lo hi cr nx pd rY dm dn cY st 1 1 (nI n)) : ∀ d j, j + d = n → wY_tick_425 post x4 kc (nI n) ad (nI t) md la xn xd pe lo hi cr nx pd rY dm dn cY st (d + 1) 1 (nI j) := by
  intro d
  induction d with
  | zero =>
    intro j hj
    have e : j = n := by omega
    rw [e]
    exact h
  | succ d ih =>
    intro j hj
    have hj8 : j < 8 := by omega
    have hge : ¬ nI n ≤ nI j := nI_ge (by omega) (by omega)
    have hv := kz_v8 hj8
    refine br_f hge ⟨hv, br_c (fun _ => nm_r (nI_1 j) (ih (j + 1) (by omega))) (fun _ => nm_r (nI_1 j) (ih (j + 1) (by omega)))⟩
theorem kz_any (n t : Nat) (kc ad md la xn xd : Int32) (pe cr lo hi nx : Nat → Int32) (pd dn dm cX st : Nat → Int32) (rX : Nat → Int64) (rY cY : Nat → Int32) (x4 : Int32) (hn : n ≤ 8) : ∀ d j, j + d = n →
    ((∀ post : Int32 → Prop, post 0 → wX_anyPending_2 post kc (nI n) ad (lN t) md la xn xd pe cr lo hi nx pd rX dn dm cX st (d + 1) (nI j)) ∧ (∀ post : Int32 → SY → Prop, wY_tick_425 post x4 kc (nI n) ad (nI t) md la xn xd pe lo hi cr nx pd rY dm dn cY st 1 0 (nI n) → wY_tick_425 post x4 kc (nI n) ad (nI t) md la xn xd pe lo hi cr nx pd rY dm dn cY st (d + 1) 0 (nI j)))
    ∨ ((∀ post : Int32 → Prop, post 1 → wX_anyPending_2 post kc (nI n) ad (lN t) md la xn xd pe cr lo hi nx pd rX dn dm cX st (d + 1) (nI j)) ∧ (∀ post : Int32 → SY → Prop, wY_tick_425 post x4 kc (nI n) ad (nI t) md la xn xd pe lo hi cr nx pd rY dm dn cY st 1 1 (nI n) → wY_tick_425 post x4 kc (nI n) ad (nI t) md la xn xd pe lo hi cr nx pd rY dm dn cY st (d + 1) 0 (nI j))) := by
  intro d
  induction d with
  | zero =>
    intro j hj
    have e : j = n := by omega
    rw [e]
    exact Or.inl ⟨fun post h => br_t (nI_le (Nat.le_refl n) (by omega)) h, fun _ h => h⟩
  | succ d ih =>
    intro j hj
    have hj8 : j < 8 := by omega
    have hge : ¬ nI n ≤ nI j := nI_ge (by omega) (by omega)
    have hv := kz_v8 hj8
    have ec := kz_cl hj8
    by_cases z : pd j = 0
    · have z' : pd (nI j).toNatClampNeg = 0 := by rw [ec]; exact z
      cases ih (j + 1) (by omega) with
      | inl g => exact Or.inl ⟨fun post h => br_f hge ⟨hv, br_t z' (nm_r (nI_1 j) (g.1 post h))⟩, fun post h => br_f hge ⟨hv, br_t z' (nm_r (nI_1 j) (g.2 post h))⟩⟩
      | inr g => exact Or.inr ⟨fun post h => br_f hge ⟨hv, br_t z' (nm_r (nI_1 j) (g.1 post h))⟩, fun post h => br_f hge ⟨hv, br_t z' (nm_r (nI_1 j) (g.2 post h))⟩⟩
    · have z' : ¬ pd (nI j).toNatClampNeg = 0 := by rw [ec]; exact z
      exact Or.inr ⟨fun post h => br_f hge ⟨hv, br_f z' h⟩, fun post h => br_f hge ⟨hv, br_f z' (nm_r (nI_1 j) (kz_any1 n t kc ad md la xn xd pe cr lo hi nx pd rY dm dn cY st x4 hn post h d (j + 1) (by omega)))⟩⟩
theorem kz_key (n t : Nat) (kc ad md la xn xd : Int32) (pe cr lo hi nx : Nat → Int32) (pd dn dm cX st : Nat → Int32) (rX : Nat → Int64) (rY cY : Nat → Int32) (ht : t < 2 ^ 31) (hL : kz_L t rX rY) (j : Nat) (hj8 : j < 8) :
    ∃ q : Int64, (∀ post : Int64 → Prop, post q → wpX_priorityKey post (kc, (nI n), ad, (lN t), md, la, xn, xd, pe, cr, lo, hi, nx, pd, rX, dn, dm, cX, st) (nI j)) ∧ (∀ post : Int64 → Prop, post q → wpY_key post (kc, (nI n), ad, (nI t), md, la, xn, xd, pe, lo, hi, cr, nx, pd, rY, dm, dn, cY, st) (nI j)) := by
  have hv := kz_v8 hj8
  have ec := kz_cl hj8
  have er := kz_L_e hL ht j
  by_cases c : cr j = 1
  · by_cases m : md = 0
    · refine ⟨(rX j * xd.toInt64) + (xn.toInt64 * (pe j).toInt64), fun post h => ?_, fun post h => ?_⟩
      · unfold wpX_priorityKey
        dsimp only
        rw [ec]
        exact ⟨hv, br_t c (br_t m ⟨hv, hv, h⟩)⟩
      · unfold wpY_key
        dsimp only
        rw [ec, ← er]
        exact ⟨hv, br_t c (br_t m ⟨hv, hv, h⟩)⟩
    · refine ⟨(rX j + (pe j).toInt64) * xd.toInt64, fun post h => ?_, fun post h => ?_⟩
      · unfold wpX_priorityKey wX_priorityKey_44
        dsimp only
        rw [ec]
        exact ⟨hv, br_t c (br_f m ⟨hv, hv, h⟩)⟩
      · unfold wpY_key wY_key_45
        dsimp only
        rw [ec, ← er]
        exact ⟨hv, br_t c (br_f m ⟨hv, hv, h⟩)⟩
  · refine ⟨(rX j + (pe j).toInt64) * xd.toInt64, fun post h => ?_, fun post h => ?_⟩
    · unfold wpX_priorityKey wX_priorityKey_44
      dsimp only
      rw [ec]
      exact ⟨hv, br_f c ⟨hv, hv, h⟩⟩
    · unfold wpY_key wY_key_45
      dsimp only
      rw [ec, ← er]
      exact ⟨hv, br_f c ⟨hv, hv, h⟩⟩
def kz_ch (n : Nat) (c : Int32) : Prop := c = -1 ∨ ∃ i, i < n ∧ c = nI i
theorem kz_choose (n t : Nat) (kc ad md la xn xd : Int32) (pe cr lo hi nx : Nat → Int32) (pd dn dm cX st : Nat → Int32) (rX : Nat → Int64) (rY cY : Nat → Int32) (hn : n ≤ 8) (ht : t < 2 ^ 31) (hL : kz_L t rX rY) : ∀ d j, j + d = n → ∀ (c : Int32) (k : Int64), kz_ch n c →
    ∃ (c' : Int32) (k' : Int64), kz_ch n c' ∧ (∀ post : Int32 → Prop, post c' → wX_chooseTask_7 post kc (nI n) ad (lN t) md la xn xd pe cr lo hi nx pd rX dn dm cX st (d + 1) c k (nI j))
      ∧ (∀ post : Int32 → SY → Prop, wY_tick_7 post kc (nI n) ad (nI t) md la xn xd pe lo hi cr nx pd rY dm dn cY st 1 c' k' (nI n) → wY_tick_7 post kc (nI n) ad (nI t) md la xn xd pe lo hi cr nx pd rY dm dn cY st (d + 1) c k (nI j)) := by
  intro d
  induction d with
  | zero =>
    intro j hj c k hc
    have e : j = n := by omega
    rw [e]
    exact ⟨c, k, hc, fun post h => br_t (nI_le (Nat.le_refl n) (by omega)) h, fun _ h => h⟩
  | succ d ih =>
    intro j hj c k hc
    have hj8 : j < 8 := by omega
    have hge : ¬ nI n ≤ nI j := nI_ge (by omega) (by omega)
    have hv := kz_v8 hj8
    have ec := kz_cl hj8
    have hcj : kz_ch n (nI j) := Or.inr ⟨j, by omega, rfl⟩
    by_cases z : pd j = 0
    · have z' : pd (nI j).toNatClampNeg = 0 := by rw [ec]; exact z
      obtain ⟨c', k', g1, g2, g3⟩ := ih (j + 1) (by omega) c k hc
      exact ⟨c', k', g1, fun post h => br_f hge ⟨hv, br_t z' (nm_r (nI_1 j) (g2 post h))⟩, fun post h => br_f hge ⟨hv, br_t z' (nm_r (nI_1 j) (g3 post h))⟩⟩
    · have z' : ¬ pd (nI j).toNatClampNeg = 0 := by rw [ec]; exact z
      obtain ⟨q, kX, kY⟩ := kz_key n t kc ad md la xn xd pe cr lo hi nx pd dn dm cX st rX rY cY ht hL j hj8
      rcases hc with hc | ⟨i, hi1, hc⟩
      · subst hc
        obtain ⟨c', k', g1, g2, g3⟩ := ih (j + 1) (by omega) (nI j) q hcj
        refine ⟨c', k', g1, fun post h => br_f hge ⟨hv, br_f z' ?_⟩, fun post h => br_f hge ⟨hv, br_f z' ?_⟩⟩
        · exact kX _ (br_t rfl (nm_r (nI_1 j) (g2 post h)))
        · exact kY _ (br_t (by decide) (nm_r (nI_1 j) (g3 post h)))
      · subst hc
        have m1 : ¬ nI i = -1 := kz_nm1 (by omega)
        have m0 : ¬ nI i < 0 := nI_pos (by omega)
        by_cases w : k ≤ q
        · obtain ⟨c', k', g1, g2, g3⟩ := ih (j + 1) (by omega) (nI i) k (Or.inr ⟨i, hi1, rfl⟩)
          refine ⟨c', k', g1, fun post h => br_f hge ⟨hv, br_f z' ?_⟩, fun post h => br_f hge ⟨hv, br_f z' ?_⟩⟩
          · exact kX _ (br_f m1 (br_t w (nm_r (nI_1 j) (g2 post h))))
          · exact kY _ (br_f m0 (br_t w (nm_r (nI_1 j) (g3 post h))))
        · obtain ⟨c', k', g1, g2, g3⟩ := ih (j + 1) (by omega) (nI j) q hcj
          refine ⟨c', k', g1, fun post h => br_f hge ⟨hv, br_f z' ?_⟩, fun post h => br_f hge ⟨hv, br_f z' ?_⟩⟩
          · exact kX _ (br_f m1 (br_f w (nm_r (nI_1 j) (g2 post h))))
          · exact kY _ (br_f m0 (br_f w (nm_r (nI_1 j) (g3 post h))))
