/-! a tick, a run -/
theorem kz_nle {n : Nat} (hn : n ≤ 8) : nI n ≤ nI n := nI_le (Nat.le_refl n) (by omega)
/-- what follows step A -/
theorem kz_rest (n t : Nat) (kc ad md la xn xd : Int32) (pe cr lo hi nx : Nat → Int32) (st pd dn dm cX : Nat → Int32) (rX : Nat → Int64) (rY cY : Nat → Int32) (x4 : Int32) (hT : kz_T n pe lo hi cr) (hn : n ≤ 8) (ht : t + 17 < 2 ^ 31) (hL : kz_L t rX rY) (hC : kz_C cX cY) :
    ∃ (md' : Int32) (pd' : Nat → Int32) (rX' : Nat → Int64) (rY' dn' dm' cX' cY' st' : Nat → Int32), kz_L (t + 1) rX' rY' ∧ kz_C cX' cY'
      ∧ (∀ post : SX → Prop, post (kc, (nI n), ad, lN (t + 1), md', la, xn, xd, pe, cr, lo, hi, nx, pd', rX', dn', dm', cX', st') → wX_tick_47 post kc (nI n) ad (lN t) md la xn xd pe cr lo hi nx pd rX dn dm cX st)
      ∧ (∀ post : Int32 → SY → Prop, post x4 (kc, (nI n), ad, nI (t + 1), md', la, xn, xd, pe, lo, hi, cr, nx, pd', rY', dm', dn', cY', st') → wY_tick_327 post x4 kc (nI n) ad (nI t) md la xn xd pe lo hi cr nx pd rY dm dn cY st) := by
  have hL1 := kz_L_s hL
  obtain ⟨pd1, cX1, cY1, a1, a2, a3⟩ := kz_miss n (t + 1) kc ad md la xn xd pe cr lo hi nx st dn dm rX rY x4 hT hn (by omega) hL1 (by omega) n 0 (by omega) pd cX cY hC
  by_cases m : md = 1
  · cases kz_any n (t + 1) kc ad md la xn xd pe cr lo hi nx pd1 dn dm cX1 st rX rY cY1 x4 hn n 0 (by omega) with
    | inl g =>
      obtain ⟨pd', rX', rY', dn', dm', cX', cY', b1, b2, b3, b4⟩ := kz_release n (t + 1) kc ad 0 la xn xd pe cr lo hi nx (upd st 1 (st 1 + 1)) hT hn (by omega) pd1 rX rY dn dm cX1 cY1 hL1 a1
      refine ⟨0, pd', rX', rY', dn', dm', cX', cY', upd st 1 (st 1 + 1), b1, b2, fun post h => ?_, fun post h => ?_⟩
      · refine nm_r (lN_1 t) ⟨n + 1, a2 _ (br_t (kz_nle hn) ?_)⟩
        refine br_t m ⟨n + 1, g.1 _ (br_t rfl (nm_e ?_))⟩
        exact b3 _ h
      · refine nm_r (nI_1 t) ⟨n + 1, a3 _ (br_t (kz_nle hn) (br_t m ⟨n + 1, g.2 _ (br_t (kz_nle hn) (br_t rfl (nm_e ?_)))⟩))⟩
        exact b4 _ h
    | inr g =>
      obtain ⟨pd', rX', rY', dn', dm', cX', cY', b1, b2, b3, b4⟩ := kz_release n (t + 1) kc ad md la xn xd pe cr lo hi nx st hT hn (by omega) pd1 rX rY dn dm cX1 cY1 hL1 a1
      refine ⟨md, pd', rX', rY', dn', dm', cX', cY', st, b1, b2, fun post h => ?_, fun post h => ?_⟩
      · refine nm_r (lN_1 t) ⟨n + 1, a2 _ (br_t (kz_nle hn) ?_)⟩
        refine br_t m ⟨n + 1, g.1 _ (br_f (by decide) ?_)⟩
        exact b3 _ h
      · refine nm_r (nI_1 t) ⟨n + 1, a3 _ (br_t (kz_nle hn) (br_t m ⟨n + 1, g.2 _ (br_t (kz_nle hn) (br_f (by decide) ?_))⟩))⟩
        exact b4 _ h
  · obtain ⟨pd', rX', rY', dn', dm', cX', cY', b1, b2, b3, b4⟩ := kz_release n (t + 1) kc ad md la xn xd pe cr lo hi nx st hT hn (by omega) pd1 rX rY dn dm cX1 cY1 hL1 a1
    refine ⟨md, pd', rX', rY', dn', dm', cX', cY', st, b1, b2, fun post h => ?_, fun post h => ?_⟩
    · refine nm_r (lN_1 t) ⟨n + 1, a2 _ (br_t (kz_nle hn) ?_)⟩
      refine br_f m ?_
      exact b3 _ h
    · refine nm_r (nI_1 t) ⟨n + 1, a3 _ (br_t (kz_nle hn) (br_f m ?_))⟩
      exact b4 _ h
theorem kz_65 (n t : Nat) (kc ad md la xn xd : Int32) (pe cr lo hi nx : Nat → Int32) (st pd dn dm cX : Nat → Int32) (rX : Nat → Int64) (rY cY : Nat → Int32) (u : Int32) (i : Nat) (hi8 : i < 8) (hC : kz_C cX cY) :
    ∃ (pd' cX' cY' : Nat → Int32), kz_C cX' cY'
      ∧ (∀ post : SX → Prop, post (kc, (nI n), ad, (lN t), md, la, xn, xd, pe, cr, lo, hi, nx, pd', rX, dn, dm, cX', st) → wX_execute_65 post (nI i) u kc (nI n) ad (lN t) md la xn xd pe cr lo hi nx pd rX dn dm cX st)
      ∧ (∀ post : Int32 → SY → Prop, wY_tick_327 post 1 kc (nI n) ad (nI t) md la xn xd pe lo hi cr nx pd' rY dm dn cY' st → wY_tick_294 post (nI i) 1 u kc (nI n) ad (nI t) md la xn xd pe lo hi cr nx pd rY dm dn cY st) := by
  have hv := kz_v8 hi8
  have ec := kz_cl hi8
  by_cases w : u = hi i
  · have w' : u = hi (nI i).toNatClampNeg := by rw [ec]; exact w
    have y2 : (nI i * 6 + 2).toNatClampNeg = i * 6 + 2 := kz_yc (k := 2) (by omega) hi8
    have w2 : vp_in (nI i * 6 + 2) 48 := kz_yv (k := 2) (by omega) hi8
    refine ⟨upd pd i (vp_nar .boolean 0), _, _, kz_C_i hC i 2 hi8 (by omega), fun post h => ⟨hv, br_t w' ?_⟩, fun post h => ⟨hv, br_t w' ⟨w2, w2, fun a ea => ⟨hv, fun b eb => ?_⟩⟩⟩⟩
    · exact kz_xej n t kc ad md la xn xd pe cr lo hi nx pd dn dm cX st rX 2 i (by omega) hi8 _ h
    · rw [y2] at ea
      rw [ec] at eb
      subst ea; subst eb
      exact h
  · have w' : ¬ u = hi (nI i).toNatClampNeg := by rw [ec]; exact w
    exact ⟨pd, cX, cY, hC, fun post h => ⟨hv, br_f w' h⟩, fun post h => ⟨hv, br_f w' h⟩⟩
theorem kz_sw (n t : Nat) (kc ad md la xn xd : Int32) (pe cr lo hi nx : Nat → Int32) (st pd dn dm cX : Nat → Int32) (rX : Nat → Int64) (rY cY : Nat → Int32) (x1 x4 x5 : Int32) (hn : n ≤ 8) (hC : kz_C cX cY) :
    ∃ (pd' cX' cY' : Nat → Int32), kz_C cX' cY'
      ∧ (∀ post : SX → Prop, post (kc, (nI n), ad, (lN t), 1, la, xn, xd, pe, cr, lo, hi, nx, pd', rX, dn, dm, cX', upd st 0 (st 0 + 1)) → wpX_switchToHi post (kc, (nI n), ad, (lN t), md, la, xn, xd, pe, cr, lo, hi, nx, pd, rX, dn, dm, cX, st))
      ∧ (∀ post : Int32 → SY → Prop, wY_tick_294 post x1 x4 x5 kc (nI n) ad (nI t) 1 la xn xd pe lo hi cr nx pd' rY dm dn cY' (upd st 0 (st 0 + 1)) → ∃ n235 : Nat, wY_tick_235 post x1 x4 x5 kc (nI n) ad (nI t) 1 la xn xd n235 0 pe lo hi cr nx pd rY dm dn cY (upd st 0 (st 0 + 1))) := by
  obtain ⟨pd', cX', cY', g1, g2, g3⟩ := kz_drop n t kc ad 1 la xn xd pe cr lo hi nx (upd st 0 (st 0 + 1)) dn dm rX rY x1 x4 x5 hn n 0 (by omega) pd cX cY hC
  refine ⟨pd', cX', cY', g1, fun post h => ?_, fun post h => ⟨n + 1, ?_⟩⟩
  · exact nm_e ⟨n + 1, g2 post (br_t (kz_nle hn) h)⟩
  · exact g3 post (br_t (kz_nle hn) h)
/-- step A with a job -/
theorem kz_exec (n t : Nat) (kc ad md la xn xd : Int32) (pe cr lo hi nx : Nat → Int32) (st pd dn dm cX : Nat → Int32) (rX : Nat → Int64) (rY cY : Nat → Int32) (hT : kz_T n pe lo hi cr) (hn : n ≤ 8) (hC : kz_C cX cY) (k : Int64) (i : Nat) (hin : i < n) :
    ∃ (md' : Int32) (pd' dn' cX' cY' st' : Nat → Int32), kz_C cX' cY'
      ∧ (∀ post : SX → Prop, post (kc, (nI n), ad, (lN t), md', nI i, xn, xd, pe, cr, lo, hi, nx, pd', rX, dn', dm, cX', st') → wpX_execute post (kc, (nI n), ad, (lN t), md, nI i, xn, xd, pe, cr, lo, hi, nx, pd, rX, dn, dm, cX, upd st 3 (st 3 + 1)) (nI i))
      ∧ (∀ post : Int32 → SY → Prop, wY_tick_327 post 1 kc (nI n) ad (nI t) md' (nI i) xn xd pe lo hi cr nx pd' rY dm dn' cY' st' → wY_tick_7 post kc (nI n) ad (nI t) md la xn xd pe lo hi cr nx pd rY dm dn cY st 1 (nI i) k (nI n)) := by
  have hi8 : i < 8 := by omega
  have hv := kz_v8 hi8
  have ec := kz_cl hi8
  have h0 : (0 : Int32) ≤ nI i := nI_pos' (by omega)
  have y1 : (nI i * 6 + 1).toNatClampNeg = i * 6 + 1 := kz_yc (k := 1) (by omega) hi8
  have w1 : vp_in (nI i * 6 + 1) 48 := kz_yv (k := 1) (by omega) hi8
  have y2 : (nI i * 6 + 2).toNatClampNeg = i * 6 + 2 := kz_yc (k := 2) (by omega) hi8
  have w2 : vp_in (nI i * 6 + 2) 48 := kz_yv (k := 2) (by omega) hi8
  by_cases a : upd dn i (dn i + 1) i = dm i
  · refine ⟨md, upd pd i (vp_nar .boolean 0), upd dn i (dn i + 1), _, _, upd st 3 (st 3 + 1), kz_C_i hC i 1 hi8 (by omega), fun post h => ?_, fun post h => ?_⟩
    · unfold wpX_execute
      dsimp only
      rw [ec]
      refine ⟨hv, hv, nm_e ⟨hv, nm_e ⟨hv, br_t a ?_⟩⟩⟩
      exact kz_xej n t kc ad md (nI i) xn xd pe cr lo hi nx pd (upd dn i (dn i + 1)) dm cX (upd st 3 (st 3 + 1)) rX 1 i (by omega) hi8 _ h
    · refine br_t (kz_nle hn) (br_t h0 (nm_e ⟨hv, hv, ?_⟩))
      rw [ec, y1]
      exact nm_e ⟨hv, nm_e ⟨hv, br_t a ⟨w1, w1, nm_e ⟨hv, nm_e h⟩⟩⟩⟩
  · rcases kz_T_c hT hin with ⟨c, el⟩ | c
    · have c1 : ¬ cr i = 1 := by rw [c]; decide
      obtain ⟨pd', cX', cY', g1, g2, g3⟩ := kz_65 n t kc ad md (nI i) xn xd pe cr lo hi nx (upd st 3 (st 3 + 1)) pd (upd dn i (dn i + 1)) dm cX rX rY cY (upd dn i (dn i + 1) i) i hi8 hC
      by_cases w : upd dn i (dn i + 1) i = lo i
      · have w' : upd dn i (dn i + 1) i = hi i := by rw [el]; exact w
        refine ⟨md, upd pd i (vp_nar .boolean 0), upd dn i (dn i + 1), _, _, upd st 3 (st 3 + 1), kz_C_i hC i 2 hi8 (by omega), fun post h => ?_, fun post h => ?_⟩
        · unfold wpX_execute wX_execute_65
          dsimp only
          rw [ec]
          refine ⟨hv, hv, nm_e ⟨hv, nm_e ⟨hv, br_f a ⟨hv, br_f c1 ⟨hv, br_t w' ?_⟩⟩⟩⟩⟩
          exact kz_xej n t kc ad md (nI i) xn xd pe cr lo hi nx pd (upd dn i (dn i + 1)) dm cX (upd st 3 (st 3 + 1)) rX 2 i (by omega) hi8 _ h
        · refine br_t (kz_nle hn) (br_t h0 (nm_e ⟨hv, hv, ?_⟩))
          rw [ec, y2]
          exact nm_e ⟨hv, nm_e ⟨hv, br_f a ⟨hv, br_t c ⟨hv, br_t w ⟨w2, w2, nm_e ⟨hv, nm_e h⟩⟩⟩⟩⟩⟩
      · have w' : ¬ upd dn i (dn i + 1) i = hi i := by rw [el]; exact w
        refine ⟨md, pd, upd dn i (dn i + 1), cX, cY, upd st 3 (st 3 + 1), hC, fun post h => ?_, fun post h => ?_⟩
        · unfold wpX_execute wX_execute_65
          dsimp only
          rw [ec]
          exact ⟨hv, hv, nm_e ⟨hv, nm_e ⟨hv, br_f a ⟨hv, br_f c1 ⟨hv, br_f w' h⟩⟩⟩⟩⟩
        · refine br_t (kz_nle hn) (br_t h0 (nm_e ⟨hv, hv, ?_⟩))
          rw [ec]
          exact nm_e ⟨hv, nm_e ⟨hv, br_f a ⟨hv, br_t c ⟨hv, br_f w h⟩⟩⟩⟩
    · have c0 : ¬ cr i = 0 := by rw [c]; decide
      by_cases m : md = 0
      · by_cases w : upd dn i (dn i + 1) i = lo i
        · obtain ⟨pd1, cX1, cY1, f1, f2, f3⟩ := kz_sw n t kc ad md (nI i) xn xd pe cr lo hi nx (upd st 3 (st 3 + 1)) pd (upd dn i (dn i + 1)) dm cX rX rY cY (nI i) 1 (upd dn i (dn i + 1) i) hn hC
          obtain ⟨pd', cX', cY', g1, g2, g3⟩ := kz_65 n t kc ad 1 (nI i) xn xd pe cr lo hi nx (upd (upd st 3 (st 3 + 1)) 0 (upd st 3 (st 3 + 1) 0 + 1)) pd1 (upd dn i (dn i + 1)) dm cX1 rX rY cY1 (upd dn i (dn i + 1) i) i hi8 f1
          refine ⟨1, pd', upd dn i (dn i + 1), cX', cY', upd (upd st 3 (st 3 + 1)) 0 (upd st 3 (st 3 + 1) 0 + 1), g1, fun post h => ?_, fun post h => ?_⟩
          · unfold wpX_execute
            dsimp only
            rw [ec]
            refine ⟨hv, hv, nm_e ⟨hv, nm_e ⟨hv, br_f a ⟨hv, br_t c (br_t m ⟨hv, br_t w ?_⟩)⟩⟩⟩⟩
            exact f2 _ (g2 _ h)
          · refine br_t (kz_nle hn) (br_t h0 (nm_e ⟨hv, hv, ?_⟩))
            rw [ec]
            refine nm_e ⟨hv, nm_e ⟨hv, br_f a ⟨hv, br_f c0 (br_t m ⟨hv, br_t w (nm_e ?_)⟩)⟩⟩⟩
            exact f3 _ (g3 _ h)
        · obtain ⟨pd', cX', cY', g1, g2, g3⟩ := kz_65 n t kc ad md (nI i) xn xd pe cr lo hi nx (upd st 3 (st 3 + 1)) pd (upd dn i (dn i + 1)) dm cX rX rY cY (upd dn i (dn i + 1) i) i hi8 hC
          refine ⟨md, pd', upd dn i (dn i + 1), cX', cY', upd st 3 (st 3 + 1), g1, fun post h => ?_, fun post h => ?_⟩
          · unfold wpX_execute
            dsimp only
            rw [ec]
            exact ⟨hv, hv, nm_e ⟨hv, nm_e ⟨hv, br_f a ⟨hv, br_t c (br_t m ⟨hv, br_f w (g2 _ h)⟩)⟩⟩⟩⟩
          · refine br_t (kz_nle hn) (br_t h0 (nm_e ⟨hv, hv, ?_⟩))
            rw [ec]
            exact nm_e ⟨hv, nm_e ⟨hv, br_f a ⟨hv, br_f c0 (br_t m ⟨hv, br_f w (g3 _ h)⟩)⟩⟩⟩
      · obtain ⟨pd', cX', cY', g1, g2, g3⟩ := kz_65 n t kc ad md (nI i) xn xd pe cr lo hi nx (upd st 3 (st 3 + 1)) pd (upd dn i (dn i + 1)) dm cX rX rY cY (upd dn i (dn i + 1) i) i hi8 hC
        refine ⟨md, pd', upd dn i (dn i + 1), cX', cY', upd st 3 (st 3 + 1), g1, fun post h => ?_, fun post h => ?_⟩
        · unfold wpX_execute
          dsimp only
          rw [ec]
          exact ⟨hv, hv, nm_e ⟨hv, nm_e ⟨hv, br_f a ⟨hv, br_t c (br_f m (g2 _ h))⟩⟩⟩⟩
        · refine br_t (kz_nle hn) (br_t h0 (nm_e ⟨hv, hv, ?_⟩))
          rw [ec]
          exact nm_e ⟨hv, nm_e ⟨hv, br_f a ⟨hv, br_f c0 (br_f m (g3 _ h))⟩⟩⟩
theorem kz_tick (n t : Nat) (kc ad md la xn xd : Int32) (pe cr lo hi nx : Nat → Int32) (st pd dn dm cX : Nat → Int32) (rX : Nat → Int64) (rY cY : Nat → Int32) (hT : kz_T n pe lo hi cr) (hn : n ≤ 8) (ht : t + 17 < 2 ^ 31) (hL : kz_L t rX rY) (hC : kz_C cX cY) :
    ∃ (md' la' r : Int32) (pd' : Nat → Int32) (rX' : Nat → Int64) (rY' dn' dm' cX' cY' st' : Nat → Int32), kz_L (t + 1) rX' rY' ∧ kz_C cX' cY'
      ∧ ((la' = -1 ∧ r = 0) ∨ (¬ la' = -1 ∧ r = 1))
      ∧ (∀ post : SX → Prop, post (kc, (nI n), ad, lN (t + 1), md', la', xn, xd, pe, cr, lo, hi, nx, pd', rX', dn', dm', cX', st') → wpX_tick post (kc, (nI n), ad, (lN t), md, la, xn, xd, pe, cr, lo, hi, nx, pd, rX, dn, dm, cX, st))
      ∧ (∀ post : Int32 → SY → Prop, post r (kc, (nI n), ad, nI (t + 1), md', la', xn, xd, pe, lo, hi, cr, nx, pd', rY', dm', dn', cY', st') → wpY_tick post (kc, (nI n), ad, (nI t), md, la, xn, xd, pe, lo, hi, cr, nx, pd, rY, dm, dn, cY, st)) := by
  obtain ⟨c, k, hc, pX, pY⟩ := kz_choose n t kc ad md la xn xd pe cr lo hi nx pd dn dm cX st rX rY cY hn (by omega) hL n 0 (by omega) (-1) 0 (Or.inl rfl)
  rcases hc with hc | ⟨i, hin, hc⟩
  · subst hc
    obtain ⟨md', pd', rX', rY', dn', dm', cX', cY', st', g1, g2, g3, g4⟩ := kz_rest n t kc ad md (-1) xn xd pe cr lo hi nx (upd st 2 (st 2 + 1)) pd dn dm cX rX rY cY 0 hT hn ht hL hC
    refine ⟨md', -1, 0, pd', rX', rY', dn', dm', cX', cY', st', g1, g2, Or.inl ⟨rfl, rfl⟩, fun post h => ⟨n + 1, ?_⟩, fun post h => ⟨n + 1, ?_⟩⟩
    · exact pX _ (br_t rfl (nm_e (g3 _ h)))
    · exact pY _ (br_t (kz_nle hn) (br_f (by decide) (nm_e (g4 _ h))))
  · subst hc
    obtain ⟨md1, pd1, dn1, cX1, cY1, st1, f1, f2, f3⟩ := kz_exec n t kc ad md la xn xd pe cr lo hi nx st pd dn dm cX rX rY cY hT hn hC k i hin
    obtain ⟨md', pd', rX', rY', dn', dm', cX', cY', st', g1, g2, g3, g4⟩ := kz_rest n t kc ad md1 (nI i) xn xd pe cr lo hi nx st1 pd1 dn1 dm cX1 rX rY cY1 1 hT hn ht hL f1
    have m1 : ¬ nI i = -1 := kz_nm1 (by omega)
    refine ⟨md', nI i, 1, pd', rX', rY', dn', dm', cX', cY', st', g1, g2, Or.inr ⟨m1, rfl⟩, fun post h => ⟨n + 1, ?_⟩, fun post h => ⟨n + 1, ?_⟩⟩
    · exact pX _ (br_f m1 (nm_e (f2 _ (g3 _ h))))
    · exact pY _ (f3 _ (g4 _ h))
theorem kz_run (n : Nat) (kc ad xn xd : Int32) (pe cr lo hi nx : Nat → Int32) (s : Nat) (hs : s ≤ 1000) (hT : kz_T n pe lo hi cr) (hn : n ≤ 8) : ∀ d j, j + d = s → ∀ (t : Nat) (b md la : Int32) (st pd dn dm cX : Nat → Int32) (rX : Nat → Int64) (rY cY : Nat → Int32), t + d + 17 < 2 ^ 31 → kz_L t rX rY → kz_C cX cY →
    ∃ (b' md' la' : Int32) (pd' : Nat → Int32) (rX' : Nat → Int64) (rY' dn' dm' cX' cY' st' : Nat → Int32), kz_L (t + d) rX' rY' ∧ kz_C cX' cY'
      ∧ (∀ post : Int32 → SX → Prop, post b' (kc, (nI n), ad, lN (t + d), md', la', xn, xd, pe, cr, lo, hi, nx, pd', rX', dn', dm', cX', st') → wX_run_25 post (nI s) (d + 1) b (nI j) kc (nI n) ad (lN t) md la xn xd pe cr lo hi nx pd rX dn dm cX st)
      ∧ (∀ post : Int32 → SY → Prop, post b' (kc, (nI n), ad, nI (t + d), md', la', xn, xd, pe, lo, hi, cr, nx, pd', rY', dm', dn', cY', st') → wY_run_25 post (nI s) (d + 1) b (nI j) kc (nI n) ad (nI t) md la xn xd pe lo hi cr nx pd rY dm dn cY st) := by
  intro d
  induction d with
  | zero =>
    intro j hj t b md la st pd dn dm cX rX rY cY ht hL hC
    have hle : nI s ≤ nI j := nI_le (by omega) (by omega)
    exact ⟨b, md, la, pd, rX, rY, dn, dm, cX, cY, st, hL, hC, fun post h => br_t hle h, fun post h => br_t hle h⟩
  | succ d ih =>
    intro j hj t b md la st pd dn dm cX rX rY cY ht hL hC
    have hge : ¬ nI s ≤ nI j := nI_ge (by omega) (by omega)
    obtain ⟨md1, la1, r, pd1, rX1, rY1, dn1, dm1, cX1, cY1, st1, f1, f2, f3, f4, f5⟩ := kz_tick n t kc ad md la xn xd pe cr lo hi nx st pd dn dm cX rX rY cY hT hn (by omega) hL hC
    have et : t + 1 + d = t + (d + 1) := by omega
    rcases f3 with ⟨e1, e2⟩ | ⟨e1, e2⟩
    · obtain ⟨b', md', la', pd', rX', rY', dn', dm', cX', cY', st', g1, g2, g3, g4⟩ := ih (j + 1) (by omega) (t + 1) b md1 la1 st1 pd1 dn1 dm1 cX1 rX1 rY1 cY1 (by omega) f1 f2
      rw [et] at g1 g3 g4
      refine ⟨b', md', la', pd', rX', rY', dn', dm', cX', cY', st', g1, g2, fun post h => br_f hge (f4 _ ?_), fun post h => br_f hge (f5 _ ?_)⟩
      · exact br_t e1 (nm_r (nI_1 j) (g3 post h))
      · exact nm_r (by rw [e2, Int32.add_zero]) (nm_r (nI_1 j) (g4 post h))
    · obtain ⟨b', md', la', pd', rX', rY', dn', dm', cX', cY', st', g1, g2, g3, g4⟩ := ih (j + 1) (by omega) (t + 1) (b + 1) md1 la1 st1 pd1 dn1 dm1 cX1 rX1 rY1 cY1 (by omega) f1 f2
      rw [et] at g1 g3 g4
      refine ⟨b', md', la', pd', rX', rY', dn', dm', cX', cY', st', g1, g2, fun post h => br_f hge (f4 _ ?_), fun post h => br_f hge (f5 _ ?_)⟩
      · exact br_f e1 (nm_e (nm_r (nI_1 j) (g3 post h)))
      · exact nm_r (by rw [e2]) (nm_r (nI_1 j) (g4 post h))
