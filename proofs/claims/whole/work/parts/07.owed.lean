/-! the relation, and what is owed -/
def i_Rel (k : Nat) (u : SX) (v : SY) : Prop := ∃ (c n t : Nat) (ad md la xn xd : Int32) (pe cr lo hi nx pd : Nat → Int32) (rX : Nat → Int64) (rY dn dm cX cY st : Nat → Int32),
  u = (nI c, (nI n), ad, (lN t), md, la, xn, xd, pe, cr, lo, hi, nx, pd, rX, dn, dm, cX, st) ∧ v = (nI c, (nI n), ad, (nI t), md, la, xn, xd, pe, lo, hi, cr, nx, pd, rY, dm, dn, cY, st) ∧ c ≤ 8 ∧ n ≤ c ∧ t ≤ 200 * k ∧ kz_T n pe lo hi cr ∧ kz_L t rX rY ∧ kz_C cX cY
  ∧ (ad = 0 → t = 0 ∧ md = 0 ∧ pd = (fun _ => 0) ∧ rX = (fun _ => 0) ∧ rY = (fun _ => 0) ∧ dn = (fun _ => 0) ∧ dm = (fun _ => 0) ∧ cX = (fun _ => 0) ∧ cY = (fun _ => 0))
theorem i_up {k : Nat} {u : SX} {v : SY} (h : i_Rel k u v) : i_Rel (k + 5) u v := by
  obtain ⟨c, n, t, ad, md, la, xn, xd, pe, cr, lo, hi, nx, pd, rX, rY, dn, dm, cX, cY, st, e1, e2, h1, h2, h3, h4⟩ := h
  exact ⟨c, n, t, ad, md, la, xn, xd, pe, cr, lo, hi, nx, pd, rX, rY, dn, dm, cX, cY, st, e1, e2, h1, h2, by omega, h4⟩
theorem kz_fresh (c : Nat) (hc : c ≤ 8) : i_Rel 1 (nI c, 0, 0, 0, 0, (-1), 0, 0, (fun _ => 0), (fun _ => 0), (fun _ => 0), (fun _ => 0), (fun _ => 0), (fun _ => 0), (fun _ => 0), (fun _ => 0), (fun _ => 0), (fun _ => 0), (fun _ => 0)) (nI c, 0, 0, 0, 0, (-1), 0, 0, (fun _ => 0), (fun _ => 0), (fun _ => 0), (fun _ => 0), (fun _ => 0), (fun _ => 0), (fun _ => 0), (fun _ => 0), (fun _ => 0), (fun _ => 0), (fun _ => 0)) :=
  ⟨c, 0, 0, 0, 0, -1, 0, 0, (fun _ => 0), (fun _ => 0), (fun _ => 0), (fun _ => 0), (fun _ => 0), (fun _ => 0), (fun _ => 0), (fun _ => 0), (fun _ => 0), (fun _ => 0), (fun _ => 0), (fun _ => 0), (fun _ => 0), rfl, rfl, hc, Nat.zero_le c, Nat.zero_le _, kz_T_0, kz_L_0, fun _ _ _ _ => rfl, fun _ => ⟨rfl, rfl, rfl, rfl, rfl, rfl, rfl, rfl, rfl⟩⟩
theorem i_vc0 (k0 : Int32) : wpX_init (fun u => wpY_init (fun v => i_Rel 1 u v) k0) k0 := by
  by_cases h1 : 1 ≤ k0
  · by_cases h8 : k0 ≤ 8
    · obtain ⟨j, hj, e⟩ := nI_of2 (x := k0) (M := 8) (n := 8) (by decide) (Int32.not_lt.mpr (Int32.le_trans (by decide) h1)) h8
      refine br_t h1 (br_t h8 (br_t h1 (br_t h8 ?_)))
      rw [e]
      exact kz_fresh j hj
    · exact br_t h1 (br_f h8 (br_t h1 (br_f h8 (kz_fresh 8 (by omega)))))
  · exact br_f h1 (br_f h1 (kz_fresh 1 (by omega)))
theorem kz_num {x : Int32} (h : ¬ x < 1) : ∃ p : Nat, p < 2 ^ 31 ∧ x = nI p ∧ 1 ≤ p := by
  obtain ⟨p, hp, e⟩ := nI_of (x := x) (fun z => h (Int32.lt_trans z (by decide)))
  refine ⟨p, hp, e, ?_⟩
  by_cases z : p = 0
  · subst z; subst e; exact absurd (by decide) h
  · omega
theorem kz_nar0 : vp_nar .boolean 0 = 0 := by decide
/-- is it a task: both sides say the same -/
theorem kz_it (n t : Nat) (kc ad md la xn xd : Int32) (pe cr lo hi nx : Nat → Int32) (c : Nat) (pd rY dn dm cY st : Nat → Int32) (ha : ad = 0) (hn : n < c) (hc : c ≤ 8) (v1 v2 v3 v4 : Int32) :
    ((∀ post : Int32 → Prop, post 0 → wpX_isTask post v1 v2 v3 v4) ∧ (∀ post : Int32 → SY → Prop, post (-1) (nI c, (nI n), ad, (nI t), md, la, xn, xd, pe, lo, hi, cr, nx, pd, rY, dm, dn, cY, st) → wpY_addTask post (nI c, (nI n), ad, (nI t), md, la, xn, xd, pe, lo, hi, cr, nx, pd, rY, dm, dn, cY, st) v1 v2 v3 v4))
    ∨ ((∀ post : Int32 → Prop, post 1 → wpX_isTask post v1 v2 v3 v4) ∧ (∀ post : Int32 → SY → Prop, wY_addTask_78 post v1 v2 v3 v4 (nI c) (nI n) ad (nI t) md la xn xd pe lo hi cr nx pd rY dm dn cY st → wpY_addTask post (nI c, (nI n), ad, (nI t), md, la, xn, xd, pe, lo, hi, cr, nx, pd, rY, dm, dn, cY, st) v1 v2 v3 v4)
      ∧ ((v4 = 1 ∧ kz_T1 v1 v2 v3 v4) ∨ (¬ v4 = 1 ∧ kz_T1 v1 v2 v2 v4))) := by
  have hnc : ¬ nI n = nI c := by rw [nI_eq (by omega) (by omega)]; omega
  by_cases h0 : v4 = 0
  · have h01 : ¬ v4 = 1 := by rw [h0]; decide
    by_cases a1 : v1 < 1
    · exact Or.inl ⟨fun post h => br_t h0 (br_t a1 h), fun post h => br_t ha (br_f hnc (br_t h0 (br_t a1 h)))⟩
    · by_cases a2 : 16 < v1
      · exact Or.inl ⟨fun post h => br_t h0 (br_f a1 (br_t a2 h)), fun post h => br_t ha (br_f hnc (br_t h0 (br_f a1 (br_f (Int32.not_le.mpr a2) h))))⟩
      · have a2' : v1 ≤ 16 := Int32.not_lt.mp a2
        by_cases a3 : v2 < 1
        · exact Or.inl ⟨fun post h => br_t h0 (br_f a1 (br_f a2 (br_t a3 h))), fun post h => br_t ha (br_f hnc (br_t h0 (br_f a1 (br_t a2' (br_t a3 h)))))⟩
        · by_cases a4 : v2 ≤ v1
          · refine Or.inr ⟨fun post h => br_t h0 (br_f a1 (br_f a2 (br_f a3 (br_t a4 (br_t h0 h))))), fun post h => br_t ha (br_f hnc (br_t h0 (br_f a1 (br_t a2' (br_f a3 (br_t a4 (br_f h01 h))))))), Or.inr ⟨h01, ?_⟩⟩
            obtain ⟨p, p1, p2, p3⟩ := kz_num a1
            obtain ⟨q, q1, q2, q3⟩ := kz_num a3
            rw [p2, q2, nI_leI q1 p1] at a4
            rw [p2, show (16 : Int32) = nI 16 from rfl, nI_leI p1 (by omega)] at a2'
            exact ⟨p, q, q, p2, q2, q2, q3, Nat.le_refl q, a4, a2', Or.inl ⟨h0, rfl⟩⟩
          · exact Or.inl ⟨fun post h => br_t h0 (br_f a1 (br_f a2 (br_f a3 (br_f a4 h)))), fun post h => br_t ha (br_f hnc (br_t h0 (br_f a1 (br_t a2' (br_f a3 (br_f a4 h))))))⟩
  · by_cases h1 : v4 = 1
    · by_cases a1 : v1 < 1
      · exact Or.inl ⟨fun post h => br_f h0 (br_t h1 (br_t a1 h)), fun post h => br_t ha (br_f hnc (br_f h0 (br_t h1 (br_t a1 h))))⟩
      · by_cases a2 : 16 < v1
        · exact Or.inl ⟨fun post h => br_f h0 (br_t h1 (br_f a1 (br_t a2 h))), fun post h => br_t ha (br_f hnc (br_f h0 (br_t h1 (br_f a1 (br_f (Int32.not_le.mpr a2) h)))))⟩
        · have a2' : v1 ≤ 16 := Int32.not_lt.mp a2
          by_cases a3 : v2 < 1
          · exact Or.inl ⟨fun post h => br_f h0 (br_t h1 (br_f a1 (br_f a2 (br_t a3 h)))), fun post h => br_t ha (br_f hnc (br_f h0 (br_t h1 (br_f a1 (br_t a2' (br_t a3 h))))))⟩
          · by_cases a4 : v2 ≤ v1
            · by_cases a5 : v3 < v2
              · exact Or.inl ⟨fun post h => br_f h0 (br_t h1 (br_f a1 (br_f a2 (br_f a3 (br_t a4 (br_f h0 (br_t a5 h))))))), fun post h => br_t ha (br_f hnc (br_f h0 (br_t h1 (br_f a1 (br_t a2' (br_f a3 (br_t a4 (br_t h1 (br_t a5 h)))))))))⟩
              · by_cases a6 : v1 < v3
                · exact Or.inl ⟨fun post h => br_f h0 (br_t h1 (br_f a1 (br_f a2 (br_f a3 (br_t a4 (br_f h0 (br_f a5 (br_t a6 h)))))))), fun post h => br_t ha (br_f hnc (br_f h0 (br_t h1 (br_f a1 (br_t a2' (br_f a3 (br_t a4 (br_t h1 (br_f a5 (br_f (Int32.not_le.mpr a6) h))))))))))⟩
                · have a6' : v3 ≤ v1 := Int32.not_lt.mp a6
                  refine Or.inr ⟨fun post h => br_f h0 (br_t h1 (br_f a1 (br_f a2 (br_f a3 (br_t a4 (br_f h0 (br_f a5 (br_f a6 h)))))))), fun post h => br_t ha (br_f hnc (br_f h0 (br_t h1 (br_f a1 (br_t a2' (br_f a3 (br_t a4 (br_t h1 (br_f a5 (br_t a6' h)))))))))), Or.inl ⟨h1, ?_⟩⟩
                  obtain ⟨p, p1, p2, p3⟩ := kz_num a1
                  obtain ⟨q, q1, q2, q3⟩ := kz_num a3
                  have a5' : v2 ≤ v3 := Int32.not_lt.mp a5
                  obtain ⟨s, s1, s2, s3⟩ := kz_num (x := v3) (fun z => a3 (Int32.lt_of_le_of_lt a5' z))
                  rw [q2, s2, nI_leI q1 s1] at a5'
                  rw [p2, s2, nI_leI s1 p1] at a6'
                  rw [p2, show (16 : Int32) = nI 16 from rfl, nI_leI p1 (by omega)] at a2'
                  exact ⟨p, q, s, p2, q2, s2, q3, a5', a6', a2', Or.inr h1⟩
            · exact Or.inl ⟨fun post h => br_f h0 (br_t h1 (br_f a1 (br_f a2 (br_f a3 (br_f a4 h))))), fun post h => br_t ha (br_f hnc (br_f h0 (br_t h1 (br_f a1 (br_t a2' (br_f a3 (br_f a4 h)))))))⟩
    · exact Or.inl ⟨fun post h => br_f h0 (br_f h1 h), fun post h => br_t ha (br_f hnc (br_f h0 (br_f h1 h)))⟩
theorem kz_z6 (n t : Nat) (kc ad md la xn xd : Int32) (pe cr lo hi nx : Nat → Int32) (pd rY dn dm st : Nat → Int32) (hn : n < 8) (post : Int32 → SY → Prop) (h : post (nI n) (kc, nI (n + 1), ad, (nI t), md, la, xn, xd, pe, lo, hi, cr, nx, pd, rY, dm, dn, (fun _ => 0), st)) : ∀ d j, j + d = 6 → wY_addTask_170 post (nI n) kc (nI n) ad (nI t) md la xn xd (d + 1) (nI j) pe lo hi cr nx pd rY dm dn (fun _ => 0) st := by
  intro d
  induction d with
  | zero =>
    intro j hj
    have e : j = 6 := by omega
    subst e
    exact br_t (by decide) (nm_r (nI_1 n) h)
  | succ d ih =>
    intro j hj
    have h6 : ¬ (6 : Int32) ≤ nI j := nI_ge (b := 6) (by omega) (by decide)
    have hv := kz_yv (k := j) (j := n) (by omega) hn
    exact br_f h6 ⟨hv, nm_r (kz_ud0 _) (nm_r (nI_1 j) (ih (j + 1) (by omega)))⟩
theorem i_vc_addTask {k : Nat} {u : SX} {v : SY} (I : i_Rel k u v) (hk : k + 5 ≤ 2561) (v1 : Int32) (v2 : Int32) (v3 : Int32) (v4 : Int32) : wpX_addTask (fun r u' => wpY_addTask (fun r' v' => r' = r ∧ i_Rel (k + 5) u' v') v v1 v2 v3 v4) u v1 v2 v3 v4 := by
  have J := i_up I
  obtain ⟨c, n, t, ad, md, la, xn, xd, pe, cr, lo, hi, nx, pd, rX, rY, dn, dm, cX, cY, st, rfl, rfl, h1, h2, h3, h4, h5, h6, h7⟩ := I
  by_cases ha : ad = 0
  · by_cases e : n = c
    · subst e
      exact br_t ha (br_t (kz_nle h1) (br_t ha (br_t rfl ⟨rfl, J⟩)))
    · have hge : ¬ nI c ≤ nI n := nI_ge (by omega) (by omega)
      have hn8 : n < 8 := by omega
      have hv := kz_v8 hn8
      have ec := kz_cl hn8
      refine br_t ha (br_f hge ?_)
      rcases kz_it n t (nI c) ad md la xn xd pe cr lo hi nx c pd rY dn dm cY st ha (by omega) h1 v1 v2 v3 v4 with ⟨g1, g2⟩ | ⟨g1, g2, g3⟩
      · exact g1 _ (br_t rfl (g2 _ ⟨rfl, J⟩))
      · obtain ⟨f1, f2, f3, f4, f5, f6, f7, f8, f9⟩ := h7 ha
        subst f1; subst f2; subst f3; subst f4; subst f5; subst f6; subst f7; subst f8; subst f9
        refine g1 _ (br_f (by decide) ⟨hv, ?_⟩)
        rw [ec]
        refine nm_e ⟨hv, nm_e ⟨hv, nm_e ?_⟩⟩
        rcases g3 with ⟨w, hT1⟩ | ⟨w, hT1⟩
        · refine br_t w ⟨hv, ?_⟩
          rw [ec]
          refine nm_e ⟨hv, nm_e (nm_r (nI_1 n) (g2 _ ⟨hv, ?_⟩))⟩
          rw [ec]
          refine nm_e ⟨hv, nm_e (br_t w ⟨hv, ?_⟩)⟩
          rw [ec]
          refine nm_e ⟨hv, nm_e ⟨hv, nm_e ⟨hv, nm_r (by rw [kz_nar0, kz_ud0]) ⟨hv, nm_r (kz_ud0 n) ⟨hv, nm_r (kz_ud0 n) ⟨hv, nm_r (kz_ud0 n) ⟨7, ?_⟩⟩⟩⟩⟩⟩⟩
          refine kz_z6 n 0 (nI c) ad 0 la xn xd (upd pe n v1) (upd cr n v4) (upd lo n v2) (upd hi n v3) (upd nx n v2) (fun _ => 0) (fun _ => 0) (fun _ => 0) (fun _ => 0) st hn8 _ ⟨rfl, ?_⟩ 6 0 (by omega)
          exact ⟨c, n + 1, 0, ad, 0, la, xn, xd, _, _, _, _, _, _, _, _, _, _, _, _, st, rfl, rfl, h1, by omega, by omega, kz_T_s h4 hT1, kz_L_0, fun _ _ _ _ => rfl, fun _ => ⟨rfl, rfl, rfl, rfl, rfl, rfl, rfl, rfl, rfl⟩⟩
        · refine br_f w ⟨hv, ?_⟩
          rw [ec]
          refine nm_e ⟨hv, nm_e (nm_r (nI_1 n) (g2 _ ⟨hv, ?_⟩))⟩
          rw [ec]
          refine nm_e ⟨hv, nm_e (br_f w ⟨hv, ?_⟩)⟩
          rw [ec]
          refine nm_e ⟨hv, nm_e ⟨hv, nm_e ⟨hv, nm_r (by rw [kz_nar0, kz_ud0]) ⟨hv, nm_r (kz_ud0 n) ⟨hv, nm_r (kz_ud0 n) ⟨hv, nm_r (kz_ud0 n) ⟨7, ?_⟩⟩⟩⟩⟩⟩⟩
          refine kz_z6 n 0 (nI c) ad 0 la xn xd (upd pe n v1) (upd cr n v4) (upd lo n v2) (upd hi n v2) (upd nx n v2) (fun _ => 0) (fun _ => 0) (fun _ => 0) (fun _ => 0) st hn8 _ ⟨rfl, ?_⟩ 6 0 (by omega)
          exact ⟨c, n + 1, 0, ad, 0, la, xn, xd, _, _, _, _, _, _, _, _, _, _, _, _, st, rfl, rfl, h1, by omega, by omega, kz_T_s h4 hT1, kz_L_0, fun _ _ _ _ => rfl, fun _ => ⟨rfl, rfl, rfl, rfl, rfl, rfl, rfl, rfl, rfl⟩⟩
  · exact br_f ha (br_f ha ⟨rfl, J⟩)
theorem i_vc_setExec {k : Nat} {u : SX} {v : SY} (I : i_Rel k u v) (hk : k + 5 ≤ 2561) (v1 : Int32) (v2 : Int32) : wpX_setExec (fun r u' => wpY_setExec (fun r' v' => r' = r ∧ i_Rel (k + 5) u' v') v v1 v2) u v1 v2 := by
  have J := i_up I
  obtain ⟨c, n, t, ad, md, la, xn, xd, pe, cr, lo, hi, nx, pd, rX, rY, dn, dm, cX, cY, st, rfl, rfl, h1, h2, h3, h4, h5, h6, h7⟩ := I
  rcases pk_ix v1 (n := n) (by omega) with a | a | ⟨j, hj, e⟩
  · exact br_t a (br_t rfl (br_t a ⟨rfl, J⟩))
  · have b : ¬ v1 < 0 := Int32.not_lt.mpr (Int32.le_trans (nI_pos' (by omega)) a)
    exact br_f b (br_t a (br_t rfl (br_f b (br_f (Int32.not_lt.mpr a) ⟨rfl, J⟩))))
  · subst e
    have hj8 : j < 8 := by omega
    have b : ¬ nI j < 0 := nI_pos (by omega)
    have b2 : ¬ nI n ≤ nI j := nI_ge (by omega) (by omega)
    have b3 : nI j < nI n := nI_lt (by omega) (by omega)
    have hv := kz_v8 hj8
    refine br_f b (br_f b2 (br_f (by decide) ?_))
    by_cases w1 : v2 < 1
    · exact br_t w1 (br_f b (br_t b3 (br_t w1 ⟨rfl, J⟩)))
    · by_cases w2 : v2 ≤ 32
      · refine br_f w1 (br_t w2 ⟨hv, nm_e (br_f b (br_t b3 (br_f w1 (br_t w2 ⟨hv, nm_e ⟨rfl, ?_⟩⟩))))⟩)
        exact ⟨c, n, t, ad, md, la, xn, xd, pe, cr, lo, hi, _, pd, rX, rY, dn, dm, cX, cY, st, rfl, rfl, h1, h2, by omega, h4, h5, h6, h7⟩
      · exact br_f w1 (br_f w2 (br_f b (br_t b3 (br_f w1 (br_f w2 ⟨rfl, J⟩)))))
theorem i_vc_taskCount {k : Nat} {u : SX} {v : SY} (I : i_Rel k u v) (hk : k + 5 ≤ 2561) : wpX_taskCount (fun r => wpY_taskCount (fun r' => r' = r ∧ i_Rel (k + 5) u v) v) u := by
  have J := i_up I
  obtain ⟨c, n, t, ad, md, la, xn, xd, pe, cr, lo, hi, nx, pd, rX, rY, dn, dm, cX, cY, st, rfl, rfl, h1, h2, h3, h4, h5, h6, h7⟩ := I
  exact ⟨rfl, J⟩
theorem i_vc_utilNum {k : Nat} {u : SX} {v : SY} (I : i_Rel k u v) (hk : k + 5 ≤ 2561) (v1 : Int32) : wpX_utilNum (fun r => wpY_utilNum (fun r' => r' = r ∧ i_Rel (k + 5) u v) v v1) u v1 := by
  have J := i_up I
  obtain ⟨c, n, t, ad, md, la, xn, xd, pe, cr, lo, hi, nx, pd, rX, rY, dn, dm, cX, cY, st, rfl, rfl, h1, h2, h3, h4, h5, h6, h7⟩ := I
  have hn : n ≤ 8 := by omega
  rcases pk_ix v1 (n := 3) (by omega) with a | a | ⟨j, hj, e⟩
  · exact br_t a (br_t a ⟨rfl, J⟩)
  · have b : ¬ v1 < 0 := Int32.not_lt.mpr (Int32.le_trans (nI_pos' (n := 3) (by omega)) a)
    have b2 : 2 < v1 := Int32.lt_of_lt_of_le (b := nI 3) (by decide) a
    exact br_f b (br_t b2 (br_f b (br_f (Int32.not_le.mpr b2) ⟨rfl, J⟩)))
  · rcases (show j = 0 ∨ j = 1 ∨ j = 2 by omega) with r | r | r
    · subst r; subst e
      refine br_f (by decide) (br_f (by decide) (br_t rfl ?_))
      exact kz_Xlo n t (nI c) ad md la xn xd pe cr lo hi nx pd dn dm cX st rX h4 hn 0 _ (kz_Y0 n t (nI c) ad md la xn xd pe cr lo hi nx pd dn dm cY st rY h4 hn _ ⟨rfl, J⟩)
    · subst r; subst e
      refine br_f (by decide) (br_f (by decide) (br_f (by decide) (br_t rfl ?_)))
      exact kz_Xlo n t (nI c) ad md la xn xd pe cr lo hi nx pd dn dm cX st rX h4 hn 1 _ (kz_Y1 n t (nI c) ad md la xn xd pe cr lo hi nx pd dn dm cY st rY h4 hn _ ⟨rfl, J⟩)
    · subst r; subst e
      refine br_f (by decide) (br_f (by decide) (br_f (by decide) (br_f (by decide) (br_t rfl ?_))))
      exact kz_Xhi n t (nI c) ad md la xn xd pe cr lo hi nx pd dn dm cX st rX h4 hn 1 _ (kz_Y2 n t (nI c) ad md la xn xd pe cr lo hi nx pd dn dm cY st rY h4 hn _ ⟨rfl, J⟩)
theorem i_vc_admit {k : Nat} {u : SX} {v : SY} (I : i_Rel k u v) (hk : k + 5 ≤ 2561) : wpX_admit (fun r u' => wpY_admit (fun r' v' => r' = r ∧ i_Rel (k + 5) u' v') v) u := by
  have J := i_up I
  obtain ⟨c, n, t, ad, md, la, xn, xd, pe, cr, lo, hi, nx, pd, rX, rY, dn, dm, cX, cY, st, rfl, rfl, h1, h2, h3, h4, h5, h6, h7⟩ := I
  have hn : n ≤ 8 := by omega
  by_cases ha : ad = 0
  · by_cases e : n = 0
    · subst e
      exact br_t ha (br_t rfl (br_t ha (br_t rfl ⟨rfl, J⟩)))
    · have en : ¬ nI n = 0 := nI_ne0 (by omega) (by omega)
      obtain ⟨f1, f2, _⟩ := h7 ha
      have bA := kz_S_lo (c := 0) h4 hn
      have bB := kz_S_lo (c := 1) h4 hn
      have bC := kz_S_hi (c := 1) h4 hn
      have zz := kz_S_z (c := 1) h4
      refine br_t ha (br_f en (kz_Xlo n t (nI c) ad md la xn xd pe cr lo hi nx pd dn dm cX st rX h4 hn 0 _ (kz_Xlo n t (nI c) ad md la xn xd pe cr lo hi nx pd dn dm cX st rX h4 hn 1 _ (kz_Xhi n t (nI c) ad md la xn xd pe cr lo hi nx pd dn dm cX st rX h4 hn 1 _ ?_))))
      have yy : ∀ post : Int32 → SY → Prop, _ → wpY_admit post (nI c, (nI n), ad, (nI t), md, la, xn, xd, pe, lo, hi, cr, nx, pd, rY, dm, dn, cY, st) := fun post h => br_t ha (br_f en (kz_Y0 n t (nI c) ad md la xn xd pe cr lo hi nx pd dn dm cY st rY h4 hn _ (kz_Y1 n t (nI c) ad md la xn xd pe cr lo hi nx pd dn dm cY st rY h4 hn _ (kz_Y2 n t (nI c) ad md la xn xd pe cr lo hi nx pd dn dm cY st rY h4 hn _ h))))
      generalize kz_sum (kz_u 0 cr lo pe) n = A at *
      generalize kz_sum (kz_u 1 cr lo pe) n = B at *
      generalize kz_sum (kz_u 1 cr hi pe) n = C at *
      have eA := nI_l (n := A) (by omega)
      have eB := nI_l (n := B) (by omega)
      have eC := nI_l (n := C) (by omega)
      by_cases q1 : (nI A).toInt64 + (nI B).toInt64 ≤ 720720
      · by_cases q2 : 720720 < (nI A).toInt64 + (nI C).toInt64
        · by_cases q3 : (720720 - (nI C).toInt64) * (720720 - (nI A).toInt64) < (nI B).toInt64 * (nI A).toInt64
          · exact br_t q1 (br_t q2 (br_t q3 (br_f (by decide) (br_f (by decide) (yy _ (br_t q1 (br_t q2 (br_t q3 ⟨rfl, J⟩))))))))
          · have r1 := q1
            have r2 := q2
            rw [eA, eB, lN_add, show (720720 : Int64) = lN 720720 from rfl, lN_le (by omega) (by omega)] at r1
            rw [eA, eC, lN_add, show (720720 : Int64) = lN 720720 from rfl, lN_lt (by omega) (by omega)] at r2
            have hB : 1 ≤ B := by
              by_cases z : B = 0
              · have := zz z; omega
              · omega
            have e2 : 720720 - (nI A).toInt64 = lN (720720 - A) := by rw [eA, show (720720 : Int64) = lN 720720 from rfl, lN_sub (by omega)]
            obtain ⟨xn', xd', pd', rX', rY', dn', dm', cX', cY', g1, g2, g3, g4⟩ := kz_start n t (nI c) ad md la xn xd pe cr lo hi nx pd dn dm cX st rX rY cY h4 hn (by omega) h5 h6 f2 B (720720 - A) hB (by omega) (by omega) (by omega)
            refine br_t q1 (br_t q2 (br_f q3 (br_f (by decide) (br_t rfl ?_))))
            rw [e2, eB]
            refine g3 _ (yy _ (br_t q1 (br_t q2 (br_f q3 (nm_r (show (720720 - (nI A).toInt64).toInt32 = nI (720720 - A) by rw [e2, lN_i]) ?_)))))
            rw [eB, lN_i]
            refine g4 _ _ ⟨rfl, ?_⟩
            exact ⟨c, n, t, 1, md, la, xn', xd', pe, cr, lo, hi, nx, pd', rX', rY', dn', dm', cX', cY', st, rfl, rfl, h1, h2, by omega, h4, g1, g2, fun z => absurd z (by decide)⟩
        · obtain ⟨xn', xd', pd', rX', rY', dn', dm', cX', cY', g1, g2, g3, g4⟩ := kz_start n t (nI c) ad md la xn xd pe cr lo hi nx pd dn dm cX st rX rY cY h4 hn (by omega) h5 h6 f2 1 1 (by omega) (by omega) (by omega) (by omega)
          refine br_t q1 (br_f q2 (br_t rfl (g3 _ (yy _ (br_t q1 (br_f q2 (g4 _ _ ⟨rfl, ?_⟩)))))))
          exact ⟨c, n, t, 1, md, la, xn', xd', pe, cr, lo, hi, nx, pd', rX', rY', dn', dm', cX', cY', st, rfl, rfl, h1, h2, by omega, h4, g1, g2, fun z => absurd z (by decide)⟩
      · exact br_f q1 (br_f (by decide) (br_f (by decide) (yy _ (br_f q1 ⟨rfl, J⟩))))
  · exact br_f ha (br_f ha ⟨rfl, J⟩)
theorem i_vc_run {k : Nat} {u : SX} {v : SY} (I : i_Rel k u v) (hk : k + 5 ≤ 2561) (v1 : Int32) : wpX_run (fun r u' => wpY_run (fun r' v' => r' = r ∧ i_Rel (k + 5) u' v') v v1) u v1 := by
  have J := i_up I
  obtain ⟨c, n, t, ad, md, la, xn, xd, pe, cr, lo, hi, nx, pd, rX, rY, dn, dm, cX, cY, st, rfl, rfl, h1, h2, h3, h4, h5, h6, h7⟩ := I
  by_cases ha : ad = 0
  · exact br_t ha (br_t ha ⟨rfl, J⟩)
  · by_cases w1 : v1 < 1
    · exact br_f ha (br_t w1 (br_f ha (br_t w1 ⟨rfl, J⟩)))
    · by_cases w2 : v1 ≤ 1000
      · obtain ⟨s, s1, s2, s3⟩ := kz_num w1
        have s4 : s ≤ 1000 := by
          have w3 := w2
          rw [s2, show (1000 : Int32) = nI 1000 from rfl, nI_leI s1 (by omega)] at w3
          exact w3
        obtain ⟨b', md', la', pd', rX', rY', dn', dm', cX', cY', st', g1, g2, g3, g4⟩ := kz_run n (nI c) ad xn xd pe cr lo hi nx s s4 h4 (by omega) s 0 (by omega) t 0 md la st pd dn dm cX rX rY cY (by omega) h5 h6
        refine br_f ha (br_f w1 (br_t w2 ⟨s + 1, ?_⟩))
        rw [s2]
        rw [s2] at w1 w2
        refine g3 _ (br_f ha (br_f w1 (br_t w2 ⟨s + 1, g4 _ ⟨rfl, ?_⟩⟩)))
        exact ⟨c, n, t + s, ad, md', la', xn, xd, pe, cr, lo, hi, nx, pd', rX', rY', dn', dm', cX', cY', st', rfl, rfl, h1, h2, by omega, h4, g1, g2, fun z => absurd z ha⟩
      · exact br_f ha (br_f w1 (br_f w2 (br_f ha (br_f w1 (br_f w2 ⟨rfl, J⟩)))))
