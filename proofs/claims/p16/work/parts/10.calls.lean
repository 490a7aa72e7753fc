/-! the calls of the law: addTask on a fresh kernel; setExec, run, counter on an admitted one -/
def rz_Fresh (u : St2) : Prop := ∃ (n : Nat) (la xn xd : Int32) (pe cr lo hi nx st : Nat → Int32),
  u = (nI 8, (nI n), 0, lN 0, 0, la, xn, xd, pe, cr, lo, hi, nx, (fun _ => 0), (fun _ => 0), (fun _ => 0), (fun _ => 0), (fun _ => 0), st) ∧ n ≤ 8 ∧ kz_T n pe lo hi cr
theorem kz_num {x : Int32} (h : ¬ x < 1) : ∃ p : Nat, p < 2 ^ 31 ∧ x = nI p ∧ 1 ≤ p := by
  obtain ⟨p, hp, e⟩ := nI_of (x := x) (fun z => h (Int32.lt_trans z (by decide)))
  refine ⟨p, hp, e, ?_⟩
  by_cases z : p = 0
  · subst z; subst e; exact absurd (by decide) h
  · omega
theorem rz_it (v1 v2 v3 v4 : Int32) :
    (∀ post : Int32 → Prop, post 0 → wpX_isTask post () v1 v2 v3 v4)
    ∨ ((∀ post : Int32 → Prop, post 1 → wpX_isTask post () v1 v2 v3 v4) ∧ ((v4 = 1 ∧ kz_T1 v1 v2 v3 v4) ∨ (¬ v4 = 1 ∧ kz_T1 v1 v2 v2 v4))) := by
  by_cases h0 : v4 = 0
  · have h01 : ¬ v4 = 1 := by rw [h0]; decide
    by_cases a1 : v1 < 1
    · exact Or.inl (fun post h => br_t h0 (br_t a1 h))
    · by_cases a2 : 16 < v1
      · exact Or.inl (fun post h => br_t h0 (br_f a1 (br_t a2 h)))
      · have a2' : v1 ≤ 16 := Int32.not_lt.mp a2
        by_cases a3 : v2 < 1
        · exact Or.inl (fun post h => br_t h0 (br_f a1 (br_f a2 (br_t a3 h))))
        · by_cases a4 : v2 ≤ v1
          · refine Or.inr ⟨fun post h => br_t h0 (br_f a1 (br_f a2 (br_f a3 (br_t a4 (br_t h0 h))))), Or.inr ⟨h01, ?_⟩⟩
            obtain ⟨p, p1, p2, p3⟩ := kz_num a1
            obtain ⟨q, q1, q2, q3⟩ := kz_num a3
            rw [p2, q2, nI_leI q1 p1] at a4
            rw [p2, show (16 : Int32) = nI 16 from rfl, nI_leI p1 (by omega)] at a2'
            exact ⟨p, q, q, p2, q2, q2, q3, Nat.le_refl q, a4, a2', Or.inl ⟨h0, rfl⟩⟩
          · exact Or.inl (fun post h => br_t h0 (br_f a1 (br_f a2 (br_f a3 (br_f a4 h)))))
  · by_cases h1 : v4 = 1
    · by_cases a1 : v1 < 1
      · exact Or.inl (fun post h => br_f h0 (br_t h1 (br_t a1 h)))
      · by_cases a2 : 16 < v1
        · exact Or.inl (fun post h => br_f h0 (br_t h1 (br_f a1 (br_t a2 h))))
        · have a2' : v1 ≤ 16 := Int32.not_lt.mp a2
          by_cases a3 : v2 < 1
          · exact Or.inl (fun post h => br_f h0 (br_t h1 (br_f a1 (br_f a2 (br_t a3 h)))))
          · by_cases a4 : v2 ≤ v1
            · by_cases a5 : v3 < v2
              · exact Or.inl (fun post h => br_f h0 (br_t h1 (br_f a1 (br_f a2 (br_f a3 (br_t a4 (br_f h0 (br_t a5 h))))))))
              · by_cases a6 : v1 < v3
                · exact Or.inl (fun post h => br_f h0 (br_t h1 (br_f a1 (br_f a2 (br_f a3 (br_t a4 (br_f h0 (br_f a5 (br_t a6 h)))))))))
                · have a6' : v3 ≤ v1 := Int32.not_lt.mp a6
                  refine Or.inr ⟨fun post h => br_f h0 (br_t h1 (br_f a1 (br_f a2 (br_f a3 (br_t a4 (br_f h0 (br_f a5 (br_f a6 h)))))))), Or.inl ⟨h1, ?_⟩⟩
                  obtain ⟨p, p1, p2, p3⟩ := kz_num a1
                  obtain ⟨q, q1, q2, q3⟩ := kz_num a3
                  have a5' : v2 ≤ v3 := Int32.not_lt.mp a5
                  obtain ⟨s, s1, s2, s3⟩ := kz_num (x := v3) (fun z => a3 (Int32.lt_of_le_of_lt a5' z))
                  rw [q2, s2, nI_leI q1 s1] at a5'
                  rw [p2, s2, nI_leI s1 p1] at a6'
                  rw [p2, show (16 : Int32) = nI 16 from rfl, nI_leI p1 (by omega)] at a2'
                  exact ⟨p, q, s, p2, q2, s2, q3, a5', a6', a2', Or.inr h1⟩
            · exact Or.inl (fun post h => br_f h0 (br_t h1 (br_f a1 (br_f a2 (br_f a3 (br_f a4 h))))))
    · exact Or.inl (fun post h => br_f h0 (br_f h1 h))
theorem rz_add {u : St2} (F : rz_Fresh u) (v1 v2 v3 v4 : Int32) (post : Int32 → St2 → Prop) (h : ∀ r u', rz_Fresh u' → post r u') : wpX_addTask post u v1 v2 v3 v4 := by
  have F' := F
  obtain ⟨n, la, xn, xd, pe, cr, lo, hi, nx, st, rfl, hn, hT⟩ := F
  by_cases e : n = 8
  · subst e
    exact br_t rfl (br_t (by decide) (h _ _ F'))
  · have hge : ¬ nI 8 ≤ nI n := nI_ge (by omega) (by omega)
    have hn8 : n < 8 := by omega
    have hv := kz_v8 hn8
    have ec := kz_cl hn8
    refine br_t rfl (br_f hge ?_)
    rcases rz_it v1 v2 v3 v4 with g1 | ⟨g1, g3⟩
    · exact g1 _ (br_t rfl (h _ _ F'))
    · refine g1 _ (br_f (by decide) ⟨hv, ?_⟩)
      rw [ec]
      refine nm_e ⟨hv, nm_e ⟨hv, nm_e ?_⟩⟩
      rcases g3 with ⟨w, hT1⟩ | ⟨w, hT1⟩
      · refine br_t w ⟨hv, ?_⟩
        rw [ec]
        refine nm_e ⟨hv, nm_e (nm_r (nI_1 n) (h _ _ ?_))⟩
        exact ⟨n + 1, la, xn, xd, _, _, _, _, _, st, rfl, by omega, kz_T_s hT hT1⟩
      · refine br_f w ⟨hv, ?_⟩
        rw [ec]
        refine nm_e ⟨hv, nm_e (nm_r (nI_1 n) (h _ _ ?_))⟩
        exact ⟨n + 1, la, xn, xd, _, _, _, _, _, st, rfl, by omega, kz_T_s hT hT1⟩
theorem rz_set {t : Nat} {u : St2} (G : rz_Good t u) (v1 v2 : Int32) (post : Int32 → St2 → Prop) (h : ∀ r u', rz_Good t u' → post r u') : wpX_setExec post u v1 v2 := by
  have G' := G
  obtain ⟨n, kc, md, la, xn, xd, pe, cr, lo, hi, nx, pd, rX, dn, dm, cX, st, num, e, R, U, rfl, hn, hT, hA, hx, hd, he, hJ, hM, hZ⟩ := G
  rcases pk_ix v1 (n := n) (by omega) with a | a | ⟨j, hj, ej⟩
  · exact br_t a (br_t rfl (h _ _ G'))
  · have b : ¬ v1 < 0 := Int32.not_lt.mpr (Int32.le_trans (nI_pos' (by omega)) a)
    exact br_f b (br_t a (br_t rfl (h _ _ G')))
  · subst ej
    have hj8 : j < 8 := by omega
    have b : ¬ nI j < 0 := nI_pos (by omega)
    have b2 : ¬ nI n ≤ nI j := nI_ge (by omega) (by omega)
    have hv := kz_v8 hj8
    refine br_f b (br_f b2 (br_f (by decide) ?_))
    by_cases w1 : v2 < 1
    · exact br_t w1 (h _ _ G')
    · by_cases w2 : v2 ≤ 32
      · refine br_f w1 (br_t w2 ⟨hv, nm_e (h _ _ ?_)⟩)
        exact ⟨n, kc, md, la, xn, xd, pe, cr, lo, hi, _, pd, rX, dn, dm, cX, st, num, e, R, U, rfl, hn, hT, hA, hx, hd, he, hJ, hM, hZ⟩
      · exact br_f w1 (br_f w2 (h _ _ G'))
theorem rz_runs {t : Nat} {u : St2} (G : rz_Good t u) (s : Nat) (h1 : 1 ≤ s) (h2 : s ≤ 1000) (ht : t + s ≤ 1000000) (post : Int32 → St2 → Prop) (h : ∀ r u', rz_Good (t + s) u' → post r u') : wpX_run post u (nI s) := by
  obtain ⟨n, kc, md, la, xn, xd, pe, cr, lo, hi, nx, pd, rX, dn, dm, cX, st, num, e, R, U, rfl, hn, hT, hA, hx, hd, he, hJ, hM, hZ⟩ := G
  obtain ⟨b', md', la', pd', rX', dn', dm', cX', st', R', U', g1, g2, g3, g4⟩ := rz_run n kc 1 xn xd pe cr lo hi nx num e s h2 hT hn hA hx hd he s 0 (by omega) t 0 md la st pd dn dm cX rX R U ht hJ hM
  have w1 : ¬ nI s < 1 := nI_nlt (b := 1) (by omega) (by omega)
  have w2 : nI s ≤ 1000 := nI_le (b := 1000) (by omega) (by decide)
  refine br_f (by decide) (br_f w1 (br_t w2 ⟨s + 1, g4 _ (h _ _ ?_)⟩))
  exact ⟨n, kc, md', la', xn, xd, pe, cr, lo, hi, nx, pd', rX', dn', dm', cX', st', num, e, R', U', rfl, hn, hT, hA, hx, hd, he, g2, g3, fun j hj => (g1 j hj).trans (hZ j hj)⟩
theorem rz_cs (n t : Nat) (kc ad md la xn xd : Int32) (pe cr lo hi nx : Nat → Int32) (pd dn dm cX st : Nat → Int32) (rX : Nat → Int64) (hn : n ≤ 8) (hZ : ∀ j, j < 8 → cX (5 * 8 + j) = 0) (post : Int32 → Prop) (h : post 0) : ∀ d j, j + d = n → wX_counterSum_4 post (nI 5) kc (nI n) ad (lN t) md la xn xd pe cr lo hi nx pd rX dn dm cX st (d + 1) 0 (nI j) := by
  intro d
  induction d with
  | zero =>
    intro j hj
    have e : j = n := by omega
    rw [e]
    exact br_t (kz_nle hn) h
  | succ d ih =>
    intro j hj
    have hj8 : j < 8 := by omega
    have hge : ¬ nI n ≤ nI j := nI_ge (by omega) (by omega)
    refine br_f hge ⟨kz_xv (k := 5) (by omega) hj8, nm_r ?_ (nm_r (nI_1 j) (ih (j + 1) (by omega)))⟩
    rw [kz_xc (k := 5) (by omega) hj8, hZ j hj8]
    decide
theorem rz_cnt {t : Nat} {u : St2} (G : rz_Good t u) (post : Int32 → Prop) (h : post 0) : wpX_counter post u (-1) 5 := by
  obtain ⟨n, kc, md, la, xn, xd, pe, cr, lo, hi, nx, pd, rX, dn, dm, cX, st, num, e, R, U, rfl, hn, hT, hA, hx, hd, he, hJ, hM, hZ⟩ := G
  exact br_f (by decide) (br_t (by decide) (br_t rfl ⟨n + 1, rz_cs n t kc 1 md la xn xd pe cr lo hi nx pd dn dm cX st rX hn hZ post h n 0 (by omega)⟩))
