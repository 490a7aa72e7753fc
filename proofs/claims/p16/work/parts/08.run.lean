/-! ticks in a row -/
theorem rz_K0 {num e : Nat} {md : Int32} {cr pe : Nat → Int32} {R : Nat → Nat} (m : md = 0) (i : Nat) : rz_K md num e cr R (rz_N pe) i = qz_key num e (rz_H cr) (rz_N pe) R i := by
  unfold rz_K qz_key
  by_cases c : cr i = 1
  · rw [if_pos ⟨c, m⟩, rz_Ht c]
  · have hf : rz_H cr i = false := decide_eq_false c
    rw [if_neg (fun z => c z.1), hf]
theorem rz_K1 {num e : Nat} {md : Int32} {cr pe : Nat → Int32} {R : Nat → Nat} (m : md = 1) (i : Nat) : rz_K md num e cr R (rz_N pe) i = (R i + rz_N pe i) * (num + e) := by
  unfold rz_K
  rw [if_neg (fun z => absurd (m.symm.trans z.2) (by decide))]
theorem rz_Kb {n t num e : Nat} {md : Int32} {cr pe lo hi : Nat → Int32} {R : Nat → Nat} (hT : kz_T n pe lo hi cr) (ht : t ≤ 1000000) (he : num + e ≤ 720720) (i : Nat) (hin : i < n) (hR : R i ≤ t) : rz_K md num e cr R (rz_N pe) i < 2 ^ 63 := by
  obtain ⟨_, _, _, _, _, _, t4⟩ := rz_T_n hT hin
  have k1 : R i * (num + e) ≤ 1000000 * 720720 := Nat.mul_le_mul (by omega) he
  have k2 : num * rz_N pe i ≤ 720720 * 16 := Nat.mul_le_mul (by omega) t4
  have k3 : (R i + rz_N pe i) * (num + e) ≤ 1000016 * 720720 := Nat.mul_le_mul (by omega) he
  unfold rz_K
  split <;> omega
/-- step A with job i, in numbers -/
theorem rz_stepA {n t num e : Nat} {md md' : Int32} {pe lo hi cr pd pd' dn : Nat → Int32} {rX : Nat → Int64} {R U : Nat → Nat} (hT : kz_T n pe lo hi cr) (hA : rz_A n num e pe lo hi cr)
    (hJ : rz_Jb n t md lo hi cr pd rX dn R U) (hM : rz_Md n num e md pe lo hi cr pd R U t (t + 1)) (i : Nat) (hin : i < n) (hp : ¬ pd i = 0)
    (hk : ∀ a, a < n → ¬ pd a = 0 → rz_K md num e cr R (rz_N pe) i ≤ rz_K md num e cr R (rz_N pe) a)
    (h : (md' = md ∧ (∀ a, a < n → a ≠ i → pd' a = pd a) ∧ (pd' i = 0 ∨ (pd' i = pd i ∧ ¬ dn i + 1 = hi i ∧ (md = 0 → ¬ dn i + 1 = lo i))))
        ∨ (md = 0 ∧ md' = 1 ∧ cr i = 1 ∧ (∀ a, a < n → a ≠ i → (cr a = 0 → pd' a = 0) ∧ (¬ cr a = 0 → pd' a = pd a)) ∧ (pd' i = 0 ∨ (pd' i = pd i ∧ ¬ dn i + 1 = hi i)))) :
    rz_Jb n t md' lo hi cr pd' rX (upd dn i (dn i + 1)) R (fun a => if a = i then U i + 1 else U a) ∧ rz_Md n num e md' pe lo hi cr pd' R (fun a => if a = i then U i + 1 else U a) (t + 1) (t + 1) := by
  obtain ⟨i1, i2, i3, i4⟩ := hJ i hin
  obtain ⟨j1, j2, j3⟩ := i4 hp
  obtain ⟨t1, t2, t3, t4, t5, t6, t7⟩ := rz_T_n hT hin
  have ed : dn i + 1 = nI (U i + 1) := by rw [i1, nI_1]
  have ehi : (¬ dn i + 1 = hi i) → U i + 1 < rz_N hi i := by
    intro z
    have : U i + 1 ≠ rz_N hi i := fun w => z (by rw [ed, t3, w])
    omega
  have elo : md = 0 → (¬ dn i + 1 = lo i) → U i + 1 < rz_N lo i := by
    intro m z
    have : U i + 1 ≠ rz_N lo i := fun w => z (by rw [ed, t2, w])
    have := j1 m
    omega
  have hPP : ∀ a, a < n → rz_P pd' a = true → rz_P pd a = true := by
    intro a ha z
    have z' := rz_Pt' z
    refine rz_Pt fun w => z' ?_
    by_cases e : a = i
    · subst e; exact absurd w hp
    · rcases h with ⟨_, h2, _⟩ | ⟨_, _, _, h4, _⟩
      · rw [h2 a ha e]; exact w
      · by_cases c : cr a = 0
        · exact (h4 a ha e).1 c
        · rw [(h4 a ha e).2 c]; exact w
  have hUj : (fun a => if a = i then U i + 1 else U a) i = U i + 1 := if_pos rfl
  have hUi : ∀ a, a < n → a ≠ i → (fun a => if a = i then U i + 1 else U a) a = U a := fun a _ ha => if_neg ha
  have hR : ∀ a, a < n → rz_P pd a = true → R a ≤ t := fun a ha _ => (hJ a ha).2.2.1
  refine ⟨fun a ha => ?_, ?_⟩
  · by_cases e : a = i
    · subst e
      dsimp only
      rw [pk_us, if_pos rfl]
      refine ⟨ed, i2, i3, fun z => ?_⟩
      rcases h with ⟨h1, _, h3⟩ | ⟨_, h2, h3, _, h5⟩
      · rcases h3 with h3 | ⟨_, h4, h5⟩
        · exact absurd h3 z
        · rw [h1]
          exact ⟨fun m => elo m (h5 m), ehi h4, j3⟩
      · rcases h5 with h5 | ⟨_, h6⟩
        · exact absurd h5 z
        · exact ⟨fun m => absurd (h2.symm.trans m) (by decide), ehi h6, fun _ => h3⟩
    · obtain ⟨a1, a2, a3, a4⟩ := hJ a ha
      dsimp only
      rw [pk_un e, if_neg e]
      refine ⟨a1, a2, a3, fun z => ?_⟩
      rcases h with ⟨h1, h2, _⟩ | ⟨h1, h2, _, h4, _⟩
      · rw [h2 a ha e] at z
        rw [h1]
        exact a4 z
      · have c : ¬ cr a = 0 := fun c => z ((h4 a ha e).1 c)
        rw [(h4 a ha e).2 c] at z
        refine ⟨fun m => absurd (h2.symm.trans m) (by decide), (a4 z).2.1, fun _ => ?_⟩
        rcases kz_T_c hT ha with ⟨c', _⟩ | c'
        · exact absurd c' c
        · exact c'
  · rcases hM with ⟨m, I⟩ | ⟨m, I⟩
    · have S : rz_I n num e pe lo hi cr pd' R (fun a => if a = i then U i + 1 else U a) (t + 1) (t + 1) := by
        refine qz_stepL n num e 720720 _ _ _ _ _ hA I hin (rz_Pt hp) (fun a ha hpa => ?_) hR (fun a ha hpa => ?_) hPP hUj hUi
        · rw [← rz_K0 m, ← rz_K0 m]
          exact hk a ha (rz_Pt' hpa)
        · exact ((hJ a ha).2.2.2 (rz_Pt' hpa)).1 m
      rcases h with ⟨h1, _⟩ | ⟨_, h2, _⟩
      · exact Or.inl ⟨h1.trans m, S⟩
      · exact Or.inr ⟨h2, qz_I_J n num e _ _ _ _ S⟩
    · rcases h with ⟨h1, _⟩ | ⟨h1, _⟩
      · refine Or.inr ⟨h1.trans m, ?_⟩
        refine qz_stepH n num e 720720 _ _ _ _ _ hA I hin (rz_Pt hp) (rz_Ht (j3 m)) (fun a ha hpa => ?_) j2 hPP hUj hUi
        have k := hk a ha (rz_Pt' hpa)
        rw [rz_K1 m, rz_K1 m] at k
        exact Nat.le_of_mul_le_mul_right k (by have := hA.1; omega)
      · exact absurd (m.symm.trans h1) (by decide)
theorem rz_tick (n t : Nat) (kc ad md la xn xd : Int32) (pe cr lo hi nx : Nat → Int32) (st pd dn dm cX : Nat → Int32) (rX : Nat → Int64) (num e : Nat) (R U : Nat → Nat) (hT : kz_T n pe lo hi cr) (hn : n ≤ 8) (ht : t ≤ 1000000) (hA : rz_A n num e pe lo hi cr) (hx : xn = nI num) (hd : xd = nI (num + e)) (he : num + e ≤ 720720)
    (hJ : rz_Jb n t md lo hi cr pd rX dn R U) (hM : rz_Md n num e md pe lo hi cr pd R U t (t + 1)) :
    ∃ (md' la' : Int32) (pd' : Nat → Int32) (rX' : Nat → Int64) (dn' dm' cX' st' : Nat → Int32) (R' U' : Nat → Nat), rz_Z cX cX' ∧ rz_Jb n (t + 1) md' lo hi cr pd' rX' dn' R' U' ∧ rz_Md n num e md' pe lo hi cr pd' R' U' (t + 1) (t + 1 + 1)
      ∧ (∀ post : St2 → Prop, post (kc, (nI n), ad, lN (t + 1), md', la', xn, xd, pe, cr, lo, hi, nx, pd', rX', dn', dm', cX', st') → wpX_tick post (kc, (nI n), ad, (lN t), md, la, xn, xd, pe, cr, lo, hi, nx, pd, rX, dn, dm, cX, st)) := by
  obtain ⟨c, k, hc, pX⟩ := rz_choose n t kc ad md la xn xd pe cr lo hi nx pd dn dm cX st rX num e R (rz_N pe) hn (fun i hin => (hJ i hin).2.1) (fun i hin => (rz_T_n hT hin).1) (fun i hin => by have := (rz_T_n hT hin).2.2.2.2.2.2; omega) hx hd (by omega) (fun i hin => rz_Kb hT ht he i hin (hJ i hin).2.2.1) n 0 (by omega) (-1) 0 (Or.inl ⟨rfl, fun i hi' => absurd hi' (Nat.not_lt_zero i)⟩)
  rcases hc with ⟨hc, hall⟩ | ⟨i, hin, hc, _, hp, hmin⟩
  · subst hc
    have I := qz_idle n num e 720720 (rz_H cr) (rz_N pe) (rz_N lo) (rz_N hi) (rz_q pe) hA (P := rz_P pd) (R := R) (U := U) (t + 1) (fun i hin => rz_Pf (hall i hin))
    have hM1 : rz_Md n num e md pe lo hi cr pd R U (t + 1) (t + 1) := by
      rcases hM with ⟨m, _⟩ | ⟨m, _⟩
      · exact Or.inl ⟨m, I⟩
      · exact Or.inr ⟨m, qz_I_J n num e _ _ _ _ I⟩
    obtain ⟨md', pd', rX', dn', dm', cX', st', R', U', g1, g2, g3, g4⟩ := rz_rest n t kc ad md (-1) xn xd pe cr lo hi nx (upd st 2 (st 2 + 1)) pd dn dm cX rX num e R U hT hn (by omega) hA hJ hM1
    exact ⟨md', -1, pd', rX', dn', dm', cX', st', R', U', g1, g2, g3, fun post h => ⟨n + 1, pX _ (br_t rfl (nm_e (g4 _ h)))⟩⟩
  · subst hc
    obtain ⟨md1, pd1, cX1, st1, f1, f2, f3⟩ := rz_exec n t kc ad md la xn xd pe cr lo hi nx st pd dn dm cX rX hT hn i hin
    obtain ⟨hJ1, hM1⟩ := rz_stepA hT hA hJ hM i hin hp (fun a ha hpa => hmin a ha hpa) f2
    obtain ⟨md', pd', rX', dn', dm', cX', st', R', U', g1, g2, g3, g4⟩ := rz_rest n t kc ad md1 (nI i) xn xd pe cr lo hi nx st1 pd1 (upd dn i (dn i + 1)) dm cX1 rX num e R _ hT hn (by omega) hA hJ1 hM1
    have m1 : ¬ nI i = -1 := kz_nm1 (by omega)
    exact ⟨md', nI i, pd', rX', dn', dm', cX', st', R', U', rz_Z_t f1 g1, g2, g3, fun post h => ⟨n + 1, pX _ (br_f m1 (nm_e (f3 _ (g4 _ h))))⟩⟩
theorem rz_run (n : Nat) (kc ad xn xd : Int32) (pe cr lo hi nx : Nat → Int32) (num e : Nat) (s : Nat) (hs : s ≤ 1000) (hT : kz_T n pe lo hi cr) (hn : n ≤ 8) (hA : rz_A n num e pe lo hi cr) (hx : xn = nI num) (hd : xd = nI (num + e)) (he : num + e ≤ 720720) : ∀ d j, j + d = s → ∀ (t : Nat) (b md la : Int32) (st pd dn dm cX : Nat → Int32) (rX : Nat → Int64) (R U : Nat → Nat), t + d ≤ 1000000 →
    rz_Jb n t md lo hi cr pd rX dn R U → rz_Md n num e md pe lo hi cr pd R U t (t + 1) →
    ∃ (b' md' la' : Int32) (pd' : Nat → Int32) (rX' : Nat → Int64) (dn' dm' cX' st' : Nat → Int32) (R' U' : Nat → Nat), rz_Z cX cX' ∧ rz_Jb n (t + d) md' lo hi cr pd' rX' dn' R' U' ∧ rz_Md n num e md' pe lo hi cr pd' R' U' (t + d) (t + d + 1)
      ∧ (∀ post : Int32 → St2 → Prop, post b' (kc, (nI n), ad, lN (t + d), md', la', xn, xd, pe, cr, lo, hi, nx, pd', rX', dn', dm', cX', st') → wX_run_25 post (nI s) (d + 1) b (nI j) kc (nI n) ad (lN t) md la xn xd pe cr lo hi nx pd rX dn dm cX st) := by
  intro d
  induction d with
  | zero =>
    intro j hj t b md la st pd dn dm cX rX R U ht hJ hM
    have hle : nI s ≤ nI j := nI_le (by omega) (by omega)
    exact ⟨b, md, la, pd, rX, dn, dm, cX, st, R, U, rz_Z_r cX, hJ, hM, fun post h => br_t hle h⟩
  | succ d ih =>
    intro j hj t b md la st pd dn dm cX rX R U ht hJ hM
    have hge : ¬ nI s ≤ nI j := nI_ge (by omega) (by omega)
    obtain ⟨md1, la1, pd1, rX1, dn1, dm1, cX1, st1, R1, U1, f1, f2, f3, f4⟩ := rz_tick n t kc ad md la xn xd pe cr lo hi nx st pd dn dm cX rX num e R U hT hn (by omega) hA hx hd he hJ hM
    have et : t + 1 + d = t + (d + 1) := by omega
    by_cases e1 : la1 = -1
    · obtain ⟨b', md', la', pd', rX', dn', dm', cX', st', R', U', g1, g2, g3, g4⟩ := ih (j + 1) (by omega) (t + 1) b md1 la1 st1 pd1 dn1 dm1 cX1 rX1 R1 U1 (by omega) f2 f3
      rw [et] at g2 g3 g4
      exact ⟨b', md', la', pd', rX', dn', dm', cX', st', R', U', rz_Z_t f1 g1, g2, g3, fun post h => br_f hge (f4 _ (br_t e1 (nm_r (nI_1 j) (g4 post h))))⟩
    · obtain ⟨b', md', la', pd', rX', dn', dm', cX', st', R', U', g1, g2, g3, g4⟩ := ih (j + 1) (by omega) (t + 1) (b + 1) md1 la1 st1 pd1 dn1 dm1 cX1 rX1 R1 U1 (by omega) f2 f3
      rw [et] at g2 g3 g4
      exact ⟨b', md', la', pd', rX', dn', dm', cX', st', R', U', rz_Z_t f1 g1, g2, g3, fun post h => br_f hge (f4 _ (br_f e1 (nm_e (nm_r (nI_1 j) (g4 post h)))))⟩
