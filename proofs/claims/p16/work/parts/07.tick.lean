/-! a tick keeps the invariant, and misses nothing -/
def rz_H (cr : Nat → Int32) (i : Nat) : Bool := decide (cr i = 1)
def rz_P (pd : Nat → Int32) (i : Nat) : Bool := decide (¬ pd i = 0)
def rz_N (f : Nat → Int32) (i : Nat) : Nat := (f i).toNatClampNeg
def rz_q (pe : Nat → Int32) (i : Nat) : Nat := 720720 / (pe i).toNatClampNeg
def rz_A (n num e : Nat) (pe lo hi cr : Nat → Int32) : Prop := qz_adm n num e 720720 (rz_H cr) (rz_N pe) (rz_N lo) (rz_N hi) (rz_q pe)
def rz_I (n num e : Nat) (pe lo hi cr pd : Nat → Int32) (R U : Nat → Nat) (t τ : Nat) : Prop := qz_I n num e (rz_H cr) (rz_N pe) (rz_N lo) (rz_N hi) (rz_P pd) R U t τ
def rz_J (n num e : Nat) (pe lo hi cr pd : Nat → Int32) (R U : Nat → Nat) (t τ : Nat) : Prop := qz_J n num e (rz_H cr) (rz_N pe) (rz_N lo) (rz_N hi) (rz_P pd) R U t τ
/-- the jobs, as numbers -/
def rz_Jb (n t : Nat) (md : Int32) (lo hi cr pd : Nat → Int32) (rX : Nat → Int64) (dn : Nat → Int32) (R U : Nat → Nat) : Prop := ∀ i, i < n → dn i = nI (U i) ∧ rX i = lN (R i) ∧ R i ≤ t ∧ (¬ pd i = 0 → (md = 0 → U i < rz_N lo i) ∧ U i < rz_N hi i ∧ (md = 1 → cr i = 1))
def rz_Md (n num e : Nat) (md : Int32) (pe lo hi cr pd : Nat → Int32) (R U : Nat → Nat) (t τ : Nat) : Prop := (md = 0 ∧ rz_I n num e pe lo hi cr pd R U t τ) ∨ (md = 1 ∧ rz_J n num e pe lo hi cr pd R U t τ)
theorem rz_Ht {cr : Nat → Int32} {i : Nat} (h : cr i = 1) : rz_H cr i = true := decide_eq_true h
theorem rz_Ht' {cr : Nat → Int32} {i : Nat} (h : rz_H cr i = true) : cr i = 1 := of_decide_eq_true h
theorem rz_Pt {pd : Nat → Int32} {i : Nat} (h : ¬ pd i = 0) : rz_P pd i = true := decide_eq_true h
theorem rz_Pt' {pd : Nat → Int32} {i : Nat} (h : rz_P pd i = true) : ¬ pd i = 0 := of_decide_eq_true h
theorem rz_Pf {pd : Nat → Int32} {i : Nat} (h : pd i = 0) : rz_P pd i = false := decide_eq_false (fun z => z h)
theorem rz_T_n {n i : Nat} {pe lo hi cr : Nat → Int32} (T : kz_T n pe lo hi cr) (h : i < n) : pe i = nI (rz_N pe i) ∧ lo i = nI (rz_N lo i) ∧ hi i = nI (rz_N hi i) ∧ 1 ≤ rz_N lo i ∧ rz_N lo i ≤ rz_N hi i ∧ rz_N hi i ≤ rz_N pe i ∧ rz_N pe i ≤ 16 := by
  obtain ⟨p, a, b, e1, e2, e3, h1, h2, h3, h4, _⟩ := T i h
  unfold rz_N
  rw [e1, e2, e3, nI_clamp (by omega), nI_clamp (by omega), nI_clamp (by omega)]
  exact ⟨rfl, rfl, rfl, h1, h2, h3, h4⟩
/-- the release at τ, in numbers -/
theorem rz_fin {n num e τ : Nat} {md : Int32} {pe lo hi cr pd pd' : Nat → Int32} {rX rX' : Nat → Int64} {dn dn' : Nat → Int32} {R U : Nat → Nat} (hT : kz_T n pe lo hi cr) (hA : rz_A n num e pe lo hi cr)
    (hJ : rz_Jb n τ md lo hi cr pd rX dn R U) (hM : rz_Md n num e md pe lo hi cr pd R U τ τ)
    (h : ∀ i, i < n → (rz_r τ md pe cr i → rz_new τ pd' rX' dn' i) ∧ (¬ rz_r τ md pe cr i → rz_same pd pd' rX rX' dn dn' i)) :
    ∃ R' U' : Nat → Nat, rz_Jb n τ md lo hi cr pd' rX' dn' R' U' ∧ rz_Md n num e md pe lo hi cr pd' R' U' τ (τ + 1) := by
  refine ⟨fun i => if τ % (pe i).toNatClampNeg = 0 ∧ ¬ (md = 1 ∧ cr i = 0) then τ else R i, fun i => if τ % (pe i).toNatClampNeg = 0 ∧ ¬ (md = 1 ∧ cr i = 0) then 0 else U i, ?_, ?_⟩
  · intro i hin
    obtain ⟨_, _, _, t1, t2, t3, t4⟩ := rz_T_n hT hin
    by_cases r : τ % (pe i).toNatClampNeg = 0 ∧ ¬ (md = 1 ∧ cr i = 0)
    · obtain ⟨k1, k2, k3⟩ := (h i hin).1 r
      dsimp only
      rw [if_pos r, if_pos r]
      refine ⟨k3, k2, Nat.le_refl τ, fun _ => ⟨fun _ => by omega, by omega, fun m => ?_⟩⟩
      rcases kz_T_c hT hin with ⟨c, _⟩ | c
      · exact absurd ⟨m, c⟩ r.2
      · exact c
    · obtain ⟨k1, k2, k3⟩ := (h i hin).2 r
      dsimp only
      rw [if_neg r, if_neg r, k1, k2, k3]
      exact hJ i hin
  · rcases hM with ⟨m, I⟩ | ⟨m, I⟩
    · refine Or.inl ⟨m, qz_rel n num e 720720 _ _ _ _ _ hA I (fun i hin z _ => ?_) (fun i hin z hp => ?_)⟩
      · have r : τ % (pe i).toNatClampNeg = 0 ∧ ¬ (md = 1 ∧ cr i = 0) := ⟨z, fun w => absurd (m.symm.trans w.1) (by decide)⟩
        exact ⟨if_pos r, if_pos r⟩
      · have r : ¬ (τ % (pe i).toNatClampNeg = 0 ∧ ¬ (md = 1 ∧ cr i = 0)) := fun w => z w.1
        obtain ⟨k1, k2, k3⟩ := (h i hin).2 r
        refine ⟨rz_Pt ?_, if_neg r, if_neg r⟩
        rw [← k1]
        exact rz_Pt' hp
    · refine Or.inr ⟨m, qz_relJ n num e 720720 _ _ _ _ _ hA I (fun i hin hh z _ => ?_) (fun i hin hh z hp => ?_)⟩
      · have r : τ % (pe i).toNatClampNeg = 0 ∧ ¬ (md = 1 ∧ cr i = 0) := ⟨z, fun w => absurd ((rz_Ht' hh).symm.trans w.2) (by decide)⟩
        exact ⟨if_pos r, if_pos r⟩
      · have r : ¬ (τ % (pe i).toNatClampNeg = 0 ∧ ¬ (md = 1 ∧ cr i = 0)) := fun w => z w.1
        obtain ⟨k1, k2, k3⟩ := (h i hin).2 r
        refine ⟨rz_Pt ?_, if_neg r, if_neg r⟩
        rw [← k1]
        exact rz_Pt' hp
/-- what follows step A: no job is late -/
theorem rz_rest (n t : Nat) (kc ad md la xn xd : Int32) (pe cr lo hi nx : Nat → Int32) (st pd dn dm cX : Nat → Int32) (rX : Nat → Int64) (num e : Nat) (R U : Nat → Nat) (hT : kz_T n pe lo hi cr) (hn : n ≤ 8) (ht : t + 17 < 2 ^ 31) (hA : rz_A n num e pe lo hi cr)
    (hJ : rz_Jb n t md lo hi cr pd rX dn R U) (hM : rz_Md n num e md pe lo hi cr pd R U (t + 1) (t + 1)) :
    ∃ (md' : Int32) (pd' : Nat → Int32) (rX' : Nat → Int64) (dn' dm' cX' st' : Nat → Int32) (R' U' : Nat → Nat), rz_Z cX cX' ∧ rz_Jb n (t + 1) md' lo hi cr pd' rX' dn' R' U' ∧ rz_Md n num e md' pe lo hi cr pd' R' U' (t + 1) (t + 1 + 1)
      ∧ (∀ post : St2 → Prop, post (kc, (nI n), ad, lN (t + 1), md', la, xn, xd, pe, cr, lo, hi, nx, pd', rX', dn', dm', cX', st') → wX_tick_47 post kc (nI n) ad (lN t) md la xn xd pe cr lo hi nx pd rX dn dm cX st) := by
  have hlate : ∀ i, i < n → ¬ pd i = 0 → t + 1 < R i + rz_N pe i := by
    intro i hin hp
    obtain ⟨_, _, _, u⟩ := hJ i hin
    obtain ⟨u1, u2, u3⟩ := u hp
    rcases hM with ⟨m, I⟩ | ⟨m, I⟩
    · exact qz_intimeL n num e _ _ _ _ I hin (rz_Pt hp) (u1 m) u2
    · exact qz_intimeJ n num e _ _ _ _ I hin (rz_Pt hp) (rz_Ht (u3 m)) u2
  have hlX : ∀ i, i < n → ¬ pd i = 0 → lN (t + 1) < rX i + (pe i).toInt64 := by
    intro i hin hp
    have h1 := hlate i hin hp
    obtain ⟨_, r1, r2, _⟩ := hJ i hin
    obtain ⟨t0, _, _, _, _, _, t4⟩ := rz_T_n hT hin
    rw [r1, t0, nI_l (by omega), lN_add, lN_lt (by omega) (by omega)]
    exact h1
  have hJ1 : rz_Jb n (t + 1) md lo hi cr pd rX dn R U := by
    intro i hin
    obtain ⟨a1, a2, a3, a4⟩ := hJ i hin
    exact ⟨a1, a2, by omega, a4⟩
  have walk : ∀ (md' : Int32) (st' : Nat → Int32), rz_Jb n (t + 1) md' lo hi cr pd rX dn R U → rz_Md n num e md' pe lo hi cr pd R U (t + 1) (t + 1) → (∀ post : St2 → Prop, post (kc, (nI n), ad, lN (t + 1), md', la, xn, xd, pe, cr, lo, hi, nx, pd, rX, dn, dm, cX, st') → wpX_resetMode post (kc, (nI n), ad, lN (t + 1), md, la, xn, xd, pe, cr, lo, hi, nx, pd, rX, dn, dm, cX, st)) →
      ∃ (md' : Int32) (pd' : Nat → Int32) (rX' : Nat → Int64) (dn' dm' cX' st' : Nat → Int32) (R' U' : Nat → Nat), rz_Z cX cX' ∧ rz_Jb n (t + 1) md' lo hi cr pd' rX' dn' R' U' ∧ rz_Md n num e md' pe lo hi cr pd' R' U' (t + 1) (t + 1 + 1)
      ∧ (∀ post : St2 → Prop, post (kc, (nI n), ad, lN (t + 1), md', la, xn, xd, pe, cr, lo, hi, nx, pd', rX', dn', dm', cX', st') → wX_tick_47 post kc (nI n) ad (lN t) md la xn xd pe cr lo hi nx pd rX dn dm cX st) := by
    intro md' st' h1 h2 h3
    obtain ⟨pd', rX', dn', dm', cX', b1, b2, b3⟩ := rz_release n (t + 1) kc ad md' la xn xd pe cr lo hi nx st' hT hn (by omega) pd rX dn dm cX
    obtain ⟨R', U', f1, f2⟩ := rz_fin hT hA h1 h2 b2
    refine ⟨md', pd', rX', dn', dm', cX', st', R', U', b1, f1, f2, fun post h => ?_⟩
    refine nm_r (lN_1 t) ⟨n + 1, rz_miss n (t + 1) kc ad md la xn xd pe cr lo hi nx pd dn dm cX st rX hn hlX _ (br_t (kz_nle hn) ?_) n 0 (by omega)⟩
    exact h3 _ (b3 _ h)
  by_cases m : md = 1
  · cases rz_any n (t + 1) kc ad md la xn xd pe cr lo hi nx pd dn dm cX st rX hn n 0 (by omega) with
    | inl g =>
      refine walk 0 (upd st 1 (st 1 + 1)) ?_ (Or.inl ⟨rfl, qz_idle n num e 720720 _ _ _ _ _ hA (t + 1) (fun i hin => rz_Pf (g.1 i (Nat.zero_le i) hin))⟩) (fun post h => br_t m ⟨n + 1, g.2 _ (br_t rfl (nm_e h))⟩)
      intro i hin
      obtain ⟨a1, a2, a3, a4⟩ := hJ1 i hin
      exact ⟨a1, a2, a3, fun hp => absurd (g.1 i (Nat.zero_le i) hin) hp⟩
    | inr g => exact walk md st hJ1 hM (fun post h => br_t m ⟨n + 1, g _ (br_f (by decide) h)⟩)
  · exact walk md st hJ1 hM (fun post h => br_f m h)
theorem rz_65 (n t : Nat) (kc ad md la xn xd : Int32) (pe cr lo hi nx : Nat → Int32) (st pd dn dm cX : Nat → Int32) (rX : Nat → Int64) (u : Int32) (i : Nat) (hi8 : i < 8) :
    ∃ (pd' cX' : Nat → Int32), rz_Z cX cX' ∧ (∀ a, a ≠ i → pd' a = pd a) ∧ (pd' i = 0 ∨ (pd' i = pd i ∧ ¬ u = hi i))
      ∧ (∀ post : St2 → Prop, post (kc, (nI n), ad, (lN t), md, la, xn, xd, pe, cr, lo, hi, nx, pd', rX, dn, dm, cX', st) → wX_execute_65 post (nI i) u kc (nI n) ad (lN t) md la xn xd pe cr lo hi nx pd rX dn dm cX st) := by
  have hv := kz_v8 hi8
  have ec := kz_cl hi8
  by_cases w : u = hi i
  · have w' : u = hi (nI i).toNatClampNeg := by rw [ec]; exact w
    refine ⟨upd pd i 0, upd cX (2 * 8 + i) (cX (2 * 8 + i) + 1), rz_Z_u cX 2 i _ (by omega) hi8, fun a ha => pk_un ha, Or.inl pk_us, fun post h => ⟨hv, br_t w' ?_⟩⟩
    exact kz_xej n t kc ad md la xn xd pe cr lo hi nx pd dn dm cX st rX 2 i (by omega) hi8 _ h
  · have w' : ¬ u = hi (nI i).toNatClampNeg := by rw [ec]; exact w
    exact ⟨pd, cX, rz_Z_r cX, fun _ _ => rfl, Or.inr ⟨rfl, w⟩, fun post h => ⟨hv, br_f w' h⟩⟩
theorem rz_exec (n t : Nat) (kc ad md la xn xd : Int32) (pe cr lo hi nx : Nat → Int32) (st pd dn dm cX : Nat → Int32) (rX : Nat → Int64) (hT : kz_T n pe lo hi cr) (hn : n ≤ 8) (i : Nat) (hin : i < n) :
    ∃ (md' : Int32) (pd' cX' st' : Nat → Int32), rz_Z cX cX'
      ∧ ((md' = md ∧ (∀ a, a < n → a ≠ i → pd' a = pd a) ∧ (pd' i = 0 ∨ (pd' i = pd i ∧ ¬ dn i + 1 = hi i ∧ (md = 0 → ¬ dn i + 1 = lo i))))
        ∨ (md = 0 ∧ md' = 1 ∧ cr i = 1 ∧ (∀ a, a < n → a ≠ i → (cr a = 0 → pd' a = 0) ∧ (¬ cr a = 0 → pd' a = pd a)) ∧ (pd' i = 0 ∨ (pd' i = pd i ∧ ¬ dn i + 1 = hi i))))
      ∧ (∀ post : St2 → Prop, post (kc, (nI n), ad, (lN t), md', nI i, xn, xd, pe, cr, lo, hi, nx, pd', rX, upd dn i (dn i + 1), dm, cX', st') → wpX_execute post (kc, (nI n), ad, (lN t), md, nI i, xn, xd, pe, cr, lo, hi, nx, pd, rX, dn, dm, cX, upd st 3 (st 3 + 1)) (nI i)) := by
  have hi8 : i < 8 := by omega
  have hv := kz_v8 hi8
  have ec := kz_cl hi8
  have eu : upd dn i (dn i + 1) i = dn i + 1 := pk_us
  by_cases a : dn i + 1 = dm i
  · refine ⟨md, upd pd i 0, upd cX (1 * 8 + i) (cX (1 * 8 + i) + 1), upd st 3 (st 3 + 1), rz_Z_u cX 1 i _ (by omega) hi8, Or.inl ⟨rfl, fun b _ hb => pk_un hb, Or.inl pk_us⟩, fun post h => ?_⟩
    unfold wpX_execute
    dsimp only
    rw [ec]
    refine ⟨hv, hv, nm_e ⟨hv, nm_r eu ⟨hv, br_t a ?_⟩⟩⟩
    exact kz_xej n t kc ad md (nI i) xn xd pe cr lo hi nx pd (upd dn i (dn i + 1)) dm cX (upd st 3 (st 3 + 1)) rX 1 i (by omega) hi8 _ h
  · rcases kz_T_c hT hin with ⟨c, el⟩ | c
    · have c1 : ¬ cr i = 1 := by rw [c]; decide
      obtain ⟨pd', cX', g1, g2, g3, g4⟩ := rz_65 n t kc ad md (nI i) xn xd pe cr lo hi nx (upd st 3 (st 3 + 1)) pd (upd dn i (dn i + 1)) dm cX rX (dn i + 1) i hi8
      refine ⟨md, pd', cX', upd st 3 (st 3 + 1), g1, Or.inl ⟨rfl, fun b _ hb => g2 b hb, ?_⟩, fun post h => ?_⟩
      · rcases g3 with g3 | ⟨k1, k2⟩
        · exact Or.inl g3
        · exact Or.inr ⟨k1, k2, fun _ => by rw [← el]; exact k2⟩
      · unfold wpX_execute
        dsimp only
        rw [ec]
        exact ⟨hv, hv, nm_e ⟨hv, nm_r eu ⟨hv, br_f a ⟨hv, br_f c1 (g4 _ h)⟩⟩⟩⟩
    · by_cases m : md = 0
      · by_cases w : dn i + 1 = lo i
        · obtain ⟨pd1, cX1, f1, f2, f3, f4⟩ := rz_drop n t kc ad 1 (nI i) xn xd pe cr lo hi nx (upd (upd st 3 (st 3 + 1)) 0 (upd st 3 (st 3 + 1) 0 + 1)) (upd dn i (dn i + 1)) dm rX hn n 0 (by omega) pd cX
          obtain ⟨pd', cX', g1, g2, g3, g4⟩ := rz_65 n t kc ad 1 (nI i) xn xd pe cr lo hi nx (upd (upd st 3 (st 3 + 1)) 0 (upd st 3 (st 3 + 1) 0 + 1)) pd1 (upd dn i (dn i + 1)) dm cX1 rX (dn i + 1) i hi8
          refine ⟨1, pd', cX', upd (upd st 3 (st 3 + 1)) 0 (upd st 3 (st 3 + 1) 0 + 1), rz_Z_t f1 g1, Or.inr ⟨m, rfl, c, fun b hb hbi => ?_, ?_⟩, fun post h => ?_⟩
          · obtain ⟨k1, k2⟩ := f3 b (Nat.zero_le b) hb
            rw [g2 b hbi]
            exact ⟨k1, k2⟩
          · rcases g3 with g3 | ⟨k1, k2⟩
            · exact Or.inl g3
            · refine Or.inr ⟨?_, k2⟩
              rw [k1]
              exact (f3 i (Nat.zero_le i) hin).2 (by rw [c]; decide)
          · unfold wpX_execute
            dsimp only
            rw [ec]
            refine ⟨hv, hv, nm_e ⟨hv, nm_r eu ⟨hv, br_f a ⟨hv, br_t c (br_t m ⟨hv, br_t w ?_⟩)⟩⟩⟩⟩
            exact nm_e ⟨n + 1, f4 _ (br_t (kz_nle hn) (g4 _ h))⟩
        · obtain ⟨pd', cX', g1, g2, g3, g4⟩ := rz_65 n t kc ad md (nI i) xn xd pe cr lo hi nx (upd st 3 (st 3 + 1)) pd (upd dn i (dn i + 1)) dm cX rX (dn i + 1) i hi8
          refine ⟨md, pd', cX', upd st 3 (st 3 + 1), g1, Or.inl ⟨rfl, fun b _ hb => g2 b hb, ?_⟩, fun post h => ?_⟩
          · rcases g3 with g3 | ⟨k1, k2⟩
            · exact Or.inl g3
            · exact Or.inr ⟨k1, k2, fun _ => w⟩
          · unfold wpX_execute
            dsimp only
            rw [ec]
            exact ⟨hv, hv, nm_e ⟨hv, nm_r eu ⟨hv, br_f a ⟨hv, br_t c (br_t m ⟨hv, br_f w (g4 _ h)⟩)⟩⟩⟩⟩
      · obtain ⟨pd', cX', g1, g2, g3, g4⟩ := rz_65 n t kc ad md (nI i) xn xd pe cr lo hi nx (upd st 3 (st 3 + 1)) pd (upd dn i (dn i + 1)) dm cX rX (dn i + 1) i hi8
        refine ⟨md, pd', cX', upd st 3 (st 3 + 1), g1, Or.inl ⟨rfl, fun b _ hb => g2 b hb, ?_⟩, fun post h => ?_⟩
        · rcases g3 with g3 | ⟨k1, k2⟩
          · exact Or.inl g3
          · exact Or.inr ⟨k1, k2, fun z => absurd z m⟩
        · unfold wpX_execute
          dsimp only
          rw [ec]
          exact ⟨hv, hv, nm_e ⟨hv, nm_r eu ⟨hv, br_f a ⟨hv, br_t c (br_f m (g4 _ h))⟩⟩⟩⟩
