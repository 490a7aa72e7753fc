/-! the loops of the component, with what they change -/
theorem kz_nle {n : Nat} (hn : n ≤ 8) : nI n ≤ nI n := nI_le (Nat.le_refl n) (by omega)
/-- the row of missed jobs is the same -/
def rz_Z (cX cX' : Nat → Int32) : Prop := ∀ j, j < 8 → cX' (5 * 8 + j) = cX (5 * 8 + j)
theorem rz_Z_r (cX : Nat → Int32) : rz_Z cX cX := fun _ _ => rfl
theorem rz_Z_t {a b c : Nat → Int32} (h : rz_Z a b) (g : rz_Z b c) : rz_Z a c := fun j hj => (g j hj).trans (h j hj)
theorem rz_Z_u (cX : Nat → Int32) (k j : Nat) (x : Int32) (hk : k < 5) (hj : j < 8) : rz_Z cX (upd cX (k * 8 + j) x) := fun i hi => pk_un (by omega)
/-- a job of i is released at t -/
def rz_r (t : Nat) (md : Int32) (pe cr : Nat → Int32) (i : Nat) : Prop := t % (pe i).toNatClampNeg = 0 ∧ ¬ (md = 1 ∧ cr i = 0)
def rz_same (pd pd' : Nat → Int32) (rX rX' : Nat → Int64) (dn dn' : Nat → Int32) (i : Nat) : Prop := pd' i = pd i ∧ rX' i = rX i ∧ dn' i = dn i
def rz_new (t : Nat) (pd' : Nat → Int32) (rX' : Nat → Int64) (dn' : Nat → Int32) (i : Nat) : Prop := pd' i = 1 ∧ rX' i = lN t ∧ dn' i = 0
theorem rz_rel (n t : Nat) (kc ad md la xn xd : Int32) (pe cr lo hi nx : Nat → Int32) (st : Nat → Int32) (hT : kz_T n pe lo hi cr) (hn : n ≤ 8) (ht : t < 2 ^ 31) : ∀ d j, j + d = n → ∀ (pd : Nat → Int32) (rX : Nat → Int64) (dn dm cX : Nat → Int32),
    ∃ (pd' : Nat → Int32) (rX' : Nat → Int64) (dn' dm' cX' : Nat → Int32), rz_Z cX cX' ∧ (∀ i, i < j → rz_same pd pd' rX rX' dn dn' i)
      ∧ (∀ i, j ≤ i → i < n → (rz_r t md pe cr i → rz_new t pd' rX' dn' i) ∧ (¬ rz_r t md pe cr i → rz_same pd pd' rX rX' dn dn' i))
      ∧ (∀ post : St2 → Prop, wX_releaseJobs_2 post 1 (nI n) kc (nI n) ad (lN t) md la xn xd pe cr lo hi nx pd' rX' dn' dm' cX' st → wX_releaseJobs_2 post (d + 1) (nI j) kc (nI n) ad (lN t) md la xn xd pe cr lo hi nx pd rX dn dm cX st) := by
  intro d
  induction d with
  | zero =>
    intro j hj pd rX dn dm cX
    have e : j = n := by omega
    rw [e]
    exact ⟨pd, rX, dn, dm, cX, rz_Z_r cX, fun _ _ => ⟨rfl, rfl, rfl⟩, fun i h1 h2 => absurd h2 (by omega), fun _ h => h⟩
  | succ d ih =>
    intro j hj pd rX dn dm cX
    have hj8 : j < 8 := by omega
    have hge : ¬ nI n ≤ nI j := nI_ge (by omega) (by omega)
    have hv := kz_v8 hj8
    have ec := kz_cl hj8
    obtain ⟨p, ep, hp1, hp16⟩ := kz_T_p hT (show j < n by omega)
    have nX : ¬ (pe (nI j).toNatClampNeg).toInt64 = 0 := by
      rw [ec, ep, nI_l (by omega), show (0 : Int64) = lN 0 from rfl, lN_eq (by omega) (by omega)]; omega
    have qX : (lN t - lN t / (pe (nI j).toNatClampNeg).toInt64 * (pe (nI j).toNatClampNeg).toInt64 = 0) ↔ t % (pe j).toNatClampNeg = 0 := by
      have hm := Nat.mod_le t p
      rw [ec, ep, nI_l (by omega), nI_clamp (by omega), pk_lRem (by omega) (by omega) (by omega), show (0 : Int64) = lN 0 from rfl, lN_eq (by omega) (by omega)]
    by_cases z : t % (pe j).toNatClampNeg = 0
    · have zX := qX.mpr z
      by_cases m : md = 1 ∧ cr j = 0
      · obtain ⟨pd', rX', dn', dm', cX', g1, g2, g3, g4⟩ := ih (j + 1) (by omega) pd rX dn dm (upd cX (4 * 8 + j) (cX (4 * 8 + j) + 1))
        refine ⟨pd', rX', dn', dm', cX', rz_Z_t (rz_Z_u cX 4 j _ (by omega) hj8) g1, fun i h1 => g2 i (by omega), fun i h1 h2 => ?_, fun post h => ?_⟩
        · by_cases e : i = j
          · subst e
            exact ⟨fun r => absurd m r.2, fun _ => g2 i (by omega)⟩
          · exact g3 i (by omega) h2
        · refine br_f hge ⟨hv, nX, br_t zX ?_⟩
          exact kz_xrj1 n t kc ad md la xn xd pe cr lo hi nx pd dn dm cX st rX j hj8 m.1 m.2 _ (nm_r (nI_1 j) (g4 post h))
      · obtain ⟨pd', rX', dn', dm', cX', g1, g2, g3, g4⟩ := ih (j + 1) (by omega) (upd pd j 1) (vp_updL rX j (lN t)) (upd dn j 0) (upd dm j (nx j)) (upd cX (0 * 8 + j) (cX (0 * 8 + j) + 1))
        refine ⟨pd', rX', dn', dm', cX', rz_Z_t (rz_Z_u cX 0 j _ (by omega) hj8) g1, fun i h1 => ?_, fun i h1 h2 => ?_, fun post h => ?_⟩
        · obtain ⟨k1, k2, k3⟩ := g2 i (by omega)
          rw [pk_un (by omega)] at k1 k3
          rw [pk_uLn (by omega)] at k2
          exact ⟨k1, k2, k3⟩
        · by_cases e : i = j
          · subst e
            refine ⟨fun _ => ?_, fun r => absurd ⟨z, m⟩ r⟩
            obtain ⟨k1, k2, k3⟩ := g2 i (by omega)
            rw [pk_us] at k1 k3
            rw [pk_uLs] at k2
            exact ⟨k1, k2, k3⟩
          · obtain ⟨k4, k5⟩ := g3 i (by omega) h2
            refine ⟨k4, fun r => ?_⟩
            obtain ⟨k1, k2, k3⟩ := k5 r
            rw [pk_un e] at k1 k3
            rw [pk_uLn e] at k2
            exact ⟨k1, k2, k3⟩
        · refine br_f hge ⟨hv, nX, br_t zX ?_⟩
          exact kz_xrj2 n t kc ad md la xn xd pe cr lo hi nx pd dn dm cX st rX j hj8 m _ (nm_r (nI_1 j) (g4 post h))
    · obtain ⟨pd', rX', dn', dm', cX', g1, g2, g3, g4⟩ := ih (j + 1) (by omega) pd rX dn dm cX
      refine ⟨pd', rX', dn', dm', cX', g1, fun i h1 => g2 i (by omega), fun i h1 h2 => ?_, fun post h => ?_⟩
      · by_cases e : i = j
        · subst e
          exact ⟨fun r => absurd r.1 z, fun _ => g2 i (by omega)⟩
        · exact g3 i (by omega) h2
      · exact br_f hge ⟨hv, nX, br_f (fun q => z (qX.mp q)) (nm_r (nI_1 j) (g4 post h))⟩
theorem rz_release (n t : Nat) (kc ad md la xn xd : Int32) (pe cr lo hi nx : Nat → Int32) (st : Nat → Int32) (hT : kz_T n pe lo hi cr) (hn : n ≤ 8) (ht : t < 2 ^ 31) (pd : Nat → Int32) (rX : Nat → Int64) (dn dm cX : Nat → Int32) :
    ∃ (pd' : Nat → Int32) (rX' : Nat → Int64) (dn' dm' cX' : Nat → Int32), rz_Z cX cX'
      ∧ (∀ i, i < n → (rz_r t md pe cr i → rz_new t pd' rX' dn' i) ∧ (¬ rz_r t md pe cr i → rz_same pd pd' rX rX' dn dn' i))
      ∧ (∀ post : St2 → Prop, post (kc, (nI n), ad, (lN t), md, la, xn, xd, pe, cr, lo, hi, nx, pd', rX', dn', dm', cX', st) → wpX_releaseJobs post (kc, (nI n), ad, (lN t), md, la, xn, xd, pe, cr, lo, hi, nx, pd, rX, dn, dm, cX, st)) := by
  obtain ⟨pd', rX', dn', dm', cX', g1, g2, g3, g4⟩ := rz_rel n t kc ad md la xn xd pe cr lo hi nx st hT hn ht n 0 (by omega) pd rX dn dm cX
  refine ⟨pd', rX', dn', dm', cX', g1, fun i hi' => g3 i (Nat.zero_le i) hi', fun post h => ⟨n + 1, ?_⟩⟩
  exact g4 post (br_t (kz_nle hn) h)
theorem rz_miss (n t : Nat) (kc ad md la xn xd : Int32) (pe cr lo hi nx : Nat → Int32) (pd dn dm cX st : Nat → Int32) (rX : Nat → Int64) (hn : n ≤ 8) (hM : ∀ i, i < n → ¬ pd i = 0 → lN t < rX i + (pe i).toInt64) (post : St2 → Prop) (h : wX_missDeadlines_2 post 1 (nI n) kc (nI n) ad (lN t) md la xn xd pe cr lo hi nx pd rX dn dm cX st) : ∀ d j, j + d = n → wX_missDeadlines_2 post (d + 1) (nI j) kc (nI n) ad (lN t) md la xn xd pe cr lo hi nx pd rX dn dm cX st := by
  intro d
  induction d with
  | zero =>
    intro j hj
    have e : j = n := by omega
    rw [e]
    exact h
  | succ d ih =>
    intro j hj
    have hj8 : j < 8 := by omega
    have hge : ¬ nI n ≤ nI j := nI_ge (by omega) (by omega)
    have hv := kz_v8 hj8
    have ec := kz_cl hj8
    by_cases z : pd j = 0
    · exact br_f hge ⟨hv, br_t (by rw [ec]; exact z) (nm_r (nI_1 j) (ih (j + 1) (by omega)))⟩
    · refine br_f hge ⟨hv, br_f (by rw [ec]; exact z) ⟨hv, hv, br_t ?_ (nm_r (nI_1 j) (ih (j + 1) (by omega)))⟩⟩
      rw [ec]
      exact hM j (by omega) z
theorem rz_any (n t : Nat) (kc ad md la xn xd : Int32) (pe cr lo hi nx : Nat → Int32) (pd dn dm cX st : Nat → Int32) (rX : Nat → Int64) (hn : n ≤ 8) : ∀ d j, j + d = n →
    ((∀ i, j ≤ i → i < n → pd i = 0) ∧ (∀ post : Int32 → Prop, post 0 → wX_anyPending_2 post kc (nI n) ad (lN t) md la xn xd pe cr lo hi nx pd rX dn dm cX st (d + 1) (nI j))) ∨ (∀ post : Int32 → Prop, post 1 → wX_anyPending_2 post kc (nI n) ad (lN t) md la xn xd pe cr lo hi nx pd rX dn dm cX st (d + 1) (nI j)) := by
  intro d
  induction d with
  | zero =>
    intro j hj
    have e : j = n := by omega
    rw [e]
    exact Or.inl ⟨fun i h1 h2 => absurd h2 (by omega), fun post h => br_t (kz_nle hn) h⟩
  | succ d ih =>
    intro j hj
    have hj8 : j < 8 := by omega
    have hge : ¬ nI n ≤ nI j := nI_ge (by omega) (by omega)
    have hv := kz_v8 hj8
    have ec := kz_cl hj8
    by_cases z : pd j = 0
    · have z' : pd (nI j).toNatClampNeg = 0 := by rw [ec]; exact z
      cases ih (j + 1) (by omega) with
      | inl g =>
        refine Or.inl ⟨fun i h1 h2 => ?_, fun post h => br_f hge ⟨hv, br_t z' (nm_r (nI_1 j) (g.2 post h))⟩⟩
        by_cases e : i = j
        · subst e; exact z
        · exact g.1 i (by omega) h2
      | inr g => exact Or.inr (fun post h => br_f hge ⟨hv, br_t z' (nm_r (nI_1 j) (g post h))⟩)
    · exact Or.inr (fun post h => br_f hge ⟨hv, br_f (by rw [ec]; exact z) h⟩)
theorem rz_drop (n t : Nat) (kc ad md la xn xd : Int32) (pe cr lo hi nx : Nat → Int32) (st dn dm : Nat → Int32) (rX : Nat → Int64) (hn : n ≤ 8) : ∀ d j, j + d = n → ∀ (pd cX : Nat → Int32),
    ∃ (pd' cX' : Nat → Int32), rz_Z cX cX' ∧ (∀ i, i < j → pd' i = pd i) ∧ (∀ i, j ≤ i → i < n → (cr i = 0 → pd' i = 0) ∧ (¬ cr i = 0 → pd' i = pd i))
      ∧ (∀ post : St2 → Prop, wX_switchToHi_17 post 1 (nI n) kc (nI n) ad (lN t) md la xn xd pe cr lo hi nx pd' rX dn dm cX' st → wX_switchToHi_17 post (d + 1) (nI j) kc (nI n) ad (lN t) md la xn xd pe cr lo hi nx pd rX dn dm cX st) := by
  intro d
  induction d with
  | zero =>
    intro j hj pd cX
    have e : j = n := by omega
    rw [e]
    exact ⟨pd, cX, rz_Z_r cX, fun _ _ => rfl, fun i h1 h2 => absurd h2 (by omega), fun _ h => h⟩
  | succ d ih =>
    intro j hj pd cX
    have hj8 : j < 8 := by omega
    have hge : ¬ nI n ≤ nI j := nI_ge (by omega) (by omega)
    have hv := kz_v8 hj8
    have ec := kz_cl hj8
    by_cases c : cr j = 0
    · have c' : cr (nI j).toNatClampNeg = 0 := by rw [ec]; exact c
      by_cases z : pd j = 0
      · have z' : pd (nI j).toNatClampNeg = 0 := by rw [ec]; exact z
        obtain ⟨pd', cX', g1, g2, g3, g4⟩ := ih (j + 1) (by omega) pd cX
        refine ⟨pd', cX', g1, fun i h1 => g2 i (by omega), fun i h1 h2 => ?_, fun post h => ?_⟩
        · by_cases e : i = j
          · subst e
            exact ⟨fun _ => (g2 i (by omega)).trans z, fun r => absurd c r⟩
          · exact g3 i (by omega) h2
        · exact br_f hge ⟨hv, br_t c' ⟨hv, br_t z' (nm_r (nI_1 j) (g4 post h))⟩⟩
      · have z' : ¬ pd (nI j).toNatClampNeg = 0 := by rw [ec]; exact z
        obtain ⟨pd', cX', g1, g2, g3, g4⟩ := ih (j + 1) (by omega) (upd pd j 0) (upd cX (3 * 8 + j) (cX (3 * 8 + j) + 1))
        refine ⟨pd', cX', rz_Z_t (rz_Z_u cX 3 j _ (by omega) hj8) g1, fun i h1 => ?_, fun i h1 h2 => ?_, fun post h => ?_⟩
        · exact (g2 i (by omega)).trans (pk_un (by omega))
        · by_cases e : i = j
          · subst e
            exact ⟨fun _ => (g2 i (by omega)).trans pk_us, fun r => absurd c r⟩
          · obtain ⟨k1, k2⟩ := g3 i (by omega) h2
            exact ⟨k1, fun r => (k2 r).trans (pk_un e)⟩
        · refine br_f hge ⟨hv, br_t c' ⟨hv, br_f z' ?_⟩⟩
          exact kz_xej n t kc ad md la xn xd pe cr lo hi nx pd dn dm cX st rX 3 j (by omega) hj8 _ (nm_r (nI_1 j) (g4 post h))
    · have c' : ¬ cr (nI j).toNatClampNeg = 0 := by rw [ec]; exact c
      obtain ⟨pd', cX', g1, g2, g3, g4⟩ := ih (j + 1) (by omega) pd cX
      refine ⟨pd', cX', g1, fun i h1 => g2 i (by omega), fun i h1 h2 => ?_, fun post h => ?_⟩
      · by_cases e : i = j
        · subst e
          exact ⟨fun r => absurd r c, fun _ => g2 i (by omega)⟩
        · exact g3 i (by omega) h2
      · exact br_f hge ⟨hv, br_f c' (nm_r (nI_1 j) (g4 post h))⟩
/-- a job's key, as a number -/
def rz_K (md : Int32) (num e : Nat) (cr : Nat → Int32) (R T : Nat → Nat) (i : Nat) : Nat := if cr i = 1 ∧ md = 0 then R i * (num + e) + num * T i else (R i + T i) * (num + e)
theorem rz_key (n t : Nat) (kc ad md la xn xd : Int32) (pe cr lo hi nx : Nat → Int32) (pd dn dm cX st : Nat → Int32) (rX : Nat → Int64) (num e : Nat) (R T : Nat → Nat) (j : Nat) (hj8 : j < 8) (h1 : rX j = lN (R j)) (h2 : pe j = nI (T j)) (h3 : T j < 2 ^ 31) (h4 : xn = nI num) (h5 : xd = nI (num + e)) (h6 : num + e < 2 ^ 31) (post : Int64 → Prop) (hp : post (lN (rz_K md num e cr R T j))) : wpX_priorityKey post (kc, (nI n), ad, (lN t), md, la, xn, xd, pe, cr, lo, hi, nx, pd, rX, dn, dm, cX, st) (nI j) := by
  have hv := kz_v8 hj8
  have ec := kz_cl hj8
  unfold rz_K at hp
  by_cases c : cr j = 1
  · by_cases m : md = 0
    · rw [if_pos ⟨c, m⟩, ← lN_add, ← lN_mul, ← lN_mul] at hp
      unfold wpX_priorityKey
      dsimp only
      rw [ec, h1, h2, h4, h5, nI_l h3, nI_l h6, nI_l (show num < 2 ^ 31 by omega)]
      exact ⟨hv, br_t c (br_t m ⟨hv, hv, hp⟩)⟩
    · rw [if_neg (fun z => m z.2), ← lN_mul, ← lN_add] at hp
      unfold wpX_priorityKey wX_priorityKey_44
      dsimp only
      rw [ec, h1, h2, h5, nI_l h3, nI_l h6]
      exact ⟨hv, br_t c (br_f m ⟨hv, hv, hp⟩)⟩
  · rw [if_neg (fun z => c z.1), ← lN_mul, ← lN_add] at hp
    unfold wpX_priorityKey wX_priorityKey_44
    dsimp only
    rw [ec, h1, h2, h5, nI_l h3, nI_l h6]
    exact ⟨hv, br_f c ⟨hv, hv, hp⟩⟩
/-- the choice among the first j tasks -/
def rz_ch (pd : Nat → Int32) (K : Nat → Nat) (j : Nat) (c : Int32) (k : Int64) : Prop := (c = -1 ∧ ∀ i, i < j → pd i = 0) ∨ (∃ a, a < j ∧ c = nI a ∧ k = lN (K a) ∧ ¬ pd a = 0 ∧ ∀ i, i < j → ¬ pd i = 0 → K a ≤ K i)
theorem rz_choose (n t : Nat) (kc ad md la xn xd : Int32) (pe cr lo hi nx : Nat → Int32) (pd dn dm cX st : Nat → Int32) (rX : Nat → Int64) (num e : Nat) (R T : Nat → Nat) (hn : n ≤ 8) (h1 : ∀ i, i < n → rX i = lN (R i)) (h2 : ∀ i, i < n → pe i = nI (T i)) (h3 : ∀ i, i < n → T i < 2 ^ 31) (h4 : xn = nI num) (h5 : xd = nI (num + e)) (h6 : num + e < 2 ^ 31) (h7 : ∀ i, i < n → rz_K md num e cr R T i < 2 ^ 63) : ∀ d j, j + d = n → ∀ (c : Int32) (k : Int64), rz_ch pd (rz_K md num e cr R T) j c k →
    ∃ (c' : Int32) (k' : Int64), rz_ch pd (rz_K md num e cr R T) n c' k' ∧ (∀ post : Int32 → Prop, post c' → wX_chooseTask_7 post kc (nI n) ad (lN t) md la xn xd pe cr lo hi nx pd rX dn dm cX st (d + 1) c k (nI j)) := by
  intro d
  induction d with
  | zero =>
    intro j hj c k hc
    have e : j = n := by omega
    rw [e] at hc ⊢
    exact ⟨c, k, hc, fun post h => br_t (kz_nle hn) h⟩
  | succ d ih =>
    intro j hj c k hc
    have hj8 : j < 8 := by omega
    have hjn : j < n := by omega
    have hge : ¬ nI n ≤ nI j := nI_ge (by omega) (by omega)
    have hv := kz_v8 hj8
    have ec := kz_cl hj8
    by_cases z : pd j = 0
    · have z' : pd (nI j).toNatClampNeg = 0 := by rw [ec]; exact z
      have hc' : rz_ch pd (rz_K md num e cr R T) (j + 1) c k := by
        rcases hc with ⟨a1, a2⟩ | ⟨a, a1, a2, a3, a4, a5⟩
        · refine Or.inl ⟨a1, fun i hi' => ?_⟩
          by_cases w : i = j
          · subst w; exact z
          · exact a2 i (by omega)
        · refine Or.inr ⟨a, by omega, a2, a3, a4, fun i hi' hp => ?_⟩
          by_cases w : i = j
          · subst w; exact absurd z hp
          · exact a5 i (by omega) hp
      obtain ⟨c', k', g1, g2⟩ := ih (j + 1) (by omega) c k hc'
      exact ⟨c', k', g1, fun post h => br_f hge ⟨hv, br_t z' (nm_r (nI_1 j) (g2 post h))⟩⟩
    · have z' : ¬ pd (nI j).toNatClampNeg = 0 := by rw [ec]; exact z
      have kX := fun post hp => rz_key n t kc ad md la xn xd pe cr lo hi nx pd dn dm cX st rX num e R T j hj8 (h1 j hjn) (h2 j hjn) (h3 j hjn) h4 h5 h6 post hp
      rcases hc with ⟨a1, a2⟩ | ⟨a, a1, a2, a3, a4, a5⟩
      · subst a1
        obtain ⟨c', k', g1, g2⟩ := ih (j + 1) (by omega) (nI j) (lN (rz_K md num e cr R T j)) (Or.inr ⟨j, by omega, rfl, rfl, z, fun i hi' hp => by
          by_cases w : i = j
          · subst w; exact Nat.le_refl _
          · exact absurd (a2 i (by omega)) hp⟩)
        exact ⟨c', k', g1, fun post h => br_f hge ⟨hv, br_f z' (kX _ (br_t rfl (nm_r (nI_1 j) (g2 post h))))⟩⟩
      · subst a2; subst a3
        have m1 : ¬ nI a = -1 := kz_nm1 (by omega)
        have q : (lN (rz_K md num e cr R T a) ≤ lN (rz_K md num e cr R T j)) ↔ rz_K md num e cr R T a ≤ rz_K md num e cr R T j := pk_lLE (h7 a (by omega)) (h7 j hjn)
        by_cases w : rz_K md num e cr R T a ≤ rz_K md num e cr R T j
        · obtain ⟨c', k', g1, g2⟩ := ih (j + 1) (by omega) (nI a) (lN (rz_K md num e cr R T a)) (Or.inr ⟨a, by omega, rfl, rfl, a4, fun i hi' hp => by
            by_cases y : i = j
            · subst y; exact w
            · exact a5 i (by omega) hp⟩)
          exact ⟨c', k', g1, fun post h => br_f hge ⟨hv, br_f z' (kX _ (br_f m1 (br_t (q.mpr w) (nm_r (nI_1 j) (g2 post h)))))⟩⟩
        · obtain ⟨c', k', g1, g2⟩ := ih (j + 1) (by omega) (nI j) (lN (rz_K md num e cr R T j)) (Or.inr ⟨j, by omega, rfl, rfl, z, fun i hi' hp => by
            by_cases y : i = j
            · subst y; exact Nat.le_refl _
            · have := a5 i (by omega) hp; omega⟩)
          exact ⟨c', k', g1, fun post h => br_f hge ⟨hv, br_f z' (kX _ (br_f m1 (br_f (fun y => w (q.mp y)) (nm_r (nI_1 j) (g2 post h)))))⟩⟩
