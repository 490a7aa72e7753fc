/-! sums, the divisor, admission -/
theorem kz_term {n j s : Nat} {c : Int32} {cr A P : Nat → Int32} {a p : Nat} (ea : A j = nI a) (ep : P j = nI p) (h1 : 1 ≤ p) (hp : p ≤ 16) (ha : a ≤ 16) (hc : cr j = c) : nI s + A j * (720720 / P j) = nI (s + kz_u c cr A P j) := by
  unfold kz_u
  rw [if_pos hc, ea, ep, nI_clamp (by omega), nI_clamp (by omega), show (720720 : Int32) = nI 720720 from rfl, pk_div (by omega) (by omega) (by omega), pk_mul, nI_add]
theorem kz_term0 {j s : Nat} {c : Int32} {cr A P : Nat → Int32} (hc : ¬ cr j = c) : s + kz_u c cr A P j = s := by
  unfold kz_u
  rw [if_neg hc, Nat.add_zero]
theorem kz_T_lo {n i : Nat} {pe lo hi cr : Nat → Int32} (T : kz_T n pe lo hi cr) (h : i < n) : ∃ a, lo i = nI a ∧ a ≤ 16 := by
  obtain ⟨p, a, b, _, e, _, h1, h2, h3, h4, _⟩ := T i h
  exact ⟨a, e, by omega⟩
theorem kz_T_hi {n i : Nat} {pe lo hi cr : Nat → Int32} (T : kz_T n pe lo hi cr) (h : i < n) : ∃ a, hi i = nI a ∧ a ≤ 16 := by
  obtain ⟨p, a, b, _, _, e, h1, h2, h3, h4, _⟩ := T i h
  exact ⟨b, e, by omega⟩
theorem kz_xlo (n t : Nat) (kc ad md la xn xd : Int32) (pe cr lo hi nx : Nat → Int32) (pd dn dm cX st : Nat → Int32) (rX : Nat → Int64) (hT : kz_T n pe lo hi cr) (hn : n ≤ 8) (c : Int32) (post : Int32 → Prop) (hp : post (nI (kz_sum (kz_u c cr lo pe) n))) : ∀ d j, j + d = n → wX_utilSum__budgetLo_5 post c kc (nI n) ad (lN t) md la xn xd pe cr lo hi nx pd rX dn dm cX st (d + 1) (nI (kz_sum (kz_u c cr lo pe) j)) (nI j) := by
  intro d
  induction d with
  | zero =>
    intro j hj
    have e : j = n := by omega
    rw [e]
    exact br_t (nI_le (Nat.le_refl n) (by omega)) hp
  | succ d ih =>
    intro j hj
    have hj8 : j < 8 := by omega
    have hge : ¬ nI n ≤ nI j := nI_ge (by omega) (by omega)
    have hv := kz_v8 hj8
    have ec := kz_cl hj8
    obtain ⟨p, ep, hp1, hp16⟩ := kz_T_p hT (show j < n by omega)
    obtain ⟨a, ea, ha⟩ := kz_T_lo hT (show j < n by omega)
    have ih1 := ih (j + 1) (by omega)
    have es : kz_sum (kz_u c cr lo pe) (j + 1) = kz_sum (kz_u c cr lo pe) j + kz_u c cr lo pe j := rfl
    rw [es] at ih1
    have nY : ¬ pe (nI j).toNatClampNeg = 0 := by rw [ec, ep]; exact nI_ne0 (by omega) (by omega)
    by_cases z : cr j = c
    · have z' : cr (nI j).toNatClampNeg = c := by rw [ec]; exact z
      refine br_f hge ⟨hv, br_t z' ⟨hv, hv, nY, nm_r ?_ (nm_r (nI_1 j) ih1)⟩⟩
      rw [ec]
      exact kz_term (n := n) ea ep hp1 hp16 ha z
    · have z' : ¬ cr (nI j).toNatClampNeg = c := by rw [ec]; exact z
      rw [kz_term0 z] at ih1
      exact br_f hge ⟨hv, br_f z' (nm_r (nI_1 j) ih1)⟩
theorem kz_Xlo (n t : Nat) (kc ad md la xn xd : Int32) (pe cr lo hi nx : Nat → Int32) (pd dn dm cX st : Nat → Int32) (rX : Nat → Int64) (hT : kz_T n pe lo hi cr) (hn : n ≤ 8) (c : Int32) (post : Int32 → Prop) (hp : post (nI (kz_sum (kz_u c cr lo pe) n))) : wpX_utilSum__budgetLo post (kc, (nI n), ad, (lN t), md, la, xn, xd, pe, cr, lo, hi, nx, pd, rX, dn, dm, cX, st) c :=
  ⟨n + 1, kz_xlo n t kc ad md la xn xd pe cr lo hi nx pd dn dm cX st rX hT hn c post hp n 0 (by omega)⟩
theorem kz_xhi (n t : Nat) (kc ad md la xn xd : Int32) (pe cr lo hi nx : Nat → Int32) (pd dn dm cX st : Nat → Int32) (rX : Nat → Int64) (hT : kz_T n pe lo hi cr) (hn : n ≤ 8) (c : Int32) (post : Int32 → Prop) (hp : post (nI (kz_sum (kz_u c cr hi pe) n))) : ∀ d j, j + d = n → wX_utilSum__budgetHi_5 post c kc (nI n) ad (lN t) md la xn xd pe cr lo hi nx pd rX dn dm cX st (d + 1) (nI (kz_sum (kz_u c cr hi pe) j)) (nI j) := by
  intro d
  induction d with
  | zero =>
    intro j hj
    have e : j = n := by omega
    rw [e]
    exact br_t (nI_le (Nat.le_refl n) (by omega)) hp
  | succ d ih =>
    intro j hj
    have hj8 : j < 8 := by omega
    have hge : ¬ nI n ≤ nI j := nI_ge (by omega) (by omega)
    have hv := kz_v8 hj8
    have ec := kz_cl hj8
    obtain ⟨p, ep, hp1, hp16⟩ := kz_T_p hT (show j < n by omega)
    obtain ⟨a, ea, ha⟩ := kz_T_hi hT (show j < n by omega)
    have ih1 := ih (j + 1) (by omega)
    have es : kz_sum (kz_u c cr hi pe) (j + 1) = kz_sum (kz_u c cr hi pe) j + kz_u c cr hi pe j := rfl
    rw [es] at ih1
    have nY : ¬ pe (nI j).toNatClampNeg = 0 := by rw [ec, ep]; exact nI_ne0 (by omega) (by omega)
    by_cases z : cr j = c
    · have z' : cr (nI j).toNatClampNeg = c := by rw [ec]; exact z
      refine br_f hge ⟨hv, br_t z' ⟨hv, hv, nY, nm_r ?_ (nm_r (nI_1 j) ih1)⟩⟩
      rw [ec]
      exact kz_term (n := n) ea ep hp1 hp16 ha z
    · have z' : ¬ cr (nI j).toNatClampNeg = c := by rw [ec]; exact z
      rw [kz_term0 z] at ih1
      exact br_f hge ⟨hv, br_f z' (nm_r (nI_1 j) ih1)⟩
theorem kz_Xhi (n t : Nat) (kc ad md la xn xd : Int32) (pe cr lo hi nx : Nat → Int32) (pd dn dm cX st : Nat → Int32) (rX : Nat → Int64) (hT : kz_T n pe lo hi cr) (hn : n ≤ 8) (c : Int32) (post : Int32 → Prop) (hp : post (nI (kz_sum (kz_u c cr hi pe) n))) : wpX_utilSum__budgetHi post (kc, (nI n), ad, (lN t), md, la, xn, xd, pe, cr, lo, hi, nx, pd, rX, dn, dm, cX, st) c :=
  ⟨n + 1, kz_xhi n t kc ad md la xn xd pe cr lo hi nx pd dn dm cX st rX hT hn c post hp n 0 (by omega)⟩
theorem kz_y0 (n t : Nat) (kc ad md la xn xd : Int32) (pe cr lo hi nx : Nat → Int32) (pd dn dm cY st : Nat → Int32) (rY : Nat → Int32) (hT : kz_T n pe lo hi cr) (hn : n ≤ 8) (post : Int32 → Prop) (hp : post (nI (kz_sum (kz_u 0 cr lo pe) n))) : ∀ d j, j + d = n → wY_utilNum_15 post 0 kc (nI n) ad (nI t) md la xn xd pe lo hi cr nx pd rY dm dn cY st (d + 1) (nI (kz_sum (kz_u 0 cr lo pe) j)) (nI j) := by
  intro d
  induction d with
  | zero =>
    intro j hj
    have e : j = n := by omega
    rw [e]
    exact br_t (nI_le (Nat.le_refl n) (by omega)) hp
  | succ d ih =>
    intro j hj
    have hj8 : j < 8 := by omega
    have hge : ¬ nI n ≤ nI j := nI_ge (by omega) (by omega)
    have hv := kz_v8 hj8
    have ec := kz_cl hj8
    obtain ⟨p, ep, hp1, hp16⟩ := kz_T_p hT (show j < n by omega)
    obtain ⟨a, ea, ha⟩ := kz_T_lo hT (show j < n by omega)
    have ih1 := ih (j + 1) (by omega)
    have es : kz_sum (kz_u 0 cr lo pe) (j + 1) = kz_sum (kz_u 0 cr lo pe) j + kz_u 0 cr lo pe j := rfl
    rw [es] at ih1
    have nY : ¬ pe (nI j).toNatClampNeg = 0 := by rw [ec, ep]; exact nI_ne0 (by omega) (by omega)
    by_cases z : cr j = 0
    · have z' : cr (nI j).toNatClampNeg = 0 := by rw [ec]; exact z
      have q : nI (kz_sum (kz_u 0 cr lo pe) j) + lo (nI j).toNatClampNeg * (720720 / pe (nI j).toNatClampNeg) = nI (kz_sum (kz_u 0 cr lo pe) j + kz_u 0 cr lo pe j) := by
        rw [ec]; exact kz_term (n := n) ea ep hp1 hp16 ha z
      refine br_f hge ⟨hv, nY, nm_e ?_⟩
      exact br_t rfl ⟨hv, br_t z' ⟨hv, nm_r q (br_f (by decide) (br_f (by decide) (nm_r (nI_1 j) ih1)))⟩⟩
    · have z' : ¬ cr (nI j).toNatClampNeg = 0 := by rw [ec]; exact z
      rw [kz_term0 z] at ih1
      refine br_f hge ⟨hv, nY, nm_e ?_⟩
      exact br_t rfl ⟨hv, br_f z' (br_f (by decide) (br_f (by decide) (nm_r (nI_1 j) ih1)))⟩
theorem kz_Y0 (n t : Nat) (kc ad md la xn xd : Int32) (pe cr lo hi nx : Nat → Int32) (pd dn dm cY st : Nat → Int32) (rY : Nat → Int32) (hT : kz_T n pe lo hi cr) (hn : n ≤ 8) (post : Int32 → Prop) (hp : post (nI (kz_sum (kz_u 0 cr lo pe) n))) : wpY_utilNum post (kc, (nI n), ad, (nI t), md, la, xn, xd, pe, lo, hi, cr, nx, pd, rY, dm, dn, cY, st) 0 :=
  br_f (by decide) (br_t (by decide) ⟨n + 1, kz_y0 n t kc ad md la xn xd pe cr lo hi nx pd dn dm cY st rY hT hn post hp n 0 (by omega)⟩)
theorem kz_y1 (n t : Nat) (kc ad md la xn xd : Int32) (pe cr lo hi nx : Nat → Int32) (pd dn dm cY st : Nat → Int32) (rY : Nat → Int32) (hT : kz_T n pe lo hi cr) (hn : n ≤ 8) (post : Int32 → Prop) (hp : post (nI (kz_sum (kz_u 1 cr lo pe) n))) : ∀ d j, j + d = n → wY_utilNum_15 post 1 kc (nI n) ad (nI t) md la xn xd pe lo hi cr nx pd rY dm dn cY st (d + 1) (nI (kz_sum (kz_u 1 cr lo pe) j)) (nI j) := by
  intro d
  induction d with
  | zero =>
    intro j hj
    have e : j = n := by omega
    rw [e]
    exact br_t (nI_le (Nat.le_refl n) (by omega)) hp
  | succ d ih =>
    intro j hj
    have hj8 : j < 8 := by omega
    have hge : ¬ nI n ≤ nI j := nI_ge (by omega) (by omega)
    have hv := kz_v8 hj8
    have ec := kz_cl hj8
    obtain ⟨p, ep, hp1, hp16⟩ := kz_T_p hT (show j < n by omega)
    obtain ⟨a, ea, ha⟩ := kz_T_lo hT (show j < n by omega)
    have ih1 := ih (j + 1) (by omega)
    have es : kz_sum (kz_u 1 cr lo pe) (j + 1) = kz_sum (kz_u 1 cr lo pe) j + kz_u 1 cr lo pe j := rfl
    rw [es] at ih1
    have nY : ¬ pe (nI j).toNatClampNeg = 0 := by rw [ec, ep]; exact nI_ne0 (by omega) (by omega)
    by_cases z : cr j = 1
    · have z' : cr (nI j).toNatClampNeg = 1 := by rw [ec]; exact z
      have q : nI (kz_sum (kz_u 1 cr lo pe) j) + lo (nI j).toNatClampNeg * (720720 / pe (nI j).toNatClampNeg) = nI (kz_sum (kz_u 1 cr lo pe) j + kz_u 1 cr lo pe j) := by
        rw [ec]; exact kz_term (n := n) ea ep hp1 hp16 ha z
      refine br_f hge ⟨hv, nY, nm_e ?_⟩
      exact br_f (by decide) (br_t rfl ⟨hv, br_t z' ⟨hv, nm_r q (br_f (by decide) (nm_r (nI_1 j) ih1))⟩⟩)
    · have z' : ¬ cr (nI j).toNatClampNeg = 1 := by rw [ec]; exact z
      rw [kz_term0 z] at ih1
      refine br_f hge ⟨hv, nY, nm_e ?_⟩
      exact br_f (by decide) (br_t rfl ⟨hv, br_f z' (br_f (by decide) (nm_r (nI_1 j) ih1))⟩)
theorem kz_Y1 (n t : Nat) (kc ad md la xn xd : Int32) (pe cr lo hi nx : Nat → Int32) (pd dn dm cY st : Nat → Int32) (rY : Nat → Int32) (hT : kz_T n pe lo hi cr) (hn : n ≤ 8) (post : Int32 → Prop) (hp : post (nI (kz_sum (kz_u 1 cr lo pe) n))) : wpY_utilNum post (kc, (nI n), ad, (nI t), md, la, xn, xd, pe, lo, hi, cr, nx, pd, rY, dm, dn, cY, st) 1 :=
  br_f (by decide) (br_t (by decide) ⟨n + 1, kz_y1 n t kc ad md la xn xd pe cr lo hi nx pd dn dm cY st rY hT hn post hp n 0 (by omega)⟩)
theorem kz_y2 (n t : Nat) (kc ad md la xn xd : Int32) (pe cr lo hi nx : Nat → Int32) (pd dn dm cY st : Nat → Int32) (rY : Nat → Int32) (hT : kz_T n pe lo hi cr) (hn : n ≤ 8) (post : Int32 → Prop) (hp : post (nI (kz_sum (kz_u 1 cr hi pe) n))) : ∀ d j, j + d = n → wY_utilNum_15 post 2 kc (nI n) ad (nI t) md la xn xd pe lo hi cr nx pd rY dm dn cY st (d + 1) (nI (kz_sum (kz_u 1 cr hi pe) j)) (nI j) := by
  intro d
  induction d with
  | zero =>
    intro j hj
    have e : j = n := by omega
    rw [e]
    exact br_t (nI_le (Nat.le_refl n) (by omega)) hp
  | succ d ih =>
    intro j hj
    have hj8 : j < 8 := by omega
    have hge : ¬ nI n ≤ nI j := nI_ge (by omega) (by omega)
    have hv := kz_v8 hj8
    have ec := kz_cl hj8
    obtain ⟨p, ep, hp1, hp16⟩ := kz_T_p hT (show j < n by omega)
    obtain ⟨a, ea, ha⟩ := kz_T_hi hT (show j < n by omega)
    have ih1 := ih (j + 1) (by omega)
    have es : kz_sum (kz_u 1 cr hi pe) (j + 1) = kz_sum (kz_u 1 cr hi pe) j + kz_u 1 cr hi pe j := rfl
    rw [es] at ih1
    have nY : ¬ pe (nI j).toNatClampNeg = 0 := by rw [ec, ep]; exact nI_ne0 (by omega) (by omega)
    by_cases z : cr j = 1
    · have z' : cr (nI j).toNatClampNeg = 1 := by rw [ec]; exact z
      have q : nI (kz_sum (kz_u 1 cr hi pe) j) + hi (nI j).toNatClampNeg * (720720 / pe (nI j).toNatClampNeg) = nI (kz_sum (kz_u 1 cr hi pe) j + kz_u 1 cr hi pe j) := by
        rw [ec]; exact kz_term (n := n) ea ep hp1 hp16 ha z
      refine br_f hge ⟨hv, nY, nm_e ?_⟩
      exact br_f (by decide) (br_f (by decide) (br_t rfl ⟨hv, br_t z' ⟨hv, nm_r q (nm_r (nI_1 j) ih1)⟩⟩))
    · have z' : ¬ cr (nI j).toNatClampNeg = 1 := by rw [ec]; exact z
      rw [kz_term0 z] at ih1
      refine br_f hge ⟨hv, nY, nm_e ?_⟩
      exact br_f (by decide) (br_f (by decide) (br_t rfl ⟨hv, br_f z' (nm_r (nI_1 j) ih1)⟩))
theorem kz_Y2 (n t : Nat) (kc ad md la xn xd : Int32) (pe cr lo hi nx : Nat → Int32) (pd dn dm cY st : Nat → Int32) (rY : Nat → Int32) (hT : kz_T n pe lo hi cr) (hn : n ≤ 8) (post : Int32 → Prop) (hp : post (nI (kz_sum (kz_u 1 cr hi pe) n))) : wpY_utilNum post (kc, (nI n), ad, (nI t), md, la, xn, xd, pe, lo, hi, cr, nx, pd, rY, dm, dn, cY, st) 2 :=
  br_f (by decide) (br_t (by decide) ⟨n + 1, kz_y2 n t kc ad md la xn xd pe cr lo hi nx pd dn dm cY st rY hT hn post hp n 0 (by omega)⟩)
theorem kz_l0 {b : Nat} (h : b < 2 ^ 31) (h0 : ¬ b = 0) : ¬ lN b = 0 := by
  rw [show (0 : Int64) = lN 0 from rfl, lN_eq h (by omega)]; exact h0
theorem kz_euc (post : Int64 → Prop) : ∀ m a b r : Nat, b < 2 ^ m → a < 2 ^ 31 → b < 2 ^ 31 → r + 2 * m ≤ 1000 → post (lN (Nat.gcd a b)) → ∀ fu, 2 * m + 1 ≤ fu → wX_commonDivisor_9 post fu (lN a) (lN b) (nI r) := by
  have fin : ∀ (a r fu : Nat), post (lN a) → 1 ≤ fu → wX_commonDivisor_9 post fu (lN a) (lN 0) (nI r) := by
    intro a r fu h hf
    obtain ⟨f, rfl⟩ : ∃ f, fu = f + 1 := ⟨fu - 1, by omega⟩
    exact br_c (fun _ => h) (fun _ => br_t rfl h)
  intro m
  induction m with
  | zero =>
    intro a b r hb ha hb2 hr h fu hf
    have e : b = 0 := by omega
    subst e
    rw [Nat.gcd_zero_right] at h
    exact fin a r fu h (by omega)
  | succ m ih =>
    intro a b r hb ha hb2 hr h fu hf
    by_cases z : b = 0
    · subst z
      rw [Nat.gcd_zero_right] at h
      exact fin a r fu h (by omega)
    · obtain ⟨f, rfl⟩ : ∃ f, fu = f + 2 := ⟨fu - 2, by omega⟩
      have g1 : ¬ (1000 : Int32) ≤ nI r := nI_ge (b := 1000) (by omega) (by decide)
      refine br_f g1 (br_f (kz_l0 hb2 z) ⟨kz_l0 hb2 z, nm_r (pk_lRem (by omega) (by omega) (by omega)) (nm_r (nI_1 r) ?_)⟩)
      rw [kz_gstep] at h
      have l1 := Nat.mod_lt a (show 0 < b by omega)
      by_cases w : a % b = 0
      · rw [w] at h ⊢
        rw [Nat.gcd_zero_right] at h
        exact fin b (r + 1) (f + 1) h (by omega)
      · have g2 : ¬ (1000 : Int32) ≤ nI (r + 1) := nI_ge (b := 1000) (by omega) (by decide)
        have w2 : a % b < 2 ^ 31 := by omega
        refine br_f g2 (br_f (kz_l0 w2 w) ⟨kz_l0 w2 w, nm_r (pk_lRem (by omega) (by omega) (by omega)) (nm_r (nI_1 (r + 1)) ?_)⟩)
        have l2 := kz_half (show 0 < a % b by omega) l1
        have l3 := Nat.mod_lt b (show 0 < a % b by omega)
        rw [kz_gstep] at h
        have hb' : b < 2 * 2 ^ m := by rw [Nat.pow_succ] at hb; omega
        exact ih (a % b) (b % (a % b)) (r + 2) (by omega) w2 (by omega) (by omega) h f (by omega)
theorem kz_gcd {a b : Nat} (ha : a ≤ 720720) (hb : b ≤ 720720) (post : Int64 → Prop) (h : post (lN (Nat.gcd a b))) : wpX_commonDivisor post (lN a) (lN b) :=
  ⟨41, kz_euc post 20 a b 0 (by omega) (by omega) (by omega) (by omega) h 41 (by omega)⟩
theorem kz_tri (n t : Nat) (kc ad md la xn xd : Int32) (pe cr lo hi nx : Nat → Int32) (pd dn dm cY st : Nat → Int32) (rY : Nat → Int32) (x9 : Int32) (a b : Nat) (ha : 1 ≤ a) (hb : 1 ≤ b) (ha2 : a ≤ 720720) (hb2 : b ≤ 720720) (post : Int32 → SY → Prop) (h : wY_admit_168 post x9 (nI a) (nI b) (nI (Nat.gcd a b)) kc (nI n) ad (nI t) md la xn xd pe lo hi cr nx pd rY dm dn cY st) : ∀ k, Nat.gcd a b + k ≤ 720720 → wY_admit_133 post x9 (nI a) (nI b) 1 kc (nI n) ad (nI t) md la xn xd pe lo hi cr nx pd rY dm dn cY st (k + 1) (nI (Nat.gcd a b + k)) := by
  have hg := kz_gpos (b := b) (show 0 < a by omega)
  intro k
  induction k with
  | zero =>
    intro hk
    have hm := kz_gmod a b
    have n1 : ¬ nI (Nat.gcd a b) < 1 := nI_nlt (b := 1) (by omega) (by omega)
    have n0 : ¬ nI (Nat.gcd a b) = 0 := nI_ne0 hg (by omega)
    have qa : nI a - nI a / nI (Nat.gcd a b) * nI (Nat.gcd a b) = 0 := by rw [pk_rem (by omega) hg (by omega), hm.1]; rfl
    have qb : nI b - nI b / nI (Nat.gcd a b) * nI (Nat.gcd a b) = 0 := by rw [pk_rem (by omega) hg (by omega), hm.2]; rfl
    exact br_f n1 ⟨n0, br_t qa ⟨n0, br_t qb h⟩⟩
  | succ k ih =>
    intro hk
    have ih1 := ih (by omega)
    have n1 : ¬ nI (Nat.gcd a b + (k + 1)) < 1 := nI_nlt (b := 1) (by omega) (by omega)
    have n0 : ¬ nI (Nat.gcd a b + (k + 1)) = 0 := nI_ne0 (by omega) (by omega)
    have em : nI (Nat.gcd a b + (k + 1)) + (-1) = nI (Nat.gcd a b + k) := pk_m1 (Nat.gcd a b + k)
    have qa : (nI a - nI a / nI (Nat.gcd a b + (k + 1)) * nI (Nat.gcd a b + (k + 1)) = 0) ↔ a % (Nat.gcd a b + (k + 1)) = 0 := by
      have hl := Nat.mod_le a (Nat.gcd a b + (k + 1))
      rw [pk_rem (by omega) (by omega) (by omega), show (0 : Int32) = nI 0 from rfl, nI_eq (by omega) (by omega)]
    have qb : (nI b - nI b / nI (Nat.gcd a b + (k + 1)) * nI (Nat.gcd a b + (k + 1)) = 0) ↔ b % (Nat.gcd a b + (k + 1)) = 0 := by
      have hl := Nat.mod_le b (Nat.gcd a b + (k + 1))
      rw [pk_rem (by omega) (by omega) (by omega), show (0 : Int32) = nI 0 from rfl, nI_eq (by omega) (by omega)]
    have no := kz_gtop (a := a) (b := b) (d := Nat.gcd a b + (k + 1)) (by omega) (by omega)
    by_cases w : a % (Nat.gcd a b + (k + 1)) = 0
    · exact br_f n1 ⟨n0, br_t (qa.mpr w) ⟨n0, br_f (fun q => no ⟨w, qb.mp q⟩) (nm_r em ih1)⟩⟩
    · exact br_f n1 ⟨n0, br_f (fun q => w (qa.mp q)) (nm_r em ih1)⟩
/-- a fresh kernel is admitted with x = p / q -/
theorem kz_start (n t : Nat) (kc ad md la xn xd : Int32) (pe cr lo hi nx : Nat → Int32) (pd dn dm cX st : Nat → Int32) (rX : Nat → Int64) (rY cY : Nat → Int32) (hT : kz_T n pe lo hi cr) (hn : n ≤ 8) (ht : t < 2 ^ 31) (hL : kz_L t rX rY) (hC : kz_C cX cY) (hm : md = 0) (p q : Nat) (hp : 1 ≤ p) (hq : 1 ≤ q) (hp2 : p ≤ 720720) (hq2 : q ≤ 720720) :
    ∃ (xn' xd' : Int32) (pd' : Nat → Int32) (rX' : Nat → Int64) (rY' dn' dm' cX' cY' : Nat → Int32), kz_L t rX' rY' ∧ kz_C cX' cY'
      ∧ (∀ post : SX → Prop, post (kc, (nI n), 1, (lN t), md, la, xn', xd', pe, cr, lo, hi, nx, pd', rX', dn', dm', cX', st) → wpX_start post (kc, (nI n), ad, (lN t), md, la, xn, xd, pe, cr, lo, hi, nx, pd, rX, dn, dm, cX, st) (lN p) (lN q))
      ∧ (∀ (post : Int32 → SY → Prop) (x9 : Int32), post x9 (kc, (nI n), 1, (nI t), md, la, xn', xd', pe, lo, hi, cr, nx, pd', rY', dm', dn', cY', st) → wY_admit_110 post x9 (nI p) (nI q) kc (nI n) ad (nI t) md la xn xd pe lo hi cr nx pd rY dm dn cY st) := by
  subst hm
  have hg := kz_gpos (b := q) (show 0 < p by omega)
  have hgl := kz_gle (show 0 < p by omega) (show 0 < q by omega)
  obtain ⟨pd', rX', rY', dn', dm', cX', cY', b1, b2, b3, b4⟩ := kz_release n t kc 1 0 la (nI (p / Nat.gcd p q)) (nI (q / Nat.gcd p q)) pe cr lo hi nx st hT hn ht pd rX rY dn dm cX cY hL hC
  refine ⟨nI (p / Nat.gcd p q), nI (q / Nat.gcd p q), pd', rX', rY', dn', dm', cX', cY', b1, b2, fun post h => ?_, fun post x9 h => ?_⟩
  · have g0 : ¬ lN (Nat.gcd p q) = 0 := kz_l0 (by omega) (by omega)
    have e1 : (lN p / lN (Nat.gcd p q)).toInt32 = nI (p / Nat.gcd p q) := by rw [pk_lDiv (by omega) hg (by omega), lN_i]
    have e2 : (lN q / lN (Nat.gcd p q)).toInt32 = nI (q / Nat.gcd p q) := by rw [pk_lDiv (by omega) hg (by omega), lN_i]
    exact kz_gcd hp2 hq2 _ ⟨g0, nm_r e1 ⟨g0, nm_r e2 (b3 _ h)⟩⟩
  · have g0 : ¬ nI (Nat.gcd p q) = 0 := nI_ne0 hg (by omega)
    have k : wY_admit_168 post x9 (nI p) (nI q) (nI (Nat.gcd p q)) kc (nI n) ad (nI t) 0 la xn xd pe lo hi cr nx pd rY dm dn cY st :=
      ⟨g0, nm_r (pk_div (by omega) hg (by omega)) ⟨g0, nm_r (pk_div (by omega) hg (by omega)) (b4 _ h)⟩⟩
    have tri := kz_tri n t kc ad 0 la xn xd pe cr lo hi nx pd dn dm cY st rY x9 p q hp hq hp2 hq2 post k
    by_cases w : q ≤ p
    · refine br_t (nI_le w (by omega)) ⟨q - Nat.gcd p q + 1, ?_⟩
      have h1 := tri (q - Nat.gcd p q) (by omega)
      rw [show Nat.gcd p q + (q - Nat.gcd p q) = q from by omega] at h1
      exact h1
    · refine br_f (nI_ge (by omega) (by omega)) ⟨p - Nat.gcd p q + 1, ?_⟩
      have h1 := tri (p - Nat.gcd p q) (by omega)
      rw [show Nat.gcd p q + (p - Nat.gcd p q) = p from by omega] at h1
      exact h1
