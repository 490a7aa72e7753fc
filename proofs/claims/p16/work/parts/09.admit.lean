/-! sums, the divisor, admission -/
theorem kz_term {n j s : Nat} {c : Int32} {cr A P : Nat → Int32} {a p : Nat} (ea : A j = nI a) (ep : P j = nI p) (h1 : 1 ≤ p) (hp : p ≤ 16) (ha : a ≤ 16) (hc : cr j = c) : nI s + A j * (720720 / P j) = nI (s + kz_u c cr A P j) := by
  unfold kz_u
  rw [if_pos hc, ea, ep, nI_clamp (by omega), nI_clamp (by omega), show (720720 : Int32) = nI 720720 from rfl, pk_div (by omega) (by omega) (by omega), pk_mul, nI_add]
theorem kz_term0 {j s : Nat} {c : Int32} {cr A P : Nat → Int32} (hc : ¬ cr j = c) : s + kz_u c cr A P j = s := by
  unfold kz_u
  rw [if_neg hc, Nat.add_zero]
theorem kz_T_lo {n i : Nat} {pe lo hi cr : Nat → Int32} (T : kz_T n pe lo hi cr) (h : i < n) : ∃ a, lo i = nI a ∧ a ≤ 16 := by
  obtain ⟨p, a, b, _, e, _, h1, h2, h3, h4, _⟩ := T i h
  exact ⟨a, e, by omega⟩
theorem kz_T_hi {n i : Nat} {pe lo hi cr : Nat → Int32} (T : kz_T n pe lo hi cr) (h : i < n) : ∃ a, hi i = nI a ∧ a ≤ 16 := by
  obtain ⟨p, a, b, _, _, e, h1, h2, h3, h4, _⟩ := T i h
  exact ⟨b, e, by omega⟩
theorem kz_xlo (n t : Nat) (kc ad md la xn xd : Int32) (pe cr lo hi nx : Nat → Int32) (pd dn dm cX st : Nat → Int32) (rX : Nat → Int64) (hT : kz_T n pe lo hi cr) (hn : n ≤ 8) (c : Int32) (post : Int32 → Prop) (hp : post (nI (kz_sum (kz_u c cr lo pe) n))) : ∀ d j, j + d = n → wX_utilSum_5 post c kc (nI n) ad (lN t) md la xn xd pe cr lo hi nx pd rX dn dm cX st (d + 1) (nI (kz_sum (kz_u c cr lo pe) j)) (nI j) := by
  intro d
  induction d with
  | zero =>
    intro j hj
    have e : j = n := by omega
    rw [e]
    exact br_t (nI_le (Nat.le_refl n) (by omega)) hp
  | succ d ih =>
    intro j hj
    have hj8 : j < 8 := by omega
    have hge : ¬ nI n ≤ nI j := nI_ge (by omega) (by omega)
    have hv := kz_v8 hj8
    have ec := kz_cl hj8
    obtain ⟨p, ep, hp1, hp16⟩ := kz_T_p hT (show j < n by omega)
    obtain ⟨a, ea, ha⟩ := kz_T_lo hT (show j < n by omega)
    have ih1 := ih (j + 1) (by omega)
    have es : kz_sum (kz_u c cr lo pe) (j + 1) = kz_sum (kz_u c cr lo pe) j + kz_u c cr lo pe j := rfl
    rw [es] at ih1
    have nY : ¬ pe (nI j).toNatClampNeg = 0 := by rw [ec, ep]; exact nI_ne0 (by omega) (by omega)
    by_cases z : cr j = c
    · have z' : cr (nI j).toNatClampNeg = c := by rw [ec]; exact z
      refine br_f hge ⟨hv, br_t z' ⟨hv, hv, nY, nm_r ?_ (nm_r (nI_1 j) ih1)⟩⟩
      rw [ec]
      exact kz_term (n := n) ea ep hp1 hp16 ha z
    · have z' : ¬ cr (nI j).toNatClampNeg = c := by rw [ec]; exact z
      rw [kz_term0 z] at ih1
      exact br_f hge ⟨hv, br_f z' (nm_r (nI_1 j) ih1)⟩
theorem kz_Xlo (n t : Nat) (kc ad md la xn xd : Int32) (pe cr lo hi nx : Nat → Int32) (pd dn dm cX st : Nat → Int32) (rX : Nat → Int64) (hT : kz_T n pe lo hi cr) (hn : n ≤ 8) (c : Int32) (post : Int32 → Prop) (hp : post (nI (kz_sum (kz_u c cr lo pe) n))) : wpX_utilSum post (kc, (nI n), ad, (lN t), md, la, xn, xd, pe, cr, lo, hi, nx, pd, rX, dn, dm, cX, st) c :=
  ⟨n + 1, kz_xlo n t kc ad md la xn xd pe cr lo hi nx pd dn dm cX st rX hT hn c post hp n 0 (by omega)⟩
theorem kz_xhi (n t : Nat) (kc ad md la xn xd : Int32) (pe cr lo hi nx : Nat → Int32) (pd dn dm cX st : Nat → Int32) (rX : Nat → Int64) (hT : kz_T n pe lo hi cr) (hn : n ≤ 8) (c : Int32) (post : Int32 → Prop) (hp : post (nI (kz_sum (kz_u c cr hi pe) n))) : ∀ d j, j + d = n → wX_utilSum_2_5 post c kc (nI n) ad (lN t) md la xn xd pe cr lo hi nx pd rX dn dm cX st (d + 1) (nI (kz_sum (kz_u c cr hi pe) j)) (nI j) := by
  intro d
  induction d with
  | zero =>
    intro j hj
    have e : j = n := by omega
    rw [e]
    exact br_t (nI_le (Nat.le_refl n) (by omega)) hp
  | succ d ih =>
    intro j hj
    have hj8 : j < 8 := by omega
    have hge : ¬ nI n ≤ nI j := nI_ge (by omega) (by omega)
    have hv := kz_v8 hj8
    have ec := kz_cl hj8
    obtain ⟨p, ep, hp1, hp16⟩ := kz_T_p hT (show j < n by omega)
    obtain ⟨a, ea, ha⟩ := kz_T_hi hT (show j < n by omega)
    have ih1 := ih (j + 1) (by omega)
    have es : kz_sum (kz_u c cr hi pe) (j + 1) = kz_sum (kz_u c cr hi pe) j + kz_u c cr hi pe j := rfl
    rw [es] at ih1
    have nY : ¬ pe (nI j).toNatClampNeg = 0 := by rw [ec, ep]; exact nI_ne0 (by omega) (by omega)
    by_cases z : cr j = c
    · have z' : cr (nI j).toNatClampNeg = c := by rw [ec]; exact z
      refine br_f hge ⟨hv, br_t z' ⟨hv, hv, nY, nm_r ?_ (nm_r (nI_1 j) ih1)⟩⟩
      rw [ec]
      exact kz_term (n := n) ea ep hp1 hp16 ha z
    · have z' : ¬ cr (nI j).toNatClampNeg = c := by rw [ec]; exact z
      rw [kz_term0 z] at ih1
      exact br_f hge ⟨hv, br_f z' (nm_r (nI_1 j) ih1)⟩
theorem kz_Xhi (n t : Nat) (kc ad md la xn xd : Int32) (pe cr lo hi nx : Nat → Int32) (pd dn dm cX st : Nat → Int32) (rX : Nat → Int64) (hT : kz_T n pe lo hi cr) (hn : n ≤ 8) (c : Int32) (post : Int32 → Prop) (hp : post (nI (kz_sum (kz_u c cr hi pe) n))) : wpX_utilSum_2 post (kc, (nI n), ad, (lN t), md, la, xn, xd, pe, cr, lo, hi, nx, pd, rX, dn, dm, cX, st) c :=
  ⟨n + 1, kz_xhi n t kc ad md la xn xd pe cr lo hi nx pd dn dm cX st rX hT hn c post hp n 0 (by omega)⟩
theorem kz_l0 {b : Nat} (h : b < 2 ^ 31) (h0 : ¬ b = 0) : ¬ lN b = 0 := by
  rw [show (0 : Int64) = lN 0 from rfl, lN_eq h (by omega)]; exact h0
theorem kz_euc (post : Int64 → Prop) : ∀ m a b r : Nat, b < 2 ^ m → a < 2 ^ 31 → b < 2 ^ 31 → r + 2 * m ≤ 1000 → post (lN (Nat.gcd a b)) → ∀ fu, 2 * m + 1 ≤ fu → wX_commonDivisor_9 post fu (lN a) (lN b) (nI r) := by
  have fin : ∀ (a r fu : Nat), post (lN a) → 1 ≤ fu → wX_commonDivisor_9 post fu (lN a) (lN 0) (nI r) := by
    intro a r fu h hf
    obtain ⟨f, rfl⟩ : ∃ f, fu = f + 1 := ⟨fu - 1, by omega⟩
    exact br_c (fun _ => h) (fun _ => br_t rfl h)
  intro m
  induction m with
  | zero =>
    intro a b r hb ha hb2 hr h fu hf
    have e : b = 0 := by omega
    subst e
    rw [Nat.gcd_zero_right] at h
    exact fin a r fu h (by omega)
  | succ m ih =>
    intro a b r hb ha hb2 hr h fu hf
    by_cases z : b = 0
    · subst z
      rw [Nat.gcd_zero_right] at h
      exact fin a r fu h (by omega)
    · obtain ⟨f, rfl⟩ : ∃ f, fu = f + 2 := ⟨fu - 2, by omega⟩
      have g1 : ¬ (1000 : Int32) ≤ nI r := nI_ge (b := 1000) (by omega) (by decide)
      refine br_f g1 (br_f (kz_l0 hb2 z) ⟨kz_l0 hb2 z, nm_r (pk_lRem (by omega) (by omega) (by omega)) (nm_r (nI_1 r) ?_)⟩)
      rw [kz_gstep] at h
      have l1 := Nat.mod_lt a (show 0 < b by omega)
      by_cases w : a % b = 0
      · rw [w] at h ⊢
        rw [Nat.gcd_zero_right] at h
        exact fin b (r + 1) (f + 1) h (by omega)
      · have g2 : ¬ (1000 : Int32) ≤ nI (r + 1) := nI_ge (b := 1000) (by omega) (by decide)
        have w2 : a % b < 2 ^ 31 := by omega
        refine br_f g2 (br_f (kz_l0 w2 w) ⟨kz_l0 w2 w, nm_r (pk_lRem (by omega) (by omega) (by omega)) (nm_r (nI_1 (r + 1)) ?_)⟩)
        have l2 := kz_half (show 0 < a % b by omega) l1
        have l3 := Nat.mod_lt b (show 0 < a % b by omega)
        rw [kz_gstep] at h
        have hb' : b < 2 * 2 ^ m := by rw [Nat.pow_succ] at hb; omega
        exact ih (a % b) (b % (a % b)) (r + 2) (by omega) w2 (by omega) (by omega) h f (by omega)
theorem kz_gcd {a b : Nat} (ha : a ≤ 720720) (hb : b ≤ 720720) (post : Int64 → Prop) (h : post (lN (Nat.gcd a b))) : wpX_commonDivisor post () (lN a) (lN b) :=
  ⟨41, kz_euc post 20 a b 0 (by omega) (by omega) (by omega) (by omega) h 41 (by omega)⟩

theorem rz_div : ∀ p, p < 17 → 1 ≤ p → p * (720720 / p) = 720720 := by decide
theorem rz_sumeq {f g : Nat → Nat} : ∀ n, (∀ i, i < n → f i = g i) → qz_sum f n = kz_sum g n
  | 0, _ => rfl
  | n + 1, h => by
    show qz_sum f n + f n = kz_sum g n + g n
    rw [rz_sumeq n (fun i hi => h i (by omega)), h n (by omega)]
theorem rz_eA {n : Nat} {pe lo hi cr : Nat → Int32} (hT : kz_T n pe lo hi cr) : qz_sum (qz_A (rz_H cr) (rz_N lo) (rz_q pe)) n = kz_sum (kz_u 0 cr lo pe) n := by
  refine rz_sumeq n fun i hin => ?_
  unfold qz_A kz_u
  rcases kz_T_c hT hin with ⟨c, _⟩ | c
  · have hf : rz_H cr i = false := decide_eq_false (by rw [c]; decide)
    rw [hf, if_pos c]
    rfl
  · rw [rz_Ht c, if_neg (by rw [c]; decide)]
theorem rz_eB {n : Nat} {pe lo hi cr : Nat → Int32} (hT : kz_T n pe lo hi cr) : qz_sum (qz_B (rz_H cr) (rz_N lo) (rz_q pe)) n = kz_sum (kz_u 1 cr lo pe) n := by
  refine rz_sumeq n fun i hin => ?_
  unfold qz_B kz_u
  rcases kz_T_c hT hin with ⟨c, _⟩ | c
  · have hf : rz_H cr i = false := decide_eq_false (by rw [c]; decide)
    rw [hf, if_neg (by rw [c]; decide)]
  · rw [rz_Ht c, if_pos c]
    rfl
theorem rz_eC {n : Nat} {pe lo hi cr : Nat → Int32} (hT : kz_T n pe lo hi cr) : qz_sum (qz_D (rz_H cr) (rz_N hi) (rz_q pe)) n = kz_sum (kz_u 1 cr hi pe) n := by
  refine rz_sumeq n fun i hin => ?_
  unfold qz_D kz_u
  rcases kz_T_c hT hin with ⟨c, _⟩ | c
  · have hf : rz_H cr i = false := decide_eq_false (by rw [c]; decide)
    rw [hf, if_neg (by rw [c]; decide)]
  · rw [rz_Ht c, if_pos c]
    rfl
theorem rz_adm {n num e : Nat} {pe lo hi cr : Nat → Int32} (hT : kz_T n pe lo hi cr) (h0 : 1 ≤ num)
    (h1 : kz_sum (kz_u 0 cr lo pe) n * num + kz_sum (kz_u 1 cr lo pe) n * (num + e) ≤ 720720 * num)
    (h2 : kz_sum (kz_u 0 cr lo pe) n * num + kz_sum (kz_u 1 cr hi pe) n * (num + e) ≤ 720720 * (num + e)) : rz_A n num e pe lo hi cr := by
  refine ⟨h0, by omega, fun i hin => ?_, ?_, ?_⟩
  · obtain ⟨_, _, _, t1, t2, t3, t4⟩ := rz_T_n hT hin
    exact ⟨by omega, rz_div _ (by omega) (by omega), t1, t2, t3⟩
  · rw [rz_eA hT, rz_eB hT]; exact h1
  · rw [rz_eA hT, rz_eC hT]; exact h2
/-- rule 3, in naturals -/
theorem rz_vd {A B C : Nat} (hA : A < 720720) (hB : B ≤ 5765760) (hC : C ≤ 5765760) (h : ¬ (720720 - lN C) * (720720 - lN A) < lN B * lN A) : A * B + C * (720720 - A) ≤ 720720 * (720720 - A) := by
  have eL : (720720 : Int64) = lN 720720 := rfl
  have b1 : B * A ≤ 5765760 * 720720 := Nat.mul_le_mul hB (by omega)
  have bAB : A * B = B * A := Nat.mul_comm A B
  rw [eL, lN_sub (a := 720720) (b := A) (by omega), lN_mul B A] at h
  by_cases c : C ≤ 720720
  · have b2 : (720720 - C) * (720720 - A) ≤ 720720 * 720720 := Nat.mul_le_mul (by omega) (by omega)
    rw [lN_sub c, lN_mul, pk_lLT (by omega) (by omega)] at h
    have e2 : (720720 - C) * (720720 - A) + C * (720720 - A) = 720720 * (720720 - A) := by
      rw [← Nat.add_mul, show 720720 - C + C = 720720 from by omega]
    omega
  · exfalso
    have b2 : (C - 720720) * (720720 - A) ≤ 5765760 * 720720 := Nat.mul_le_mul (by omega) (by omega)
    have b3 : 0 < (C - 720720) * (720720 - A) := Nat.mul_pos (by omega) (by omega)
    have e1 : lN C = lN 720720 + lN (C - 720720) := by rw [lN_add]; exact congrArg lN (by omega)
    have e2 : (lN 720720 - lN C) * lN (720720 - A) = -(lN ((C - 720720) * (720720 - A))) := by
      rw [e1, ← lN_mul]
      generalize lN 720720 = a
      generalize lN (C - 720720) = b
      generalize lN (720720 - A) = c
      grind
    rw [e2] at h
    apply h
    generalize (C - 720720) * (720720 - A) = k at *
    generalize B * A = m at *
    rw [Int64.lt_iff_toInt_lt, Int64.toInt_neg, pk_lT (by omega), pk_lT (by omega)]
    have e3 : (-(k : Int)).bmod (2 ^ 64) = -(k : Int) := Int.bmod_eq_of_le (by omega) (by omega)
    rw [e3]
    omega
/-- an admitted kernel at time t: all is kept, and no job was ever late -/
def rz_Good (t : Nat) (u : St2) : Prop := ∃ (n : Nat) (kc md la xn xd : Int32) (pe cr lo hi nx pd : Nat → Int32) (rX : Nat → Int64) (dn dm cX st : Nat → Int32) (num e : Nat) (R U : Nat → Nat),
  u = (kc, (nI n), 1, (lN t), md, la, xn, xd, pe, cr, lo, hi, nx, pd, rX, dn, dm, cX, st) ∧ n ≤ 8 ∧ kz_T n pe lo hi cr ∧ rz_A n num e pe lo hi cr ∧ xn = nI num ∧ xd = nI (num + e) ∧ num + e ≤ 720720 ∧ rz_Jb n t md lo hi cr pd rX dn R U ∧ rz_Md n num e md pe lo hi cr pd R U t (t + 1) ∧ (∀ j, j < 8 → cX (5 * 8 + j) = 0)
theorem rz_start (n : Nat) (kc la xn xd : Int32) (pe cr lo hi nx st : Nat → Int32) (hT : kz_T n pe lo hi cr) (hn : n ≤ 8) (p q : Nat) (hp : 1 ≤ p) (hpq : p ≤ q) (hq2 : q ≤ 720720)
    (hA : ∀ num e g, 0 < g → 1 ≤ num → num * g = p → (num + e) * g = q → rz_A n num e pe lo hi cr) (post : St2 → Prop) (h : ∀ u', rz_Good 0 u' → post u') :
    wpX_start post (kc, (nI n), 0, lN 0, 0, la, xn, xd, pe, cr, lo, hi, nx, (fun _ => 0), (fun _ => 0), (fun _ => 0), (fun _ => 0), (fun _ => 0), st) (lN p) (lN q) := by
  have hg := kz_gpos (b := q) (show 0 < p by omega)
  have hgl := kz_gle (show 0 < p by omega) (show 0 < q by omega)
  have d1 := Nat.div_mul_cancel (Nat.gcd_dvd_left p q)
  have d2 := Nat.div_mul_cancel (Nat.gcd_dvd_right p q)
  have hle : p / Nat.gcd p q ≤ q / Nat.gcd p q := Nat.div_le_div_right hpq
  have hq3 : q / Nat.gcd p q ≤ q := Nat.div_le_self _ _
  have hnum : 1 ≤ p / Nat.gcd p q := Nat.div_pos hgl.1 hg
  have esum : p / Nat.gcd p q + (q / Nat.gcd p q - p / Nat.gcd p q) = q / Nat.gcd p q := by omega
  have A1 := hA (p / Nat.gcd p q) (q / Nat.gcd p q - p / Nat.gcd p q) (Nat.gcd p q) hg hnum d1 (by rw [esum]; exact d2)
  obtain ⟨pd', rX', dn', dm', cX', b1, b2, b3⟩ := rz_release n 0 kc 1 0 la (nI (p / Nat.gcd p q)) (nI (q / Nat.gcd p q)) pe cr lo hi nx st hT hn (by omega) (fun _ => 0) (fun _ => 0) (fun _ => 0) (fun _ => 0) (fun _ => 0)
  have J0 : rz_Jb n 0 0 lo hi cr (fun _ => 0) (fun _ => 0) (fun _ => 0) (fun _ => 0) (fun _ => 0) := fun i _ => ⟨rfl, rfl, Nat.le_refl 0, fun z => absurd rfl z⟩
  have M0 : rz_Md n (p / Nat.gcd p q) (q / Nat.gcd p q - p / Nat.gcd p q) 0 pe lo hi cr (fun _ => 0) (fun _ => 0) (fun _ => 0) 0 0 := Or.inl ⟨rfl, qz_idle n _ _ 720720 _ _ _ _ _ A1 0 (fun i _ => rz_Pf rfl)⟩
  obtain ⟨R', U', f1, f2⟩ := rz_fin hT A1 J0 M0 b2
  have g0 : ¬ lN (Nat.gcd p q) = 0 := kz_l0 (by omega) (by omega)
  have e1 : (lN p / lN (Nat.gcd p q)).toInt32 = nI (p / Nat.gcd p q) := by rw [pk_lDiv (by omega) hg (by omega), lN_i]
  have e2 : (lN q / lN (Nat.gcd p q)).toInt32 = nI (q / Nat.gcd p q) := by rw [pk_lDiv (by omega) hg (by omega), lN_i]
  refine kz_gcd (by omega) hq2 _ ⟨g0, nm_r e1 ⟨g0, nm_r e2 (b3 _ (h _ ?_))⟩⟩
  exact ⟨n, kc, 0, la, _, _, pe, cr, lo, hi, nx, pd', rX', dn', dm', cX', st, p / Nat.gcd p q, q / Nat.gcd p q - p / Nat.gcd p q, R', U', rfl, hn, hT, A1, rfl, by rw [esum], by omega, f1, f2, fun j hj => b1 j hj⟩
theorem rz_admit (n : Nat) (kc la xn xd : Int32) (pe cr lo hi nx st : Nat → Int32) (hT : kz_T n pe lo hi cr) (hn : n ≤ 8) (post : Int32 → St2 → Prop)
    (h0 : ∀ r, ¬ r = 1 → ¬ r = 2 → post r (kc, (nI n), 0, lN 0, 0, la, xn, xd, pe, cr, lo, hi, nx, (fun _ => 0), (fun _ => 0), (fun _ => 0), (fun _ => 0), (fun _ => 0), st))
    (h1 : ∀ r u', (r = 1 ∨ r = 2) → rz_Good 0 u' → post r u') :
    wpX_admit post (kc, (nI n), 0, lN 0, 0, la, xn, xd, pe, cr, lo, hi, nx, (fun _ => 0), (fun _ => 0), (fun _ => 0), (fun _ => 0), (fun _ => 0), st) := by
  by_cases e : n = 0
  · subst e
    exact br_t rfl (br_t rfl (h0 _ (by decide) (by decide)))
  · have en : ¬ nI n = 0 := nI_ne0 (by omega) (by omega)
    have bA := kz_S_lo (c := 0) hT hn
    have bB := kz_S_lo (c := 1) hT hn
    have bC := kz_S_hi (c := 1) hT hn
    have zz := kz_S_z (c := 1) hT
    have hadm := fun num e => rz_adm (num := num) (e := e) hT
    refine br_t rfl (br_f en (kz_Xlo n 0 kc 0 0 la xn xd pe cr lo hi nx (fun _ => 0) (fun _ => 0) (fun _ => 0) (fun _ => 0) st (fun _ => 0) hT hn 0 _ (kz_Xlo n 0 kc 0 0 la xn xd pe cr lo hi nx (fun _ => 0) (fun _ => 0) (fun _ => 0) (fun _ => 0) st (fun _ => 0) hT hn 1 _ (kz_Xhi n 0 kc 0 0 la xn xd pe cr lo hi nx (fun _ => 0) (fun _ => 0) (fun _ => 0) (fun _ => 0) st (fun _ => 0) hT hn 1 _ ?_))))
    generalize kz_sum (kz_u 0 cr lo pe) n = A at *
    generalize kz_sum (kz_u 1 cr lo pe) n = B at *
    generalize kz_sum (kz_u 1 cr hi pe) n = C at *
    have eA := nI_l (n := A) (by omega)
    have eB := nI_l (n := B) (by omega)
    have eC := nI_l (n := C) (by omega)
    by_cases q1 : (nI A).toInt64 + (nI B).toInt64 ≤ 720720
    · have r1 := q1
      rw [eA, eB, lN_add, show (720720 : Int64) = lN 720720 from rfl, lN_le (by omega) (by omega)] at r1
      by_cases q2 : 720720 < (nI A).toInt64 + (nI C).toInt64
      · by_cases q3 : (720720 - (nI C).toInt64) * (720720 - (nI A).toInt64) < (nI B).toInt64 * (nI A).toInt64
        · exact br_t q1 (br_t q2 (br_t q3 (br_f (by decide) (br_f (by decide) (h0 _ (by decide) (by decide))))))
        · have r2 := q2
          rw [eA, eC, lN_add, show (720720 : Int64) = lN 720720 from rfl, lN_lt (by omega) (by omega)] at r2
          have r3 := q3
          rw [eA, eB, eC] at r3
          have hB : 1 ≤ B := by
            by_cases z : B = 0
            · have := zz z; omega
            · omega
          have vd := rz_vd (show A < 720720 by omega) bB bC r3
          have e2 : 720720 - (nI A).toInt64 = lN (720720 - A) := by rw [eA, show (720720 : Int64) = lN 720720 from rfl, lN_sub (by omega)]
          refine br_t q1 (br_t q2 (br_f q3 (br_f (by decide) (br_t rfl ?_))))
          rw [e2, eB]
          refine rz_start n kc la xn xd pe cr lo hi nx st hT hn B (720720 - A) hB (by omega) (by omega) (fun num e g hg hnum g1 g2 => hadm num e hnum ?_ ?_) _ (fun u' hu => h1 2 u' (Or.inr rfl) hu)
          · refine Nat.le_of_mul_le_mul_right (c := g) ?_ hg
            rw [Nat.add_mul, Nat.mul_assoc, Nat.mul_assoc, Nat.mul_assoc, g1, g2]
            have f1 : B * (720720 - A) + B * A = B * 720720 := by rw [← Nat.mul_add]; exact congrArg _ (by omega)
            have f2 : A * B = B * A := Nat.mul_comm A B
            omega
          · refine Nat.le_of_mul_le_mul_right (c := g) ?_ hg
            rw [Nat.add_mul, Nat.mul_assoc, Nat.mul_assoc, Nat.mul_assoc, g1, g2]
            exact vd
      · have r2 := q2
        rw [eA, eC, lN_add, show (720720 : Int64) = lN 720720 from rfl, lN_lt (by omega) (by omega)] at r2
        refine br_t q1 (br_f q2 (br_t rfl ?_))
        refine rz_start n kc la xn xd pe cr lo hi nx st hT hn 1 1 (by omega) (by omega) (by omega) (fun num e g hg hnum g1 g2 => ?_) _ (fun u' hu => h1 1 u' (Or.inl rfl) hu)
        have hg1 : g = 1 := by
          have := Nat.mul_le_mul_right g hnum
          omega
        subst hg1
        have e1 : num = 1 := by omega
        have e0 : e = 0 := by omega
        subst e1; subst e0
        exact hadm 1 0 (by omega) (by omega) (by omega)
    · exact br_f q1 (br_f (by decide) (br_f (by decide) (h0 _ (by decide) (by decide))))
