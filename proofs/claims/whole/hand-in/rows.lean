section
theorem pk_us {f : Nat → Int32} {k : Nat} {x : Int32} : upd f k x k = x := if_pos rfl
theorem pk_un {f : Nat → Int32} {k j : Nat} {x : Int32} (h : j ≠ k) : upd f k x j = f j := if_neg h
theorem pk_uLs {f : Nat → Int64} {k : Nat} {x : Int64} : vp_updL f k x k = x := if_pos rfl
theorem pk_uLn {f : Nat → Int64} {k j : Nat} {x : Int64} (h : j ≠ k) : vp_updL f k x j = f j := if_neg h
theorem pk_sub {a b : Nat} (h : b ≤ a) : nI a - nI b = nI (a - b) := by
  obtain ⟨c, rfl⟩ : ∃ c, a = c + b := ⟨a - b, by omega⟩
  rw [← nI_add, Int32.add_sub_cancel, Nat.add_sub_cancel]
theorem pk_m1 (n : Nat) : nI (n + 1) + (-1) = nI n := by
  rw [← nI_1, Int32.add_assoc, show (1 : Int32) + (-1) = 0 from rfl, Int32.add_zero]
theorem pk_mul (a b : Nat) : nI a * nI b = nI (a * b) := (Int32.ofNat_mul a b).symm
theorem pk_div {a d : Nat} (ha : a < 2 ^ 31) (h0 : 0 < d) (hd : d < 2 ^ 31) : nI a / nI d = nI (a / d) := by
  apply Int32.toInt_inj.mp
  rw [lg_idiv_nonneg (by rw [nI_toInt ha]; omega) (by rw [nI_toInt hd]; omega), nI_toInt ha, nI_toInt hd, nI_toInt (Nat.lt_of_le_of_lt (Nat.div_le_self a d) ha)]
  first | rfl | exact (Int.natCast_ediv _ _).symm
theorem pk_rem {a d : Nat} (ha : a < 2 ^ 31) (h0 : 0 < d) (hd : d < 2 ^ 31) : nI a - nI a / nI d * nI d = nI (a % d) := by
  rw [pk_div ha h0 hd, pk_mul, pk_sub (Nat.div_mul_le_self a d)]
  exact congrArg nI (by have := Nat.div_add_mod' a d; omega)
theorem pk_ix (x : Int32) {n : Nat} (hn : n < 2 ^ 31) : x < 0 ∨ nI n ≤ x ∨ ∃ j : Nat, j < n ∧ x = nI j := by
  by_cases h : x < 0
  · exact Or.inl h
  · obtain ⟨j, hj, rfl⟩ := nI_of h
    by_cases h2 : j < n
    · exact Or.inr (Or.inr ⟨j, h2, rfl⟩)
    · exact Or.inr (Or.inl (nI_le (by omega) hj))
theorem pk_le {x y : Int32} {A B : Prop} (a b : Nat) (f : a ≤ b → A) (g : b < a → B) (hx : x = nI a := by rfl) (hy : y = nI b := by rfl) (ha : a < 2 ^ 31 := by omega) (hb : b < 2 ^ 31 := by omega) : (x ≤ y → A) ∧ (¬ x ≤ y → B) := by
  subst hx hy
  rw [nI_leI ha hb]
  exact ⟨f, fun z => g (by omega)⟩
theorem pk_lt {x y : Int32} {A B : Prop} (a b : Nat) (f : a < b → A) (g : b ≤ a → B) (hx : x = nI a := by rfl) (hy : y = nI b := by rfl) (ha : a < 2 ^ 31 := by omega) (hb : b < 2 ^ 31 := by omega) : (x < y → A) ∧ (¬ x < y → B) := by
  subst hx hy
  rw [nI_ltI ha hb]
  exact ⟨f, fun z => g (by omega)⟩
theorem pk_eq {x y : Int32} {A B : Prop} (a b : Nat) (f : a = b → A) (g : a ≠ b → B) (hx : x = nI a := by rfl) (hy : y = nI b := by rfl) (ha : a < 2 ^ 31 := by omega) (hb : b < 2 ^ 31 := by omega) : (x = y → A) ∧ (¬ x = y → B) := by
  subst hx hy
  rw [nI_eq ha hb]
  exact ⟨f, g⟩
theorem pk_in {x : Int32} (n N : Nat) (h : n < N) (hx : x = nI n := by rfl) (hN : N < 2 ^ 31 := by omega) : vp_in x N := by
  subst hx
  exact vp_in_nI h hN
theorem pk_cl {x : Int32} (n : Nat) (hx : x = nI n := by rfl) (h : n < 2 ^ 31 := by omega) : x.toNatClampNeg = n := by
  subst hx
  exact nI_clamp h
theorem pk_lT {n : Nat} (h : n < 2 ^ 63) : (lN n).toInt = (n : Int) := lg_ofNat_toInt h
theorem pk_lLT {a b : Nat} (ha : a < 2 ^ 63) (hb : b < 2 ^ 63) : lN a < lN b ↔ a < b := by
  rw [Int64.lt_iff_toInt_lt, pk_lT ha, pk_lT hb]; omega
theorem pk_lLE {a b : Nat} (ha : a < 2 ^ 63) (hb : b < 2 ^ 63) : lN a ≤ lN b ↔ a ≤ b := by
  rw [Int64.le_iff_toInt_le, pk_lT ha, pk_lT hb]; omega
theorem pk_lEQ {a b : Nat} (ha : a < 2 ^ 63) (hb : b < 2 ^ 63) : lN a = lN b ↔ a = b := by
  rw [← Int64.toInt_inj, pk_lT ha, pk_lT hb]; omega
theorem pk_lOf {x : Int64} (h : ¬ x < 0) : ∃ k : Nat, k < 2 ^ 63 ∧ x = lN k := by
  rw [Int64.lt_iff_toInt_lt] at h
  have h0 : (0 : Int64).toInt = 0 := by decide
  have hx := Int64.toInt_lt x
  refine ⟨x.toInt.toNat, by omega, Int64.toInt_inj.mp ?_⟩
  rw [pk_lT (by omega)]
  omega
theorem pk_lDiv {a b : Nat} (ha : a < 2 ^ 63) (h0 : 0 < b) (hb : b < 2 ^ 63) : lN a / lN b = lN (a / b) := by
  apply Int64.toInt_inj.mp
  rw [lg_ldiv_nonneg (by rw [pk_lT ha]; omega) (by rw [pk_lT hb]; omega), pk_lT ha, pk_lT hb, pk_lT (Nat.lt_of_le_of_lt (Nat.div_le_self a b) ha)]
  rfl
theorem pk_lRem {a b : Nat} (ha : a < 2 ^ 63) (h0 : 0 < b) (hb : b < 2 ^ 63) : lN a - lN a / lN b * lN b = lN (a % b) := by
  rw [pk_lDiv ha h0 hb, lN_mul, lN_sub (Nat.div_mul_le_self a b)]
  exact congrArg lN (by have := Nat.div_add_mod' a b; omega)
end
section
/-! numbers: Euclid, trial division, sums, the tasks' table, releases, counters -/
theorem kz_gstep (a b : Nat) : Nat.gcd a b = Nat.gcd b (a % b) := by
  rw [Nat.gcd_comm a b, Nat.gcd_rec b a, Nat.gcd_comm]
theorem kz_half {b r : Nat} (hr : 0 < r) (h : r < b) : 2 * (b % r) < b := by
  have h1 := Nat.mod_lt b hr
  have h2 : b % r + r ≤ b := by
    have h0 := Nat.div_add_mod b r
    have h3 : 1 ≤ b / r := Nat.div_pos (by omega) hr
    have h4 : r * 1 ≤ r * (b / r) := Nat.mul_le_mul_left r h3
    omega
  omega
theorem kz_gpos {a b : Nat} (ha : 0 < a) : 0 < Nat.gcd a b := Nat.gcd_pos_of_pos_left b ha
theorem kz_gtop {a b d : Nat} (ha : 0 < a) (h : Nat.gcd a b < d) : ¬ (a % d = 0 ∧ b % d = 0) := by
  intro z
  have h1 : d ∣ Nat.gcd a b := Nat.dvd_gcd (Nat.dvd_of_mod_eq_zero z.1) (Nat.dvd_of_mod_eq_zero z.2)
  have h2 := Nat.le_of_dvd (kz_gpos ha) h1
  omega
theorem kz_gmod (a b : Nat) : a % Nat.gcd a b = 0 ∧ b % Nat.gcd a b = 0 :=
  ⟨Nat.mod_eq_zero_of_dvd (Nat.gcd_dvd_left a b), Nat.mod_eq_zero_of_dvd (Nat.gcd_dvd_right a b)⟩
theorem kz_gle {a b : Nat} (ha : 0 < a) (hb : 0 < b) : Nat.gcd a b ≤ a ∧ Nat.gcd a b ≤ b :=
  ⟨Nat.le_of_dvd ha (Nat.gcd_dvd_left a b), Nat.le_of_dvd hb (Nat.gcd_dvd_right a b)⟩
def kz_sum (f : Nat → Nat) : Nat → Nat
  | 0 => 0
  | n + 1 => kz_sum f n + f n
theorem kz_sum_le {f : Nat → Nat} {B : Nat} : ∀ n, (∀ i, i < n → f i ≤ B) → kz_sum f n ≤ n * B
  | 0, _ => Nat.zero_le _
  | n + 1, h => by
    have h1 := kz_sum_le n (fun i hi => h i (by omega))
    have h2 := h n (by omega)
    have h3 : (n + 1) * B = n * B + B := Nat.succ_mul n B
    show kz_sum f n + f n ≤ _
    omega
theorem kz_sum_0 {f : Nat → Nat} : ∀ n, kz_sum f n = 0 → ∀ i, i < n → f i = 0
  | 0, _, i, hi => absurd hi (Nat.not_lt_zero i)
  | n + 1, h, i, hi => by
    have h1 : kz_sum f n + f n = 0 := h
    by_cases e : i = n
    · subst e; omega
    · exact kz_sum_0 n (by omega) i (by omega)
theorem kz_sum_z {f : Nat → Nat} : ∀ n, (∀ i, i < n → f i = 0) → kz_sum f n = 0
  | 0, _ => rfl
  | n + 1, h => by
    have h1 := kz_sum_z n (fun i hi => h i (by omega))
    have h2 := h n (by omega)
    show kz_sum f n + f n = 0
    omega
/-- a task's row: period, budgets, criticality -/
def kz_T1 (pe lo hi cr : Int32) : Prop := ∃ p a b : Nat, pe = nI p ∧ lo = nI a ∧ hi = nI b ∧ 1 ≤ a ∧ a ≤ b ∧ b ≤ p ∧ p ≤ 16 ∧ ((cr = 0 ∧ hi = lo) ∨ cr = 1)
def kz_T (n : Nat) (pe lo hi cr : Nat → Int32) : Prop := ∀ i, i < n → kz_T1 (pe i) (lo i) (hi i) (cr i)
theorem kz_T_0 {pe lo hi cr : Nat → Int32} : kz_T 0 pe lo hi cr := fun i h => absurd h (Nat.not_lt_zero i)
theorem kz_T_s {n : Nat} {pe lo hi cr : Nat → Int32} {p l h c : Int32} (T : kz_T n pe lo hi cr) (t : kz_T1 p l h c) : kz_T (n + 1) (upd pe n p) (upd lo n l) (upd hi n h) (upd cr n c) := by
  intro i hi'
  by_cases e : i = n
  · subst e; rw [pk_us, pk_us, pk_us, pk_us]; exact t
  · rw [pk_un e, pk_un e, pk_un e, pk_un e]; exact T i (by omega)
theorem kz_T_p {n i : Nat} {pe lo hi cr : Nat → Int32} (T : kz_T n pe lo hi cr) (h : i < n) : ∃ p, pe i = nI p ∧ 1 ≤ p ∧ p ≤ 16 := by
  obtain ⟨p, a, b, e, _, _, h1, h2, h3, h4, _⟩ := T i h
  exact ⟨p, e, by omega, h4⟩
theorem kz_T_c {n i : Nat} {pe lo hi cr : Nat → Int32} (T : kz_T n pe lo hi cr) (h : i < n) : (cr i = 0 ∧ hi i = lo i) ∨ cr i = 1 := by
  obtain ⟨p, a, b, _, _, _, _, _, _, _, h5⟩ := T i h
  exact h5
/-- one task's term of a utilisation numerator -/
def kz_u (c : Int32) (cr B P : Nat → Int32) (i : Nat) : Nat := if cr i = c then (B i).toNatClampNeg * (720720 / (P i).toNatClampNeg) else 0
theorem kz_q {b p : Nat} (hb : b ≤ p) : b * (720720 / p) ≤ 720720 :=
  Nat.le_trans (Nat.mul_le_mul_right _ hb) (Nat.mul_div_le 720720 p)
theorem kz_u_lo {n i : Nat} {c : Int32} {pe lo hi cr : Nat → Int32} (T : kz_T n pe lo hi cr) (h : i < n) : kz_u c cr lo pe i ≤ 720720 := by
  obtain ⟨p, a, b, e1, e2, e3, h1, h2, h3, h4, _⟩ := T i h
  unfold kz_u
  rw [e1, e2, nI_clamp (by omega), nI_clamp (by omega)]
  split
  · exact kz_q (by omega)
  · omega
theorem kz_u_hi {n i : Nat} {c : Int32} {pe lo hi cr : Nat → Int32} (T : kz_T n pe lo hi cr) (h : i < n) : kz_u c cr hi pe i ≤ 720720 := by
  obtain ⟨p, a, b, e1, e2, e3, h1, h2, h3, h4, _⟩ := T i h
  unfold kz_u
  rw [e1, e3, nI_clamp (by omega), nI_clamp (by omega)]
  split
  · exact kz_q (by omega)
  · omega
theorem kz_u_z {n i : Nat} {c : Int32} {pe lo hi cr : Nat → Int32} (T : kz_T n pe lo hi cr) (h : i < n) (z : kz_u c cr lo pe i = 0) : kz_u c cr hi pe i = 0 := by
  obtain ⟨p, a, b, e1, e2, e3, h1, h2, h3, h4, _⟩ := T i h
  unfold kz_u at z ⊢
  rw [e1, e2, nI_clamp (by omega), nI_clamp (by omega)] at z
  by_cases k : cr i = c
  · rw [if_pos k] at z
    have h5 : 0 < 720720 / p := Nat.div_pos (by omega) (by omega)
    have h6 := Nat.mul_pos (show 0 < a from h1) h5
    omega
  · rw [if_neg k]
theorem kz_S_z {n : Nat} {c : Int32} {pe lo hi cr : Nat → Int32} (T : kz_T n pe lo hi cr) (z : kz_sum (kz_u c cr lo pe) n = 0) : kz_sum (kz_u c cr hi pe) n = 0 :=
  kz_sum_z n (fun i hi' => kz_u_z T hi' (kz_sum_0 n z i hi'))
theorem kz_S_lo {n : Nat} {c : Int32} {pe lo hi cr : Nat → Int32} (T : kz_T n pe lo hi cr) (hn : n ≤ 8) : kz_sum (kz_u c cr lo pe) n ≤ 5765760 := by
  have h := kz_sum_le (f := kz_u c cr lo pe) (B := 720720) n (fun i hi' => kz_u_lo (c := c) T hi')
  omega
theorem kz_S_hi {n : Nat} {c : Int32} {pe lo hi cr : Nat → Int32} (T : kz_T n pe lo hi cr) (hn : n ≤ 8) : kz_sum (kz_u c cr hi pe) n ≤ 5765760 := by
  have h := kz_sum_le (f := kz_u c cr hi pe) (B := 720720) n (fun i hi' => kz_u_hi (c := c) T hi')
  omega
/-- the releases, a long here and an int there -/
def kz_L (t : Nat) (rX : Nat → Int64) (rY : Nat → Int32) : Prop := ∀ i, ∃ r : Nat, r ≤ t ∧ rX i = lN r ∧ rY i = nI r
theorem kz_L_0 : kz_L 0 (fun _ => 0) (fun _ => 0) := fun _ => ⟨0, Nat.le_refl 0, rfl, rfl⟩
theorem kz_L_s {t : Nat} {rX : Nat → Int64} {rY : Nat → Int32} (h : kz_L t rX rY) : kz_L (t + 1) rX rY := fun i => by
  obtain ⟨r, a, b, c⟩ := h i
  exact ⟨r, by omega, b, c⟩
theorem kz_L_u {t : Nat} {rX : Nat → Int64} {rY : Nat → Int32} (h : kz_L t rX rY) (j : Nat) : kz_L t (vp_updL rX j (lN t)) (upd rY j (nI t)) := fun i => by
  by_cases e : i = j
  · subst e; rw [pk_uLs, pk_us]; exact ⟨t, Nat.le_refl t, rfl, rfl⟩
  · rw [pk_uLn e, pk_un e]; exact h i
/-- the counters, by kinds here and by tasks there -/
def kz_C (cX cY : Nat → Int32) : Prop := ∀ t k, t < 8 → k < 6 → cX (k * 8 + t) = cY (t * 6 + k)
theorem kz_C_u {cX cY : Nat → Int32} (h : kz_C cX cY) (t k : Nat) (ht : t < 8) (hk : k < 6) (x : Int32) : kz_C (upd cX (k * 8 + t) x) (upd cY (t * 6 + k) x) := by
  intro a b ha hb
  by_cases e : a = t ∧ b = k
  · rw [e.1, e.2, pk_us, pk_us]
  · rw [pk_un (by omega), pk_un (by omega)]; exact h a b ha hb
theorem kz_ud0 (i : Nat) : upd (fun _ => 0) i 0 = fun _ => 0 := by
  funext j
  show (if j = i then (0 : Int32) else 0) = 0
  split <;> rfl
end
section
/-! places, endings, the loops of release, miss, drop, choose -/
theorem kz_cl {j : Nat} (h : j < 8) : (nI j).toNatClampNeg = j := nI_clamp (by omega)
theorem kz_v8 {j : Nat} (h : j < 8) : vp_in (nI j) 8 := vp_in_nI h (by omega)
theorem kz_xe (k j : Nat) : nI k * 8 + nI j = nI (k * 8 + j) := by
  rw [show (8 : Int32) = nI 8 from rfl, pk_mul, nI_add]
theorem kz_xc {k j : Nat} (hk : k < 6) (hj : j < 8) : (nI k * 8 + nI j).toNatClampNeg = k * 8 + j := by
  rw [kz_xe]; exact nI_clamp (by omega)
theorem kz_xv {k j : Nat} (hk : k < 6) (hj : j < 8) : vp_in (nI k * 8 + nI j) 48 := by
  rw [kz_xe]; exact vp_in_nI (by omega) (by omega)
theorem kz_ye (k j : Nat) : nI j * 6 + nI k = nI (j * 6 + k) := by
  rw [show (6 : Int32) = nI 6 from rfl, pk_mul, nI_add]
theorem kz_yc {k j : Nat} (hk : k < 6) (hj : j < 8) : (nI j * 6 + nI k).toNatClampNeg = j * 6 + k := by
  rw [kz_ye]; exact nI_clamp (by omega)
theorem kz_yv {k j : Nat} (hk : k < 6) (hj : j < 8) : vp_in (nI j * 6 + nI k) 48 := by
  rw [kz_ye]; exact vp_in_nI (by omega) (by omega)
theorem kz_s0 {j : Nat} (hj : j < 8) : ((0 : Int32) + nI j).toNatClampNeg = 0 * 8 + j := by
  rw [show (0 : Int32) = nI 0 from rfl, nI_add, show 0 + j = 0 * 8 + j from by omega]; exact nI_clamp (by omega)
theorem kz_sv0 {j : Nat} (hj : j < 8) : vp_in ((0 : Int32) + nI j) 48 := by
  rw [show (0 : Int32) = nI 0 from rfl, nI_add]; exact vp_in_nI (by omega) (by omega)
theorem kz_s4 {j : Nat} (hj : j < 8) : ((32 : Int32) + nI j).toNatClampNeg = 4 * 8 + j := by
  rw [show (32 : Int32) = nI 32 from rfl, nI_add, show 32 + j = 4 * 8 + j from by omega]; exact nI_clamp (by omega)
theorem kz_sv4 {j : Nat} (hj : j < 8) : vp_in ((32 : Int32) + nI j) 48 := by
  rw [show (32 : Int32) = nI 32 from rfl, nI_add]; exact vp_in_nI (by omega) (by omega)
theorem kz_nm1 {i : Nat} (h : i < 2 ^ 31) : ¬ nI i = -1 := by
  intro e
  have h1 := nI_pos h
  rw [e] at h1
  exact h1 (by decide)
theorem kz_C_i {cX cY : Nat → Int32} (h : kz_C cX cY) (t k : Nat) (ht : t < 8) (hk : k < 6) : kz_C (upd cX (k * 8 + t) (cX (k * 8 + t) + 1)) (upd cY (t * 6 + k) (cY (t * 6 + k) + 1)) := by
  rw [h t k ht hk]; exact kz_C_u h t k ht hk _
theorem kz_L_e {t : Nat} {rX : Nat → Int64} {rY : Nat → Int32} (h : kz_L t rX rY) (ht : t < 2 ^ 31) (j : Nat) : rX j = (rY j).toInt64 := by
  obtain ⟨r, h1, h2, h3⟩ := h j
  rw [h2, h3, nI_l (by omega)]
theorem kz_xej (n t : Nat) (kc ad md la xn xd : Int32) (pe cr lo hi nx : Nat → Int32) (pd dn dm cX st : Nat → Int32) (rX : Nat → Int64) (k j : Nat) (hk : k < 6) (hj : j < 8) (post : SX → Prop)
    (hp : post (kc, (nI n), ad, (lN t), md, la, xn, xd, pe, cr, lo, hi, nx, upd pd j (vp_nar .boolean 0), rX, dn, dm, upd cX (k * 8 + j) (cX (k * 8 + j) + 1), st)) : wpX_endJob post (kc, (nI n), ad, (lN t), md, la, xn, xd, pe, cr, lo, hi, nx, pd, rX, dn, dm, cX, st) (nI j) (nI k) := by
  unfold wpX_endJob
  dsimp only
  rw [kz_cl hj, kz_xc hk hj]
  refine ⟨kz_v8 hj, fun a ea => ⟨kz_xv hk hj, kz_xv hk hj, fun b eb => ?_⟩⟩
  subst ea; subst eb
  exact hp
theorem kz_xrj1 (n t : Nat) (kc ad md la xn xd : Int32) (pe cr lo hi nx : Nat → Int32) (pd dn dm cX st : Nat → Int32) (rX : Nat → Int64) (j : Nat) (hj : j < 8) (h1 : md = 1) (h0 : cr j = 0) (post : SX → Prop)
    (hp : post (kc, (nI n), ad, (lN t), md, la, xn, xd, pe, cr, lo, hi, nx, pd, rX, dn, dm, upd cX (4 * 8 + j) (cX (4 * 8 + j) + 1), st)) : wpX_releaseJob post (kc, (nI n), ad, (lN t), md, la, xn, xd, pe, cr, lo, hi, nx, pd, rX, dn, dm, cX, st) (nI j) := by
  unfold wpX_releaseJob
  dsimp only
  rw [kz_cl hj, kz_s4 hj]
  refine br_t h1 ⟨kz_v8 hj, br_t h0 ⟨kz_sv4 hj, kz_sv4 hj, fun b eb => ?_⟩⟩
  subst eb
  exact hp
theorem kz_xrj2 (n t : Nat) (kc ad md la xn xd : Int32) (pe cr lo hi nx : Nat → Int32) (pd dn dm cX st : Nat → Int32) (rX : Nat → Int64) (j : Nat) (hj : j < 8) (h : ¬ (md = 1 ∧ cr j = 0)) (post : SX → Prop)
    (hp : post (kc, (nI n), ad, (lN t), md, la, xn, xd, pe, cr, lo, hi, nx, upd pd j (vp_nar .boolean 1), vp_updL rX j (lN t), upd dn j 0, upd dm j (nx j), upd cX (0 * 8 + j) (cX (0 * 8 + j) + 1), st)) : wpX_releaseJob post (kc, (nI n), ad, (lN t), md, la, xn, xd, pe, cr, lo, hi, nx, pd, rX, dn, dm, cX, st) (nI j) := by
  have k : wX_releaseJob_31 post (nI j) kc (nI n) ad (lN t) md la xn xd pe cr lo hi nx pd rX dn dm cX st := by
    unfold wX_releaseJob_31
    rw [kz_cl hj, kz_s0 hj]
    refine ⟨kz_sv0 hj, kz_sv0 hj, fun a1 e1 => ⟨kz_v8 hj, fun a2 e2 => ⟨kz_v8 hj, fun a3 e3 => ⟨kz_v8 hj, fun a4 e4 => ⟨kz_v8 hj, kz_v8 hj, fun a5 e5 => ?_⟩⟩⟩⟩⟩
    subst e1; subst e2; subst e3; subst e4; subst e5
    exact hp
  unfold wpX_releaseJob
  dsimp only
  rw [kz_cl hj]
  by_cases m : md = 1
  · exact br_t m ⟨kz_v8 hj, br_f (fun z => h ⟨m, z⟩) k⟩
  · exact br_f m k
/-- the release of jobs at t, both sides -/
theorem kz_rel (n t : Nat) (kc ad md la xn xd : Int32) (pe cr lo hi nx : Nat → Int32) (st : Nat → Int32) (hT : kz_T n pe lo hi cr) (hn : n ≤ 8) (ht : t < 2 ^ 31) : ∀ d j, j + d = n → ∀ (pd : Nat → Int32) (rX : Nat → Int64) (rY dn dm cX cY : Nat → Int32), kz_L t rX rY → kz_C cX cY →
    ∃ (pd' : Nat → Int32) (rX' : Nat → Int64) (rY' dn' dm' cX' cY' : Nat → Int32), kz_L t rX' rY' ∧ kz_C cX' cY'
      ∧ (∀ post : SX → Prop, wX_releaseJobs_2 post 1 (nI n) kc (nI n) ad (lN t) md la xn xd pe cr lo hi nx pd' rX' dn' dm' cX' st → wX_releaseJobs_2 post (d + 1) (nI j) kc (nI n) ad (lN t) md la xn xd pe cr lo hi nx pd rX dn dm cX st)
      ∧ (∀ post : SY → Prop, wY_release_2 post (nI t) kc (nI n) ad (nI t) md la xn xd 1 (nI n) pe lo hi cr nx pd' rY' dm' dn' cY' st → wY_release_2 post (nI t) kc (nI n) ad (nI t) md la xn xd (d + 1) (nI j) pe lo hi cr nx pd rY dm dn cY st) := by
  intro d
  induction d with
  | zero =>
    intro j hj pd rX rY dn dm cX cY hL hC
    have e : j = n := by omega
    rw [e]
    exact ⟨pd, rX, rY, dn, dm, cX, cY, hL, hC, fun _ h => h, fun _ h => h⟩
  | succ d ih =>
    intro j hj pd rX rY dn dm cX cY hL hC
    have hj8 : j < 8 := by omega
    have hge : ¬ nI n ≤ nI j := nI_ge (by omega) (by omega)
    have hv := kz_v8 hj8
    have ec := kz_cl hj8
    obtain ⟨p, ep, hp1, hp16⟩ := kz_T_p hT (show j < n by omega)
    have nX : ¬ (pe (nI j).toNatClampNeg).toInt64 = 0 := by
      rw [ec, ep, nI_l (by omega), show (0 : Int64) = lN 0 from rfl, lN_eq (by omega) (by omega)]; omega
    have nY : ¬ pe (nI j).toNatClampNeg = 0 := by rw [ec, ep]; exact nI_ne0 (by omega) (by omega)
    have qX : (lN t - lN t / (pe (nI j).toNatClampNeg).toInt64 * (pe (nI j).toNatClampNeg).toInt64 = 0) ↔ t % p = 0 := by
      have hm := Nat.mod_le t p
      rw [ec, ep, nI_l (by omega), pk_lRem (by omega) (by omega) (by omega), show (0 : Int64) = lN 0 from rfl, lN_eq (by omega) (by omega)]
    have qY : (nI t - nI t / pe (nI j).toNatClampNeg * pe (nI j).toNatClampNeg = 0) ↔ t % p = 0 := by
      have hm := Nat.mod_le t p
      rw [ec, ep, pk_rem (by omega) (by omega) (by omega), show (0 : Int32) = nI 0 from rfl, nI_eq (by omega) (by omega)]
    by_cases z : t % p = 0
    · have zX := qX.mpr z
      have zY := qY.mpr z
      by_cases m : md = 1 ∧ cr j = 0
      · obtain ⟨pd', rX', rY', dn', dm', cX', cY', g1, g2, g3, g4⟩ := ih (j + 1) (by omega) pd rX rY dn dm _ _ hL (kz_C_i hC j 4 hj8 (by omega))
        refine ⟨pd', rX', rY', dn', dm', cX', cY', g1, g2, fun post h => ?_, fun post h => ?_⟩
        · refine br_f hge ⟨hv, nX, br_t zX ?_⟩
          exact kz_xrj1 n t kc ad md la xn xd pe cr lo hi nx pd dn dm cX st rX j hj8 m.1 m.2 _ (nm_r (nI_1 j) (g3 post h))
        · have m2 : cr (nI j).toNatClampNeg = 0 := by rw [ec]; exact m.2
          have y4 : (nI j * 6 + 4).toNatClampNeg = j * 6 + 4 := kz_yc (k := 4) (by omega) hj8
          have w4 : vp_in (nI j * 6 + 4) 48 := kz_yv (k := 4) (by omega) hj8
          refine br_f hge ⟨hv, nY, br_t zY (br_t m.1 ⟨hv, br_t m2 ⟨w4, w4, fun b eb => nm_r (nI_1 j) ?_⟩⟩)⟩
          rw [y4] at eb
          subst eb
          exact g4 post h
      · obtain ⟨pd', rX', rY', dn', dm', cX', cY', g1, g2, g3, g4⟩ := ih (j + 1) (by omega) (upd pd j (vp_nar .boolean 1)) _ _ (upd dn j 0) (upd dm j (nx j)) _ _ (kz_L_u hL j) (kz_C_i hC j 0 hj8 (by omega))
        refine ⟨pd', rX', rY', dn', dm', cX', cY', g1, g2, fun post h => ?_, fun post h => ?_⟩
        · refine br_f hge ⟨hv, nX, br_t zX ?_⟩
          exact kz_xrj2 n t kc ad md la xn xd pe cr lo hi nx pd dn dm cX st rX j hj8 m _ (nm_r (nI_1 j) (g3 post h))
        · have y0 : (nI j * 6 + 0).toNatClampNeg = j * 6 + 0 := kz_yc (k := 0) (by omega) hj8
          have w0 : vp_in (nI j * 6 + 0) 48 := kz_yv (k := 0) (by omega) hj8
          have k : wY_release_56 post (wY_release_2 post (nI t) kc (nI n) ad (nI t) md la xn xd (d + 1)) (nI t) (nI j) kc (nI n) ad (nI t) md la xn xd pe lo hi cr nx pd rY dm dn cY st := by
            refine ⟨w0, w0, fun a1 e1 => ⟨hv, fun a2 e2 => ⟨hv, fun a3 e3 => ⟨hv, fun a4 e4 => ⟨hv, hv, fun a5 e5 => nm_r (nI_1 j) ?_⟩⟩⟩⟩⟩
            rw [y0] at e1
            rw [ec] at e2 e3 e4 e5
            subst e1; subst e2; subst e3; subst e4; subst e5
            exact g4 post h
          refine br_f hge ⟨hv, nY, br_t zY ?_⟩
          by_cases m1 : md = 1
          · exact br_t m1 ⟨hv, br_f (by rw [ec]; exact fun z0 => m ⟨m1, z0⟩) k⟩
          · exact br_f m1 k
    · obtain ⟨pd', rX', rY', dn', dm', cX', cY', g1, g2, g3, g4⟩ := ih (j + 1) (by omega) pd rX rY dn dm cX cY hL hC
      refine ⟨pd', rX', rY', dn', dm', cX', cY', g1, g2, fun post h => ?_, fun post h => ?_⟩
      · exact br_f hge ⟨hv, nX, br_f (fun q => z (qX.mp q)) (nm_r (nI_1 j) (g3 post h))⟩
      · exact br_f hge ⟨hv, nY, br_f (fun q => z (qY.mp q)) (nm_r (nI_1 j) (g4 post h))⟩
theorem kz_release (n t : Nat) (kc ad md la xn xd : Int32) (pe cr lo hi nx : Nat → Int32) (st : Nat → Int32) (hT : kz_T n pe lo hi cr) (hn : n ≤ 8) (ht : t < 2 ^ 31) (pd : Nat → Int32) (rX : Nat → Int64) (rY dn dm cX cY : Nat → Int32) (hL : kz_L t rX rY) (hC : kz_C cX cY) :
    ∃ (pd' : Nat → Int32) (rX' : Nat → Int64) (rY' dn' dm' cX' cY' : Nat → Int32), kz_L t rX' rY' ∧ kz_C cX' cY'
      ∧ (∀ post : SX → Prop, post (kc, (nI n), ad, (lN t), md, la, xn, xd, pe, cr, lo, hi, nx, pd', rX', dn', dm', cX', st) → wpX_releaseJobs post (kc, (nI n), ad, (lN t), md, la, xn, xd, pe, cr, lo, hi, nx, pd, rX, dn, dm, cX, st))
      ∧ (∀ post : SY → Prop, post (kc, (nI n), ad, (nI t), md, la, xn, xd, pe, lo, hi, cr, nx, pd', rY', dm', dn', cY', st) → wpY_release post (kc, (nI n), ad, (nI t), md, la, xn, xd, pe, lo, hi, cr, nx, pd, rY, dm, dn, cY, st) (nI t)) := by
  obtain ⟨pd', rX', rY', dn', dm', cX', cY', g1, g2, g3, g4⟩ := kz_rel n t kc ad md la xn xd pe cr lo hi nx st hT hn ht n 0 (by omega) pd rX rY dn dm cX cY hL hC
  refine ⟨pd', rX', rY', dn', dm', cX', cY', g1, g2, fun post h => ⟨n + 1, ?_⟩, fun post h => ⟨n + 1, ?_⟩⟩
  · exact g3 post (br_t (nI_le (Nat.le_refl n) (by omega)) h)
  · exact g4 post (br_t (nI_le (Nat.le_refl n) (by omega)) h)
end
section
/-! late jobs, dropped jobs, is a job pending, keys, the choice -/
theorem kz_miss (n t : Nat) (kc ad md la xn xd : Int32) (pe cr lo hi nx : Nat → Int32) (st dn dm : Nat → Int32) (rX : Nat → Int64) (rY : Nat → Int32) (x4 : Int32) (hT : kz_T n pe lo hi cr) (hn : n ≤ 8) (ht : t < 2 ^ 31) (hL : kz_L t rX rY) (ht2 : t + 16 < 2 ^ 31) : ∀ d j, j + d = n → ∀ (pd cX cY : Nat → Int32), kz_C cX cY →
    ∃ (pd' cX' cY' : Nat → Int32), kz_C cX' cY'
      ∧ (∀ post : SX → Prop, wX_missDeadlines_2 post 1 (nI n) kc (nI n) ad (lN t) md la xn xd pe cr lo hi nx pd' rX dn dm cX' st → wX_missDeadlines_2 post (d + 1) (nI j) kc (nI n) ad (lN t) md la xn xd pe cr lo hi nx pd rX dn dm cX st)
      ∧ (∀ post : Int32 → SY → Prop, wY_tick_340 post x4 kc (nI n) ad (nI t) md la xn xd 1 (nI n) pe lo hi cr nx pd' rY dm dn cY' st → wY_tick_340 post x4 kc (nI n) ad (nI t) md la xn xd (d + 1) (nI j) pe lo hi cr nx pd rY dm dn cY st) := by
  intro d
  induction d with
  | zero =>
    intro j hj pd cX cY hC
    have e : j = n := by omega
    rw [e]
    exact ⟨pd, cX, cY, hC, fun _ h => h, fun _ h => h⟩
  | succ d ih =>
    intro j hj pd cX cY hC
    have hj8 : j < 8 := by omega
    have hge : ¬ nI n ≤ nI j := nI_ge (by omega) (by omega)
    have hv := kz_v8 hj8
    have ec := kz_cl hj8
    obtain ⟨p, ep, hp1, hp16⟩ := kz_T_p hT (show j < n by omega)
    obtain ⟨r, hr, erX, erY⟩ := hL j
    have qX : (lN t < rX (nI j).toNatClampNeg + (pe (nI j).toNatClampNeg).toInt64) ↔ t < r + p := by
      rw [ec, ep, erX, nI_l (by omega), lN_add, lN_lt (by omega) (by omega)]
    have qY : (nI t < rY (nI j).toNatClampNeg + pe (nI j).toNatClampNeg) ↔ t < r + p := by
      rw [ec, ep, erY, nI_add, nI_ltI (by omega) (by omega)]
    by_cases z : pd j = 0
    · have z' : pd (nI j).toNatClampNeg = 0 := by rw [ec]; exact z
      obtain ⟨pd', cX', cY', g1, g2, g3⟩ := ih (j + 1) (by omega) pd cX cY hC
      refine ⟨pd', cX', cY', g1, fun post h => ?_, fun post h => ?_⟩
      · exact br_f hge ⟨hv, br_t z' (nm_r (nI_1 j) (g2 post h))⟩
      · exact br_f hge ⟨hv, br_t z' (nm_r (nI_1 j) (g3 post h))⟩
    · have z' : ¬ pd (nI j).toNatClampNeg = 0 := by rw [ec]; exact z
      by_cases w : t < r + p
      · obtain ⟨pd', cX', cY', g1, g2, g3⟩ := ih (j + 1) (by omega) pd cX cY hC
        refine ⟨pd', cX', cY', g1, fun post h => ?_, fun post h => ?_⟩
        · exact br_f hge ⟨hv, br_f z' ⟨hv, hv, br_t (qX.mpr w) (nm_r (nI_1 j) (g2 post h))⟩⟩
        · exact br_f hge ⟨hv, br_f z' ⟨hv, hv, br_t (qY.mpr w) (nm_r (nI_1 j) (g3 post h))⟩⟩
      · obtain ⟨pd', cX', cY', g1, g2, g3⟩ := ih (j + 1) (by omega) (upd pd j (vp_nar .boolean 0)) _ _ (kz_C_i hC j 5 hj8 (by omega))
        have wX : ¬ lN t < rX (nI j).toNatClampNeg + (pe (nI j).toNatClampNeg).toInt64 := fun q => w (qX.mp q)
        have wY : ¬ nI t < rY (nI j).toNatClampNeg + pe (nI j).toNatClampNeg := fun q => w (qY.mp q)
        refine ⟨pd', cX', cY', g1, fun post h => ?_, fun post h => ?_⟩
        · refine br_f hge ⟨hv, br_f z' ⟨hv, hv, br_f wX ?_⟩⟩
          exact kz_xej n t kc ad md la xn xd pe cr lo hi nx pd dn dm cX st rX 5 j (by omega) hj8 _ (nm_r (nI_1 j) (g2 post h))
        · have y5 : (nI j * 6 + 5).toNatClampNeg = j * 6 + 5 := kz_yc (k := 5) (by omega) hj8
          have w5 : vp_in (nI j * 6 + 5) 48 := kz_yv (k := 5) (by omega) hj8
          refine br_f hge ⟨hv, br_f z' ⟨hv, hv, br_f wY ⟨w5, w5, fun a ea => ⟨hv, fun b eb => nm_r (nI_1 j) ?_⟩⟩⟩⟩
          rw [y5] at ea
          rw [ec] at eb
          subst ea; subst eb
          exact g3 post h
theorem kz_drop (n t : Nat) (kc ad md la xn xd : Int32) (pe cr lo hi nx : Nat → Int32) (st dn dm : Nat → Int32) (rX : Nat → Int64) (rY : Nat → Int32) (x1 x4 x5 : Int32) (hn : n ≤ 8) : ∀ d j, j + d = n → ∀ (pd cX cY : Nat → Int32), kz_C cX cY →
    ∃ (pd' cX' cY' : Nat → Int32), kz_C cX' cY'
      ∧ (∀ post : SX → Prop, wX_switchToHi_17 post 1 (nI n) kc (nI n) ad (lN t) md la xn xd pe cr lo hi nx pd' rX dn dm cX' st → wX_switchToHi_17 post (d + 1) (nI j) kc (nI n) ad (lN t) md la xn xd pe cr lo hi nx pd rX dn dm cX st)
      ∧ (∀ post : Int32 → SY → Prop, wY_tick_235 post x1 x4 x5 kc (nI n) ad (nI t) md la xn xd 1 (nI n) pe lo hi cr nx pd' rY dm dn cY' st → wY_tick_235 post x1 x4 x5 kc (nI n) ad (nI t) md la xn xd (d + 1) (nI j) pe lo hi cr nx pd rY dm dn cY st) := by
  intro d
  induction d with
  | zero =>
    intro j hj pd cX cY hC
    have e : j = n := by omega
    rw [e]
    exact ⟨pd, cX, cY, hC, fun _ h => h, fun _ h => h⟩
  | succ d ih =>
    intro j hj pd cX cY hC
    have hj8 : j < 8 := by omega
    have hge : ¬ nI n ≤ nI j := nI_ge (by omega) (by omega)
    have hv := kz_v8 hj8
    have ec := kz_cl hj8
    by_cases c : cr j = 0
    · have c' : cr (nI j).toNatClampNeg = 0 := by rw [ec]; exact c
      by_cases z : pd j = 0
      · have z' : pd (nI j).toNatClampNeg = 0 := by rw [ec]; exact z
        obtain ⟨pd', cX', cY', g1, g2, g3⟩ := ih (j + 1) (by omega) pd cX cY hC
        refine ⟨pd', cX', cY', g1, fun post h => ?_, fun post h => ?_⟩
        · exact br_f hge ⟨hv, br_t c' ⟨hv, br_t z' (nm_r (nI_1 j) (g2 post h))⟩⟩
        · exact br_f hge ⟨hv, br_t c' ⟨hv, br_t z' (nm_r (nI_1 j) (g3 post h))⟩⟩
      · have z' : ¬ pd (nI j).toNatClampNeg = 0 := by rw [ec]; exact z
        obtain ⟨pd', cX', cY', g1, g2, g3⟩ := ih (j + 1) (by omega) (upd pd j (vp_nar .boolean 0)) _ _ (kz_C_i hC j 3 hj8 (by omega))
        refine ⟨pd', cX', cY', g1, fun post h => ?_, fun post h => ?_⟩
        · refine br_f hge ⟨hv, br_t c' ⟨hv, br_f z' ?_⟩⟩
          exact kz_xej n t kc ad md la xn xd pe cr lo hi nx pd dn dm cX st rX 3 j (by omega) hj8 _ (nm_r (nI_1 j) (g2 post h))
        · have y3 : (nI j * 6 + 3).toNatClampNeg = j * 6 + 3 := kz_yc (k := 3) (by omega) hj8
          have w3 : vp_in (nI j * 6 + 3) 48 := kz_yv (k := 3) (by omega) hj8
          refine br_f hge ⟨hv, br_t c' ⟨hv, br_f z' ⟨hv, fun b eb => ⟨w3, w3, fun a ea => nm_r (nI_1 j) ?_⟩⟩⟩⟩
          rw [y3] at ea
          rw [ec] at eb
          subst ea; subst eb
          exact g3 post h
    · have c' : ¬ cr (nI j).toNatClampNeg = 0 := by rw [ec]; exact c
      obtain ⟨pd', cX', cY', g1, g2, g3⟩ := ih (j + 1) (by omega) pd cX cY hC
      refine ⟨pd', cX', cY', g1, fun post h => ?_, fun post h => ?_⟩
      · exact br_f hge ⟨hv, br_f c' (nm_r (nI_1 j) (g2 post h))⟩
      · exact br_f hge ⟨hv, br_f c' (nm_r (nI_1 j) (g3 post h))⟩
theorem kz_any1 (n t : Nat) (kc ad md la xn xd : Int32) (pe cr lo hi nx : Nat → Int32) (pd rY dm dn cY st : Nat → Int32) (x4 : Int32) (hn : n ≤ 8) (post : Int32 → SY → Prop) (h : wY_tick_425 post x4 kc (nI n) ad (nI t) md la xn xd pe lo hi cr nx pd rY dm dn cY st 1 1 (nI n)) : ∀ d j, j + d = n → wY_tick_425 post x4 kc (nI n) ad (nI t) md la xn xd pe lo hi cr nx pd rY dm dn cY st (d + 1) 1 (nI j) := by
  intro d
  induction d with
  | zero =>
    intro j hj
    have e : j = n := by omega
    rw [e]
    exact h
  | succ d ih =>
    intro j hj
    have hj8 : j < 8 := by omega
    have hge : ¬ nI n ≤ nI j := nI_ge (by omega) (by omega)
    have hv := kz_v8 hj8
    refine br_f hge ⟨hv, br_c (fun _ => nm_r (nI_1 j) (ih (j + 1) (by omega))) (fun _ => nm_r (nI_1 j) (ih (j + 1) (by omega)))⟩
theorem kz_any (n t : Nat) (kc ad md la xn xd : Int32) (pe cr lo hi nx : Nat → Int32) (pd dn dm cX st : Nat → Int32) (rX : Nat → Int64) (rY cY : Nat → Int32) (x4 : Int32) (hn : n ≤ 8) : ∀ d j, j + d = n →
    ((∀ post : Int32 → Prop, post 0 → wX_anyPending_2 post kc (nI n) ad (lN t) md la xn xd pe cr lo hi nx pd rX dn dm cX st (d + 1) (nI j)) ∧ (∀ post : Int32 → SY → Prop, wY_tick_425 post x4 kc (nI n) ad (nI t) md la xn xd pe lo hi cr nx pd rY dm dn cY st 1 0 (nI n) → wY_tick_425 post x4 kc (nI n) ad (nI t) md la xn xd pe lo hi cr nx pd rY dm dn cY st (d + 1) 0 (nI j)))
    ∨ ((∀ post : Int32 → Prop, post 1 → wX_anyPending_2 post kc (nI n) ad (lN t) md la xn xd pe cr lo hi nx pd rX dn dm cX st (d + 1) (nI j)) ∧ (∀ post : Int32 → SY → Prop, wY_tick_425 post x4 kc (nI n) ad (nI t) md la xn xd pe lo hi cr nx pd rY dm dn cY st 1 1 (nI n) → wY_tick_425 post x4 kc (nI n) ad (nI t) md la xn xd pe lo hi cr nx pd rY dm dn cY st (d + 1) 0 (nI j))) := by
  intro d
  induction d with
  | zero =>
    intro j hj
    have e : j = n := by omega
    rw [e]
    exact Or.inl ⟨fun post h => br_t (nI_le (Nat.le_refl n) (by omega)) h, fun _ h => h⟩
  | succ d ih =>
    intro j hj
    have hj8 : j < 8 := by omega
    have hge : ¬ nI n ≤ nI j := nI_ge (by omega) (by omega)
    have hv := kz_v8 hj8
    have ec := kz_cl hj8
    by_cases z : pd j = 0
    · have z' : pd (nI j).toNatClampNeg = 0 := by rw [ec]; exact z
      cases ih (j + 1) (by omega) with
      | inl g => exact Or.inl ⟨fun post h => br_f hge ⟨hv, br_t z' (nm_r (nI_1 j) (g.1 post h))⟩, fun post h => br_f hge ⟨hv, br_t z' (nm_r (nI_1 j) (g.2 post h))⟩⟩
      | inr g => exact Or.inr ⟨fun post h => br_f hge ⟨hv, br_t z' (nm_r (nI_1 j) (g.1 post h))⟩, fun post h => br_f hge ⟨hv, br_t z' (nm_r (nI_1 j) (g.2 post h))⟩⟩
    · have z' : ¬ pd (nI j).toNatClampNeg = 0 := by rw [ec]; exact z
      exact Or.inr ⟨fun post h => br_f hge ⟨hv, br_f z' h⟩, fun post h => br_f hge ⟨hv, br_f z' (nm_r (nI_1 j) (kz_any1 n t kc ad md la xn xd pe cr lo hi nx pd rY dm dn cY st x4 hn post h d (j + 1) (by omega)))⟩⟩
theorem kz_key (n t : Nat) (kc ad md la xn xd : Int32) (pe cr lo hi nx : Nat → Int32) (pd dn dm cX st : Nat → Int32) (rX : Nat → Int64) (rY cY : Nat → Int32) (ht : t < 2 ^ 31) (hL : kz_L t rX rY) (j : Nat) (hj8 : j < 8) :
    ∃ q : Int64, (∀ post : Int64 → Prop, post q → wpX_priorityKey post (kc, (nI n), ad, (lN t), md, la, xn, xd, pe, cr, lo, hi, nx, pd, rX, dn, dm, cX, st) (nI j)) ∧ (∀ post : Int64 → Prop, post q → wpY_key post (kc, (nI n), ad, (nI t), md, la, xn, xd, pe, lo, hi, cr, nx, pd, rY, dm, dn, cY, st) (nI j)) := by
  have hv := kz_v8 hj8
  have ec := kz_cl hj8
  have er := kz_L_e hL ht j
  by_cases c : cr j = 1
  · by_cases m : md = 0
    · refine ⟨(rX j * xd.toInt64) + (xn.toInt64 * (pe j).toInt64), fun post h => ?_, fun post h => ?_⟩
      · unfold wpX_priorityKey
        dsimp only
        rw [ec]
        exact ⟨hv, br_t c (br_t m ⟨hv, hv, h⟩)⟩
      · unfold wpY_key
        dsimp only
        rw [ec, ← er]
        exact ⟨hv, br_t c (br_t m ⟨hv, hv, h⟩)⟩
    · refine ⟨(rX j + (pe j).toInt64) * xd.toInt64, fun post h => ?_, fun post h => ?_⟩
      · unfold wpX_priorityKey wX_priorityKey_44
        dsimp only
        rw [ec]
        exact ⟨hv, br_t c (br_f m ⟨hv, hv, h⟩)⟩
      · unfold wpY_key wY_key_45
        dsimp only
        rw [ec, ← er]
        exact ⟨hv, br_t c (br_f m ⟨hv, hv, h⟩)⟩
  · refine ⟨(rX j + (pe j).toInt64) * xd.toInt64, fun post h => ?_, fun post h => ?_⟩
    · unfold wpX_priorityKey wX_priorityKey_44
      dsimp only
      rw [ec]
      exact ⟨hv, br_f c ⟨hv, hv, h⟩⟩
    · unfold wpY_key wY_key_45
      dsimp only
      rw [ec, ← er]
      exact ⟨hv, br_f c ⟨hv, hv, h⟩⟩
def kz_ch (n : Nat) (c : Int32) : Prop := c = -1 ∨ ∃ i, i < n ∧ c = nI i
theorem kz_choose (n t : Nat) (kc ad md la xn xd : Int32) (pe cr lo hi nx : Nat → Int32) (pd dn dm cX st : Nat → Int32) (rX : Nat → Int64) (rY cY : Nat → Int32) (hn : n ≤ 8) (ht : t < 2 ^ 31) (hL : kz_L t rX rY) : ∀ d j, j + d = n → ∀ (c : Int32) (k : Int64), kz_ch n c →
    ∃ (c' : Int32) (k' : Int64), kz_ch n c' ∧ (∀ post : Int32 → Prop, post c' → wX_chooseTask_7 post kc (nI n) ad (lN t) md la xn xd pe cr lo hi nx pd rX dn dm cX st (d + 1) c k (nI j))
      ∧ (∀ post : Int32 → SY → Prop, wY_tick_7 post kc (nI n) ad (nI t) md la xn xd pe lo hi cr nx pd rY dm dn cY st 1 c' k' (nI n) → wY_tick_7 post kc (nI n) ad (nI t) md la xn xd pe lo hi cr nx pd rY dm dn cY st (d + 1) c k (nI j)) := by
  intro d
  induction d with
  | zero =>
    intro j hj c k hc
    have e : j = n := by omega
    rw [e]
    exact ⟨c, k, hc, fun post h => br_t (nI_le (Nat.le_refl n) (by omega)) h, fun _ h => h⟩
  | succ d ih =>
    intro j hj c k hc
    have hj8 : j < 8 := by omega
    have hge : ¬ nI n ≤ nI j := nI_ge (by omega) (by omega)
    have hv := kz_v8 hj8
    have ec := kz_cl hj8
    have hcj : kz_ch n (nI j) := Or.inr ⟨j, by omega, rfl⟩
    by_cases z : pd j = 0
    · have z' : pd (nI j).toNatClampNeg = 0 := by rw [ec]; exact z
      obtain ⟨c', k', g1, g2, g3⟩ := ih (j + 1) (by omega) c k hc
      exact ⟨c', k', g1, fun post h => br_f hge ⟨hv, br_t z' (nm_r (nI_1 j) (g2 post h))⟩, fun post h => br_f hge ⟨hv, br_t z' (nm_r (nI_1 j) (g3 post h))⟩⟩
    · have z' : ¬ pd (nI j).toNatClampNeg = 0 := by rw [ec]; exact z
      obtain ⟨q, kX, kY⟩ := kz_key n t kc ad md la xn xd pe cr lo hi nx pd dn dm cX st rX rY cY ht hL j hj8
      rcases hc with hc | ⟨i, hi1, hc⟩
      · subst hc
        obtain ⟨c', k', g1, g2, g3⟩ := ih (j + 1) (by omega) (nI j) q hcj
        refine ⟨c', k', g1, fun post h => br_f hge ⟨hv, br_f z' ?_⟩, fun post h => br_f hge ⟨hv, br_f z' ?_⟩⟩
        · exact kX _ (br_t rfl (nm_r (nI_1 j) (g2 post h)))
        · exact kY _ (br_t (by decide) (nm_r (nI_1 j) (g3 post h)))
      · subst hc
        have m1 : ¬ nI i = -1 := kz_nm1 (by omega)
        have m0 : ¬ nI i < 0 := nI_pos (by omega)
        by_cases w : k ≤ q
        · obtain ⟨c', k', g1, g2, g3⟩ := ih (j + 1) (by omega) (nI i) k (Or.inr ⟨i, hi1, rfl⟩)
          refine ⟨c', k', g1, fun post h => br_f hge ⟨hv, br_f z' ?_⟩, fun post h => br_f hge ⟨hv, br_f z' ?_⟩⟩
          · exact kX _ (br_f m1 (br_t w (nm_r (nI_1 j) (g2 post h))))
          · exact kY _ (br_f m0 (br_t w (nm_r (nI_1 j) (g3 post h))))
        · obtain ⟨c', k', g1, g2, g3⟩ := ih (j + 1) (by omega) (nI j) q hcj
          refine ⟨c', k', g1, fun post h => br_f hge ⟨hv, br_f z' ?_⟩, fun post h => br_f hge ⟨hv, br_f z' ?_⟩⟩
          · exact kX _ (br_f m1 (br_f w (nm_r (nI_1 j) (g2 post h))))
          · exact kY _ (br_f m0 (br_f w (nm_r (nI_1 j) (g3 post h))))
end
section
/-! a tick, a run -/
theorem kz_nle {n : Nat} (hn : n ≤ 8) : nI n ≤ nI n := nI_le (Nat.le_refl n) (by omega)
/-- what follows step A -/
theorem kz_rest (n t : Nat) (kc ad md la xn xd : Int32) (pe cr lo hi nx : Nat → Int32) (st pd dn dm cX : Nat → Int32) (rX : Nat → Int64) (rY cY : Nat → Int32) (x4 : Int32) (hT : kz_T n pe lo hi cr) (hn : n ≤ 8) (ht : t + 17 < 2 ^ 31) (hL : kz_L t rX rY) (hC : kz_C cX cY) :
    ∃ (md' : Int32) (pd' : Nat → Int32) (rX' : Nat → Int64) (rY' dn' dm' cX' cY' st' : Nat → Int32), kz_L (t + 1) rX' rY' ∧ kz_C cX' cY'
      ∧ (∀ post : SX → Prop, post (kc, (nI n), ad, lN (t + 1), md', la, xn, xd, pe, cr, lo, hi, nx, pd', rX', dn', dm', cX', st') → wX_tick_47 post kc (nI n) ad (lN t) md la xn xd pe cr lo hi nx pd rX dn dm cX st)
      ∧ (∀ post : Int32 → SY → Prop, post x4 (kc, (nI n), ad, nI (t + 1), md', la, xn, xd, pe, lo, hi, cr, nx, pd', rY', dm', dn', cY', st') → wY_tick_327 post x4 kc (nI n) ad (nI t) md la xn xd pe lo hi cr nx pd rY dm dn cY st) := by
  have hL1 := kz_L_s hL
  obtain ⟨pd1, cX1, cY1, a1, a2, a3⟩ := kz_miss n (t + 1) kc ad md la xn xd pe cr lo hi nx st dn dm rX rY x4 hT hn (by omega) hL1 (by omega) n 0 (by omega) pd cX cY hC
  by_cases m : md = 1
  · cases kz_any n (t + 1) kc ad md la xn xd pe cr lo hi nx pd1 dn dm cX1 st rX rY cY1 x4 hn n 0 (by omega) with
    | inl g =>
      obtain ⟨pd', rX', rY', dn', dm', cX', cY', b1, b2, b3, b4⟩ := kz_release n (t + 1) kc ad 0 la xn xd pe cr lo hi nx (upd st 1 (st 1 + 1)) hT hn (by omega) pd1 rX rY dn dm cX1 cY1 hL1 a1
      refine ⟨0, pd', rX', rY', dn', dm', cX', cY', upd st 1 (st 1 + 1), b1, b2, fun post h => ?_, fun post h => ?_⟩
      · refine nm_r (lN_1 t) ⟨n + 1, a2 _ (br_t (kz_nle hn) ?_)⟩
        refine br_t m ⟨n + 1, g.1 _ (br_t rfl (nm_e ?_))⟩
        exact b3 _ h
      · refine nm_r (nI_1 t) ⟨n + 1, a3 _ (br_t (kz_nle hn) (br_t m ⟨n + 1, g.2 _ (br_t (kz_nle hn) (br_t rfl (nm_e ?_)))⟩))⟩
        exact b4 _ h
    | inr g =>
      obtain ⟨pd', rX', rY', dn', dm', cX', cY', b1, b2, b3, b4⟩ := kz_release n (t + 1) kc ad md la xn xd pe cr lo hi nx st hT hn (by omega) pd1 rX rY dn dm cX1 cY1 hL1 a1
      refine ⟨md, pd', rX', rY', dn', dm', cX', cY', st, b1, b2, fun post h => ?_, fun post h => ?_⟩
      · refine nm_r (lN_1 t) ⟨n + 1, a2 _ (br_t (kz_nle hn) ?_)⟩
        refine br_t m ⟨n + 1, g.1 _ (br_f (by decide) ?_)⟩
        exact b3 _ h
      · refine nm_r (nI_1 t) ⟨n + 1, a3 _ (br_t (kz_nle hn) (br_t m ⟨n + 1, g.2 _ (br_t (kz_nle hn) (br_f (by decide) ?_))⟩))⟩
        exact b4 _ h
  · obtain ⟨pd', rX', rY', dn', dm', cX', cY', b1, b2, b3, b4⟩ := kz_release n (t + 1) kc ad md la xn xd pe cr lo hi nx st hT hn (by omega) pd1 rX rY dn dm cX1 cY1 hL1 a1
    refine ⟨md, pd', rX', rY', dn', dm', cX', cY', st, b1, b2, fun post h => ?_, fun post h => ?_⟩
    · refine nm_r (lN_1 t) ⟨n + 1, a2 _ (br_t (kz_nle hn) ?_)⟩
      refine br_f m ?_
      exact b3 _ h
    · refine nm_r (nI_1 t) ⟨n + 1, a3 _ (br_t (kz_nle hn) (br_f m ?_))⟩
      exact b4 _ h
theorem kz_65 (n t : Nat) (kc ad md la xn xd : Int32) (pe cr lo hi nx : Nat → Int32) (st pd dn dm cX : Nat → Int32) (rX : Nat → Int64) (rY cY : Nat → Int32) (u : Int32) (i : Nat) (hi8 : i < 8) (hC : kz_C cX cY) :
    ∃ (pd' cX' cY' : Nat → Int32), kz_C cX' cY'
      ∧ (∀ post : SX → Prop, post (kc, (nI n), ad, (lN t), md, la, xn, xd, pe, cr, lo, hi, nx, pd', rX, dn, dm, cX', st) → wX_execute_65 post (nI i) u kc (nI n) ad (lN t) md la xn xd pe cr lo hi nx pd rX dn dm cX st)
      ∧ (∀ post : Int32 → SY → Prop, wY_tick_327 post 1 kc (nI n) ad (nI t) md la xn xd pe lo hi cr nx pd' rY dm dn cY' st → wY_tick_294 post (nI i) 1 u kc (nI n) ad (nI t) md la xn xd pe lo hi cr nx pd rY dm dn cY st) := by
  have hv := kz_v8 hi8
  have ec := kz_cl hi8
  by_cases w : u = hi i
  · have w' : u = hi (nI i).toNatClampNeg := by rw [ec]; exact w
    have y2 : (nI i * 6 + 2).toNatClampNeg = i * 6 + 2 := kz_yc (k := 2) (by omega) hi8
    have w2 : vp_in (nI i * 6 + 2) 48 := kz_yv (k := 2) (by omega) hi8
    refine ⟨upd pd i (vp_nar .boolean 0), _, _, kz_C_i hC i 2 hi8 (by omega), fun post h => ⟨hv, br_t w' ?_⟩, fun post h => ⟨hv, br_t w' ⟨w2, w2, fun a ea => ⟨hv, fun b eb => ?_⟩⟩⟩⟩
    · exact kz_xej n t kc ad md la xn xd pe cr lo hi nx pd dn dm cX st rX 2 i (by omega) hi8 _ h
    · rw [y2] at ea
      rw [ec] at eb
      subst ea; subst eb
      exact h
  · have w' : ¬ u = hi (nI i).toNatClampNeg := by rw [ec]; exact w
    exact ⟨pd, cX, cY, hC, fun post h => ⟨hv, br_f w' h⟩, fun post h => ⟨hv, br_f w' h⟩⟩
theorem kz_sw (n t : Nat) (kc ad md la xn xd : Int32) (pe cr lo hi nx : Nat → Int32) (st pd dn dm cX : Nat → Int32) (rX : Nat → Int64) (rY cY : Nat → Int32) (x1 x4 x5 : Int32) (hn : n ≤ 8) (hC : kz_C cX cY) :
    ∃ (pd' cX' cY' : Nat → Int32), kz_C cX' cY'
      ∧ (∀ post : SX → Prop, post (kc, (nI n), ad, (lN t), 1, la, xn, xd, pe, cr, lo, hi, nx, pd', rX, dn, dm, cX', upd st 0 (st 0 + 1)) → wpX_switchToHi post (kc, (nI n), ad, (lN t), md, la, xn, xd, pe, cr, lo, hi, nx, pd, rX, dn, dm, cX, st))
      ∧ (∀ post : Int32 → SY → Prop, wY_tick_294 post x1 x4 x5 kc (nI n) ad (nI t) 1 la xn xd pe lo hi cr nx pd' rY dm dn cY' (upd st 0 (st 0 + 1)) → ∃ n235 : Nat, wY_tick_235 post x1 x4 x5 kc (nI n) ad (nI t) 1 la xn xd n235 0 pe lo hi cr nx pd rY dm dn cY (upd st 0 (st 0 + 1))) := by
  obtain ⟨pd', cX', cY', g1, g2, g3⟩ := kz_drop n t kc ad 1 la xn xd pe cr lo hi nx (upd st 0 (st 0 + 1)) dn dm rX rY x1 x4 x5 hn n 0 (by omega) pd cX cY hC
  refine ⟨pd', cX', cY', g1, fun post h => ?_, fun post h => ⟨n + 1, ?_⟩⟩
  · exact nm_e ⟨n + 1, g2 post (br_t (kz_nle hn) h)⟩
  · exact g3 post (br_t (kz_nle hn) h)
/-- step A with a job -/
theorem kz_exec (n t : Nat) (kc ad md la xn xd : Int32) (pe cr lo hi nx : Nat → Int32) (st pd dn dm cX : Nat → Int32) (rX : Nat → Int64) (rY cY : Nat → Int32) (hT : kz_T n pe lo hi cr) (hn : n ≤ 8) (hC : kz_C cX cY) (k : Int64) (i : Nat) (hin : i < n) :
    ∃ (md' : Int32) (pd' dn' cX' cY' st' : Nat → Int32), kz_C cX' cY'
      ∧ (∀ post : SX → Prop, post (kc, (nI n), ad, (lN t), md', nI i, xn, xd, pe, cr, lo, hi, nx, pd', rX, dn', dm, cX', st') → wpX_execute post (kc, (nI n), ad, (lN t), md, nI i, xn, xd, pe, cr, lo, hi, nx, pd, rX, dn, dm, cX, upd st 3 (st 3 + 1)) (nI i))
      ∧ (∀ post : Int32 → SY → Prop, wY_tick_327 post 1 kc (nI n) ad (nI t) md' (nI i) xn xd pe lo hi cr nx pd' rY dm dn' cY' st' → wY_tick_7 post kc (nI n) ad (nI t) md la xn xd pe lo hi cr nx pd rY dm dn cY st 1 (nI i) k (nI n)) := by
  have hi8 : i < 8 := by omega
  have hv := kz_v8 hi8
  have ec := kz_cl hi8
  have h0 : (0 : Int32) ≤ nI i := nI_pos' (by omega)
  have y1 : (nI i * 6 + 1).toNatClampNeg = i * 6 + 1 := kz_yc (k := 1) (by omega) hi8
  have w1 : vp_in (nI i * 6 + 1) 48 := kz_yv (k := 1) (by omega) hi8
  have y2 : (nI i * 6 + 2).toNatClampNeg = i * 6 + 2 := kz_yc (k := 2) (by omega) hi8
  have w2 : vp_in (nI i * 6 + 2) 48 := kz_yv (k := 2) (by omega) hi8
  by_cases a : upd dn i (dn i + 1) i = dm i
  · refine ⟨md, upd pd i (vp_nar .boolean 0), upd dn i (dn i + 1), _, _, upd st 3 (st 3 + 1), kz_C_i hC i 1 hi8 (by omega), fun post h => ?_, fun post h => ?_⟩
    · unfold wpX_execute
      dsimp only
      rw [ec]
      refine ⟨hv, hv, nm_e ⟨hv, nm_e ⟨hv, br_t a ?_⟩⟩⟩
      exact kz_xej n t kc ad md (nI i) xn xd pe cr lo hi nx pd (upd dn i (dn i + 1)) dm cX (upd st 3 (st 3 + 1)) rX 1 i (by omega) hi8 _ h
    · refine br_t (kz_nle hn) (br_t h0 (nm_e ⟨hv, hv, ?_⟩))
      rw [ec, y1]
      exact nm_e ⟨hv, nm_e ⟨hv, br_t a ⟨w1, w1, nm_e ⟨hv, nm_e h⟩⟩⟩⟩
  · rcases kz_T_c hT hin with ⟨c, el⟩ | c
    · have c1 : ¬ cr i = 1 := by rw [c]; decide
      obtain ⟨pd', cX', cY', g1, g2, g3⟩ := kz_65 n t kc ad md (nI i) xn xd pe cr lo hi nx (upd st 3 (st 3 + 1)) pd (upd dn i (dn i + 1)) dm cX rX rY cY (upd dn i (dn i + 1) i) i hi8 hC
      by_cases w : upd dn i (dn i + 1) i = lo i
      · have w' : upd dn i (dn i + 1) i = hi i := by rw [el]; exact w
        refine ⟨md, upd pd i (vp_nar .boolean 0), upd dn i (dn i + 1), _, _, upd st 3 (st 3 + 1), kz_C_i hC i 2 hi8 (by omega), fun post h => ?_, fun post h => ?_⟩
        · unfold wpX_execute wX_execute_65
          dsimp only
          rw [ec]
          refine ⟨hv, hv, nm_e ⟨hv, nm_e ⟨hv, br_f a ⟨hv, br_f c1 ⟨hv, br_t w' ?_⟩⟩⟩⟩⟩
          exact kz_xej n t kc ad md (nI i) xn xd pe cr lo hi nx pd (upd dn i (dn i + 1)) dm cX (upd st 3 (st 3 + 1)) rX 2 i (by omega) hi8 _ h
        · refine br_t (kz_nle hn) (br_t h0 (nm_e ⟨hv, hv, ?_⟩))
          rw [ec, y2]
          exact nm_e ⟨hv, nm_e ⟨hv, br_f a ⟨hv, br_t c ⟨hv, br_t w ⟨w2, w2, nm_e ⟨hv, nm_e h⟩⟩⟩⟩⟩⟩
      · have w' : ¬ upd dn i (dn i + 1) i = hi i := by rw [el]; exact w
        refine ⟨md, pd, upd dn i (dn i + 1), cX, cY, upd st 3 (st 3 + 1), hC, fun post h => ?_, fun post h => ?_⟩
        · unfold wpX_execute wX_execute_65
          dsimp only
          rw [ec]
          exact ⟨hv, hv, nm_e ⟨hv, nm_e ⟨hv, br_f a ⟨hv, br_f c1 ⟨hv, br_f w' h⟩⟩⟩⟩⟩
        · refine br_t (kz_nle hn) (br_t h0 (nm_e ⟨hv, hv, ?_⟩))
          rw [ec]
          exact nm_e ⟨hv, nm_e ⟨hv, br_f a ⟨hv, br_t c ⟨hv, br_f w h⟩⟩⟩⟩
    · have c0 : ¬ cr i = 0 := by rw [c]; decide
      by_cases m : md = 0
      · by_cases w : upd dn i (dn i + 1) i = lo i
        · obtain ⟨pd1, cX1, cY1, f1, f2, f3⟩ := kz_sw n t kc ad md (nI i) xn xd pe cr lo hi nx (upd st 3 (st 3 + 1)) pd (upd dn i (dn i + 1)) dm cX rX rY cY (nI i) 1 (upd dn i (dn i + 1) i) hn hC
          obtain ⟨pd', cX', cY', g1, g2, g3⟩ := kz_65 n t kc ad 1 (nI i) xn xd pe cr lo hi nx (upd (upd st 3 (st 3 + 1)) 0 (upd st 3 (st 3 + 1) 0 + 1)) pd1 (upd dn i (dn i + 1)) dm cX1 rX rY cY1 (upd dn i (dn i + 1) i) i hi8 f1
          refine ⟨1, pd', upd dn i (dn i + 1), cX', cY', upd (upd st 3 (st 3 + 1)) 0 (upd st 3 (st 3 + 1) 0 + 1), g1, fun post h => ?_, fun post h => ?_⟩
          · unfold wpX_execute
            dsimp only
            rw [ec]
            refine ⟨hv, hv, nm_e ⟨hv, nm_e ⟨hv, br_f a ⟨hv, br_t c (br_t m ⟨hv, br_t w ?_⟩)⟩⟩⟩⟩
            exact f2 _ (g2 _ h)
          · refine br_t (kz_nle hn) (br_t h0 (nm_e ⟨hv, hv, ?_⟩))
            rw [ec]
            refine nm_e ⟨hv, nm_e ⟨hv, br_f a ⟨hv, br_f c0 (br_t m ⟨hv, br_t w (nm_e ?_)⟩)⟩⟩⟩
            exact f3 _ (g3 _ h)
        · obtain ⟨pd', cX', cY', g1, g2, g3⟩ := kz_65 n t kc ad md (nI i) xn xd pe cr lo hi nx (upd st 3 (st 3 + 1)) pd (upd dn i (dn i + 1)) dm cX rX rY cY (upd dn i (dn i + 1) i) i hi8 hC
          refine ⟨md, pd', upd dn i (dn i + 1), cX', cY', upd st 3 (st 3 + 1), g1, fun post h => ?_, fun post h => ?_⟩
          · unfold wpX_execute
            dsimp only
            rw [ec]
            exact ⟨hv, hv, nm_e ⟨hv, nm_e ⟨hv, br_f a ⟨hv, br_t c (br_t m ⟨hv, br_f w (g2 _ h)⟩)⟩⟩⟩⟩
          · refine br_t (kz_nle hn) (br_t h0 (nm_e ⟨hv, hv, ?_⟩))
            rw [ec]
            exact nm_e ⟨hv, nm_e ⟨hv, br_f a ⟨hv, br_f c0 (br_t m ⟨hv, br_f w (g3 _ h)⟩)⟩⟩⟩
      · obtain ⟨pd', cX', cY', g1, g2, g3⟩ := kz_65 n t kc ad md (nI i) xn xd pe cr lo hi nx (upd st 3 (st 3 + 1)) pd (upd dn i (dn i + 1)) dm cX rX rY cY (upd dn i (dn i + 1) i) i hi8 hC
        refine ⟨md, pd', upd dn i (dn i + 1), cX', cY', upd st 3 (st 3 + 1), g1, fun post h => ?_, fun post h => ?_⟩
        · unfold wpX_execute
          dsimp only
          rw [ec]
          exact ⟨hv, hv, nm_e ⟨hv, nm_e ⟨hv, br_f a ⟨hv, br_t c (br_f m (g2 _ h))⟩⟩⟩⟩
        · refine br_t (kz_nle hn) (br_t h0 (nm_e ⟨hv, hv, ?_⟩))
          rw [ec]
          exact nm_e ⟨hv, nm_e ⟨hv, br_f a ⟨hv, br_f c0 (br_f m (g3 _ h))⟩⟩⟩
theorem kz_tick (n t : Nat) (kc ad md la xn xd : Int32) (pe cr lo hi nx : Nat → Int32) (st pd dn dm cX : Nat → Int32) (rX : Nat → Int64) (rY cY : Nat → Int32) (hT : kz_T n pe lo hi cr) (hn : n ≤ 8) (ht : t + 17 < 2 ^ 31) (hL : kz_L t rX rY) (hC : kz_C cX cY) :
    ∃ (md' la' r : Int32) (pd' : Nat → Int32) (rX' : Nat → Int64) (rY' dn' dm' cX' cY' st' : Nat → Int32), kz_L (t + 1) rX' rY' ∧ kz_C cX' cY'
      ∧ ((la' = -1 ∧ r = 0) ∨ (¬ la' = -1 ∧ r = 1))
      ∧ (∀ post : SX → Prop, post (kc, (nI n), ad, lN (t + 1), md', la', xn, xd, pe, cr, lo, hi, nx, pd', rX', dn', dm', cX', st') → wpX_tick post (kc, (nI n), ad, (lN t), md, la, xn, xd, pe, cr, lo, hi, nx, pd, rX, dn, dm, cX, st))
      ∧ (∀ post : Int32 → SY → Prop, post r (kc, (nI n), ad, nI (t + 1), md', la', xn, xd, pe, lo, hi, cr, nx, pd', rY', dm', dn', cY', st') → wpY_tick post (kc, (nI n), ad, (nI t), md, la, xn, xd, pe, lo, hi, cr, nx, pd, rY, dm, dn, cY, st)) := by
  obtain ⟨c, k, hc, pX, pY⟩ := kz_choose n t kc ad md la xn xd pe cr lo hi nx pd dn dm cX st rX rY cY hn (by omega) hL n 0 (by omega) (-1) 0 (Or.inl rfl)
  rcases hc with hc | ⟨i, hin, hc⟩
  · subst hc
    obtain ⟨md', pd', rX', rY', dn', dm', cX', cY', st', g1, g2, g3, g4⟩ := kz_rest n t kc ad md (-1) xn xd pe cr lo hi nx (upd st 2 (st 2 + 1)) pd dn dm cX rX rY cY 0 hT hn ht hL hC
    refine ⟨md', -1, 0, pd', rX', rY', dn', dm', cX', cY', st', g1, g2, Or.inl ⟨rfl, rfl⟩, fun post h => ⟨n + 1, ?_⟩, fun post h => ⟨n + 1, ?_⟩⟩
    · exact pX _ (br_t rfl (nm_e (g3 _ h)))
    · exact pY _ (br_t (kz_nle hn) (br_f (by decide) (nm_e (g4 _ h))))
  · subst hc
    obtain ⟨md1, pd1, dn1, cX1, cY1, st1, f1, f2, f3⟩ := kz_exec n t kc ad md la xn xd pe cr lo hi nx st pd dn dm cX rX rY cY hT hn hC k i hin
    obtain ⟨md', pd', rX', rY', dn', dm', cX', cY', st', g1, g2, g3, g4⟩ := kz_rest n t kc ad md1 (nI i) xn xd pe cr lo hi nx st1 pd1 dn1 dm cX1 rX rY cY1 1 hT hn ht hL f1
    have m1 : ¬ nI i = -1 := kz_nm1 (by omega)
    refine ⟨md', nI i, 1, pd', rX', rY', dn', dm', cX', cY', st', g1, g2, Or.inr ⟨m1, rfl⟩, fun post h => ⟨n + 1, ?_⟩, fun post h => ⟨n + 1, ?_⟩⟩
    · exact pX _ (br_f m1 (nm_e (f2 _ (g3 _ h))))
    · exact pY _ (f3 _ (g4 _ h))
theorem kz_run (n : Nat) (kc ad xn xd : Int32) (pe cr lo hi nx : Nat → Int32) (s : Nat) (hs : s ≤ 1000) (hT : kz_T n pe lo hi cr) (hn : n ≤ 8) : ∀ d j, j + d = s → ∀ (t : Nat) (b md la : Int32) (st pd dn dm cX : Nat → Int32) (rX : Nat → Int64) (rY cY : Nat → Int32), t + d + 17 < 2 ^ 31 → kz_L t rX rY → kz_C cX cY →
    ∃ (b' md' la' : Int32) (pd' : Nat → Int32) (rX' : Nat → Int64) (rY' dn' dm' cX' cY' st' : Nat → Int32), kz_L (t + d) rX' rY' ∧ kz_C cX' cY'
      ∧ (∀ post : Int32 → SX → Prop, post b' (kc, (nI n), ad, lN (t + d), md', la', xn, xd, pe, cr, lo, hi, nx, pd', rX', dn', dm', cX', st') → wX_run_25 post (nI s) (d + 1) b (nI j) kc (nI n) ad (lN t) md la xn xd pe cr lo hi nx pd rX dn dm cX st)
      ∧ (∀ post : Int32 → SY → Prop, post b' (kc, (nI n), ad, nI (t + d), md', la', xn, xd, pe, lo, hi, cr, nx, pd', rY', dm', dn', cY', st') → wY_run_25 post (nI s) (d + 1) b (nI j) kc (nI n) ad (nI t) md la xn xd pe lo hi cr nx pd rY dm dn cY st) := by
  intro d
  induction d with
  | zero =>
    intro j hj t b md la st pd dn dm cX rX rY cY ht hL hC
    have hle : nI s ≤ nI j := nI_le (by omega) (by omega)
    exact ⟨b, md, la, pd, rX, rY, dn, dm, cX, cY, st, hL, hC, fun post h => br_t hle h, fun post h => br_t hle h⟩
  | succ d ih =>
    intro j hj t b md la st pd dn dm cX rX rY cY ht hL hC
    have hge : ¬ nI s ≤ nI j := nI_ge (by omega) (by omega)
    obtain ⟨md1, la1, r, pd1, rX1, rY1, dn1, dm1, cX1, cY1, st1, f1, f2, f3, f4, f5⟩ := kz_tick n t kc ad md la xn xd pe cr lo hi nx st pd dn dm cX rX rY cY hT hn (by omega) hL hC
    have et : t + 1 + d = t + (d + 1) := by omega
    rcases f3 with ⟨e1, e2⟩ | ⟨e1, e2⟩
    · obtain ⟨b', md', la', pd', rX', rY', dn', dm', cX', cY', st', g1, g2, g3, g4⟩ := ih (j + 1) (by omega) (t + 1) b md1 la1 st1 pd1 dn1 dm1 cX1 rX1 rY1 cY1 (by omega) f1 f2
      rw [et] at g1 g3 g4
      refine ⟨b', md', la', pd', rX', rY', dn', dm', cX', cY', st', g1, g2, fun post h => br_f hge (f4 _ ?_), fun post h => br_f hge (f5 _ ?_)⟩
      · exact br_t e1 (nm_r (nI_1 j) (g3 post h))
      · exact nm_r (by rw [e2, Int32.add_zero]) (nm_r (nI_1 j) (g4 post h))
    · obtain ⟨b', md', la', pd', rX', rY', dn', dm', cX', cY', st', g1, g2, g3, g4⟩ := ih (j + 1) (by omega) (t + 1) (b + 1) md1 la1 st1 pd1 dn1 dm1 cX1 rX1 rY1 cY1 (by omega) f1 f2
      rw [et] at g1 g3 g4
      refine ⟨b', md', la', pd', rX', rY', dn', dm', cX', cY', st', g1, g2, fun post h => br_f hge (f4 _ ?_), fun post h => br_f hge (f5 _ ?_)⟩
      · exact br_f e1 (nm_e (nm_r (nI_1 j) (g3 post h)))
      · exact nm_r (by rw [e2]) (nm_r (nI_1 j) (g4 post h))
end
section
/-! sums, the divisor, admission -/
theorem kz_term {n j s : Nat} {c : Int32} {cr A P : Nat → Int32} {a p : Nat} (ea : A j = nI a) (ep : P j = nI p) (h1 : 1 ≤ p) (hp : p ≤ 16) (ha : a ≤ 16) (hc : cr j = c) : nI s + A j * (720720 / P j) = nI (s + kz_u c cr A P j) := by
  unfold kz_u
  rw [if_pos hc, ea, ep, nI_clamp (by omega), nI_clamp (by omega), show (720720 : Int32) = nI 720720 from rfl, pk_div (by omega) (by omega) (by omega), pk_mul, nI_add]
theorem kz_term0 {j s : Nat} {c : Int32} {cr A P : Nat → Int32} (hc : ¬ cr j = c) : s + kz_u c cr A P j = s := by
  unfold kz_u
  rw [if_neg hc, Nat.add_zero]
theorem kz_T_lo {n i : Nat} {pe lo hi cr : Nat → Int32} (T : kz_T n pe lo hi cr) (h : i < n) : ∃ a, lo i = nI a ∧ a ≤ 16 := by
  obtain ⟨p, a, b, _, e, _, h1, h2, h3, h4, _⟩ := T i h
  exact ⟨a, e, by omega⟩
theorem kz_T_hi {n i : Nat} {pe lo hi cr : Nat → Int32} (T : kz_T n pe lo hi cr) (h : i < n) : ∃ a, hi i = nI a ∧ a ≤ 16 := by
  obtain ⟨p, a, b, _, _, e, h1, h2, h3, h4, _⟩ := T i h
  exact ⟨b, e, by omega⟩
theorem kz_xlo (n t : Nat) (kc ad md la xn xd : Int32) (pe cr lo hi nx : Nat → Int32) (pd dn dm cX st : Nat → Int32) (rX : Nat → Int64) (hT : kz_T n pe lo hi cr) (hn : n ≤ 8) (c : Int32) (post : Int32 → Prop) (hp : post (nI (kz_sum (kz_u c cr lo pe) n))) : ∀ d j, j + d = n → wX_utilSum__budgetLo_5 post c kc (nI n) ad (lN t) md la xn xd pe cr lo hi nx pd rX dn dm cX st (d + 1) (nI (kz_sum (kz_u c cr lo pe) j)) (nI j) := by
  intro d
  induction d with
  | zero =>
    intro j hj
    have e : j = n := by omega
    rw [e]
    exact br_t (nI_le (Nat.le_refl n) (by omega)) hp
  | succ d ih =>
    intro j hj
    have hj8 : j < 8 := by omega
    have hge : ¬ nI n ≤ nI j := nI_ge (by omega) (by omega)
    have hv := kz_v8 hj8
    have ec := kz_cl hj8
    obtain ⟨p, ep, hp1, hp16⟩ := kz_T_p hT (show j < n by omega)
    obtain ⟨a, ea, ha⟩ := kz_T_lo hT (show j < n by omega)
    have ih1 := ih (j + 1) (by omega)
    have es : kz_sum (kz_u c cr lo pe) (j + 1) = kz_sum (kz_u c cr lo pe) j + kz_u c cr lo pe j := rfl
    rw [es] at ih1
    have nY : ¬ pe (nI j).toNatClampNeg = 0 := by rw [ec, ep]; exact nI_ne0 (by omega) (by omega)
    by_cases z : cr j = c
    · have z' : cr (nI j).toNatClampNeg = c := by rw [ec]; exact z
      refine br_f hge ⟨hv, br_t z' ⟨hv, hv, nY, nm_r ?_ (nm_r (nI_1 j) ih1)⟩⟩
      rw [ec]
      exact kz_term (n := n) ea ep hp1 hp16 ha z
    · have z' : ¬ cr (nI j).toNatClampNeg = c := by rw [ec]; exact z
      rw [kz_term0 z] at ih1
      exact br_f hge ⟨hv, br_f z' (nm_r (nI_1 j) ih1)⟩
theorem kz_Xlo (n t : Nat) (kc ad md la xn xd : Int32) (pe cr lo hi nx : Nat → Int32) (pd dn dm cX st : Nat → Int32) (rX : Nat → Int64) (hT : kz_T n pe lo hi cr) (hn : n ≤ 8) (c : Int32) (post : Int32 → Prop) (hp : post (nI (kz_sum (kz_u c cr lo pe) n))) : wpX_utilSum__budgetLo post (kc, (nI n), ad, (lN t), md, la, xn, xd, pe, cr, lo, hi, nx, pd, rX, dn, dm, cX, st) c :=
  ⟨n + 1, kz_xlo n t kc ad md la xn xd pe cr lo hi nx pd dn dm cX st rX hT hn c post hp n 0 (by omega)⟩
theorem kz_xhi (n t : Nat) (kc ad md la xn xd : Int32) (pe cr lo hi nx : Nat → Int32) (pd dn dm cX st : Nat → Int32) (rX : Nat → Int64) (hT : kz_T n pe lo hi cr) (hn : n ≤ 8) (c : Int32) (post : Int32 → Prop) (hp : post (nI (kz_sum (kz_u c cr hi pe) n))) : ∀ d j, j + d = n → wX_utilSum__budgetHi_5 post c kc (nI n) ad (lN t) md la xn xd pe cr lo hi nx pd rX dn dm cX st (d + 1) (nI (kz_sum (kz_u c cr hi pe) j)) (nI j) := by
  intro d
  induction d with
  | zero =>
    intro j hj
    have e : j = n := by omega
    rw [e]
    exact br_t (nI_le (Nat.le_refl n) (by omega)) hp
  | succ d ih =>
    intro j hj
    have hj8 : j < 8 := by omega
    have hge : ¬ nI n ≤ nI j := nI_ge (by omega) (by omega)
    have hv := kz_v8 hj8
    have ec := kz_cl hj8
    obtain ⟨p, ep, hp1, hp16⟩ := kz_T_p hT (show j < n by omega)
    obtain ⟨a, ea, ha⟩ := kz_T_hi hT (show j < n by omega)
    have ih1 := ih (j + 1) (by omega)
    have es : kz_sum (kz_u c cr hi pe) (j + 1) = kz_sum (kz_u c cr hi pe) j + kz_u c cr hi pe j := rfl
    rw [es] at ih1
    have nY : ¬ pe (nI j).toNatClampNeg = 0 := by rw [ec, ep]; exact nI_ne0 (by omega) (by omega)
    by_cases z : cr j = c
    · have z' : cr (nI j).toNatClampNeg = c := by rw [ec]; exact z
      refine br_f hge ⟨hv, br_t z' ⟨hv, hv, nY, nm_r ?_ (nm_r (nI_1 j) ih1)⟩⟩
      rw [ec]
      exact kz_term (n := n) ea ep hp1 hp16 ha z
    · have z' : ¬ cr (nI j).toNatClampNeg = c := by rw [ec]; exact z
      rw [kz_term0 z] at ih1
      exact br_f hge ⟨hv, br_f z' (nm_r (nI_1 j) ih1)⟩
theorem kz_Xhi (n t : Nat) (kc ad md la xn xd : Int32) (pe cr lo hi nx : Nat → Int32) (pd dn dm cX st : Nat → Int32) (rX : Nat → Int64) (hT : kz_T n pe lo hi cr) (hn : n ≤ 8) (c : Int32) (post : Int32 → Prop) (hp : post (nI (kz_sum (kz_u c cr hi pe) n))) : wpX_utilSum__budgetHi post (kc, (nI n), ad, (lN t), md, la, xn, xd, pe, cr, lo, hi, nx, pd, rX, dn, dm, cX, st) c :=
  ⟨n + 1, kz_xhi n t kc ad md la xn xd pe cr lo hi nx pd dn dm cX st rX hT hn c post hp n 0 (by omega)⟩
theorem kz_y0 (n t : Nat) (kc ad md la xn xd : Int32) (pe cr lo hi nx : Nat → Int32) (pd dn dm cY st : Nat → Int32) (rY : Nat → Int32) (hT : kz_T n pe lo hi cr) (hn : n ≤ 8) (post : Int32 → Prop) (hp : post (nI (kz_sum (kz_u 0 cr lo pe) n))) : ∀ d j, j + d = n → wY_utilNum_15 post 0 kc (nI n) ad (nI t) md la xn xd pe lo hi cr nx pd rY dm dn cY st (d + 1) (nI (kz_sum (kz_u 0 cr lo pe) j)) (nI j) := by
  intro d
  induction d with
  | zero =>
    intro j hj
    have e : j = n := by omega
    rw [e]
    exact br_t (nI_le (Nat.le_refl n) (by omega)) hp
  | succ d ih =>
    intro j hj
    have hj8 : j < 8 := by omega
    have hge : ¬ nI n ≤ nI j := nI_ge (by omega) (by omega)
    have hv := kz_v8 hj8
    have ec := kz_cl hj8
    obtain ⟨p, ep, hp1, hp16⟩ := kz_T_p hT (show j < n by omega)
    obtain ⟨a, ea, ha⟩ := kz_T_lo hT (show j < n by omega)
    have ih1 := ih (j + 1) (by omega)
    have es : kz_sum (kz_u 0 cr lo pe) (j + 1) = kz_sum (kz_u 0 cr lo pe) j + kz_u 0 cr lo pe j := rfl
    rw [es] at ih1
    have nY : ¬ pe (nI j).toNatClampNeg = 0 := by rw [ec, ep]; exact nI_ne0 (by omega) (by omega)
    by_cases z : cr j = 0
    · have z' : cr (nI j).toNatClampNeg = 0 := by rw [ec]; exact z
      have q : nI (kz_sum (kz_u 0 cr lo pe) j) + lo (nI j).toNatClampNeg * (720720 / pe (nI j).toNatClampNeg) = nI (kz_sum (kz_u 0 cr lo pe) j + kz_u 0 cr lo pe j) := by
        rw [ec]; exact kz_term (n := n) ea ep hp1 hp16 ha z
      refine br_f hge ⟨hv, nY, nm_e ?_⟩
      exact br_t rfl ⟨hv, br_t z' ⟨hv, nm_r q (br_f (by decide) (br_f (by decide) (nm_r (nI_1 j) ih1)))⟩⟩
    · have z' : ¬ cr (nI j).toNatClampNeg = 0 := by rw [ec]; exact z
      rw [kz_term0 z] at ih1
      refine br_f hge ⟨hv, nY, nm_e ?_⟩
      exact br_t rfl ⟨hv, br_f z' (br_f (by decide) (br_f (by decide) (nm_r (nI_1 j) ih1)))⟩
theorem kz_Y0 (n t : Nat) (kc ad md la xn xd : Int32) (pe cr lo hi nx : Nat → Int32) (pd dn dm cY st : Nat → Int32) (rY : Nat → Int32) (hT : kz_T n pe lo hi cr) (hn : n ≤ 8) (post : Int32 → Prop) (hp : post (nI (kz_sum (kz_u 0 cr lo pe) n))) : wpY_utilNum post (kc, (nI n), ad, (nI t), md, la, xn, xd, pe, lo, hi, cr, nx, pd, rY, dm, dn, cY, st) 0 :=
  br_f (by decide) (br_t (by decide) ⟨n + 1, kz_y0 n t kc ad md la xn xd pe cr lo hi nx pd dn dm cY st rY hT hn post hp n 0 (by omega)⟩)
theorem kz_y1 (n t : Nat) (kc ad md la xn xd : Int32) (pe cr lo hi nx : Nat → Int32) (pd dn dm cY st : Nat → Int32) (rY : Nat → Int32) (hT : kz_T n pe lo hi cr) (hn : n ≤ 8) (post : Int32 → Prop) (hp : post (nI (kz_sum (kz_u 1 cr lo pe) n))) : ∀ d j, j + d = n → wY_utilNum_15 post 1 kc (nI n) ad (nI t) md la xn xd pe lo hi cr nx pd rY dm dn cY st (d + 1) (nI (kz_sum (kz_u 1 cr lo pe) j)) (nI j) := by
  intro d
  induction d with
  | zero =>
    intro j hj
    have e : j = n := by omega
    rw [e]
    exact br_t (nI_le (Nat.le_refl n) (by omega)) hp
  | succ d ih =>
    intro j hj
    have hj8 : j < 8 := by omega
    have hge : ¬ nI n ≤ nI j := nI_ge (by omega) (by omega)
    have hv := kz_v8 hj8
    have ec := kz_cl hj8
    obtain ⟨p, ep, hp1, hp16⟩ := kz_T_p hT (show j < n by omega)
    obtain ⟨a, ea, ha⟩ := kz_T_lo hT (show j < n by omega)
    have ih1 := ih (j + 1) (by omega)
    have es : kz_sum (kz_u 1 cr lo pe) (j + 1) = kz_sum (kz_u 1 cr lo pe) j + kz_u 1 cr lo pe j := rfl
    rw [es] at ih1
    have nY : ¬ pe (nI j).toNatClampNeg = 0 := by rw [ec, ep]; exact nI_ne0 (by omega) (by omega)
    by_cases z : cr j = 1
    · have z' : cr (nI j).toNatClampNeg = 1 := by rw [ec]; exact z
      have q : nI (kz_sum (kz_u 1 cr lo pe) j) + lo (nI j).toNatClampNeg * (720720 / pe (nI j).toNatClampNeg) = nI (kz_sum (kz_u 1 cr lo pe) j + kz_u 1 cr lo pe j) := by
        rw [ec]; exact kz_term (n := n) ea ep hp1 hp16 ha z
      refine br_f hge ⟨hv, nY, nm_e ?_⟩
      exact br_f (by decide) (br_t rfl ⟨hv, br_t z' ⟨hv, nm_r q (br_f (by decide) (nm_r (nI_1 j) ih1))⟩⟩)
    · have z' : ¬ cr (nI j).toNatClampNeg = 1 := by rw [ec]; exact z
      rw [kz_term0 z] at ih1
      refine br_f hge ⟨hv, nY, nm_e ?_⟩
      exact br_f (by decide) (br_t rfl ⟨hv, br_f z' (br_f (by decide) (nm_r (nI_1 j) ih1))⟩)
theorem kz_Y1 (n t : Nat) (kc ad md la xn xd : Int32) (pe cr lo hi nx : Nat → Int32) (pd dn dm cY st : Nat → Int32) (rY : Nat → Int32) (hT : kz_T n pe lo hi cr) (hn : n ≤ 8) (post : Int32 → Prop) (hp : post (nI (kz_sum (kz_u 1 cr lo pe) n))) : wpY_utilNum post (kc, (nI n), ad, (nI t), md, la, xn, xd, pe, lo, hi, cr, nx, pd, rY, dm, dn, cY, st) 1 :=
  br_f (by decide) (br_t (by decide) ⟨n + 1, kz_y1 n t kc ad md la xn xd pe cr lo hi nx pd dn dm cY st rY hT hn post hp n 0 (by omega)⟩)
theorem kz_y2 (n t : Nat) (kc ad md la xn xd : Int32) (pe cr lo hi nx : Nat → Int32) (pd dn dm cY st : Nat → Int32) (rY : Nat → Int32) (hT : kz_T n pe lo hi cr) (hn : n ≤ 8) (post : Int32 → Prop) (hp : post (nI (kz_sum (kz_u 1 cr hi pe) n))) : ∀ d j, j + d = n → wY_utilNum_15 post 2 kc (nI n) ad (nI t) md la xn xd pe lo hi cr nx pd rY dm dn cY st (d + 1) (nI (kz_sum (kz_u 1 cr hi pe) j)) (nI j) := by
  intro d
  induction d with
  | zero =>
    intro j hj
    have e : j = n := by omega
    rw [e]
    exact br_t (nI_le (Nat.le_refl n) (by omega)) hp
  | succ d ih =>
    intro j hj
    have hj8 : j < 8 := by omega
    have hge : ¬ nI n ≤ nI j := nI_ge (by omega) (by omega)
    have hv := kz_v8 hj8
    have ec := kz_cl hj8
    obtain ⟨p, ep, hp1, hp16⟩ := kz_T_p hT (show j < n by omega)
    obtain ⟨a, ea, ha⟩ := kz_T_hi hT (show j < n by omega)
    have ih1 := ih (j + 1) (by omega)
    have es : kz_sum (kz_u 1 cr hi pe) (j + 1) = kz_sum (kz_u 1 cr hi pe) j + kz_u 1 cr hi pe j := rfl
    rw [es] at ih1
    have nY : ¬ pe (nI j).toNatClampNeg = 0 := by rw [ec, ep]; exact nI_ne0 (by omega) (by omega)
    by_cases z : cr j = 1
    · have z' : cr (nI j).toNatClampNeg = 1 := by rw [ec]; exact z
      have q : nI (kz_sum (kz_u 1 cr hi pe) j) + hi (nI j).toNatClampNeg * (720720 / pe (nI j).toNatClampNeg) = nI (kz_sum (kz_u 1 cr hi pe) j + kz_u 1 cr hi pe j) := by
        rw [ec]; exact kz_term (n := n) ea ep hp1 hp16 ha z
      refine br_f hge ⟨hv, nY, nm_e ?_⟩
      exact br_f (by decide) (br_f (by decide) (br_t rfl ⟨hv, br_t z' ⟨hv, nm_r q (nm_r (nI_1 j) ih1)⟩⟩))
    · have z' : ¬ cr (nI j).toNatClampNeg = 1 := by rw [ec]; exact z
      rw [kz_term0 z] at ih1
      refine br_f hge ⟨hv, nY, nm_e ?_⟩
      exact br_f (by decide) (br_f (by decide) (br_t rfl ⟨hv, br_f z' (nm_r (nI_1 j) ih1)⟩))
theorem kz_Y2 (n t : Nat) (kc ad md la xn xd : Int32) (pe cr lo hi nx : Nat → Int32) (pd dn dm cY st : Nat → Int32) (rY : Nat → Int32) (hT : kz_T n pe lo hi cr) (hn : n ≤ 8) (post : Int32 → Prop) (hp : post (nI (kz_sum (kz_u 1 cr hi pe) n))) : wpY_utilNum post (kc, (nI n), ad, (nI t), md, la, xn, xd, pe, lo, hi, cr, nx, pd, rY, dm, dn, cY, st) 2 :=
  br_f (by decide) (br_t (by decide) ⟨n + 1, kz_y2 n t kc ad md la xn xd pe cr lo hi nx pd dn dm cY st rY hT hn post hp n 0 (by omega)⟩)
theorem kz_l0 {b : Nat} (h : b < 2 ^ 31) (h0 : ¬ b = 0) : ¬ lN b = 0 := by
  rw [show (0 : Int64) = lN 0 from rfl, lN_eq h (by omega)]; exact h0
theorem kz_euc (post : Int64 → Prop) : ∀ m a b r : Nat, b < 2 ^ m → a < 2 ^ 31 → b < 2 ^ 31 → r + 2 * m ≤ 1000 → post (lN (Nat.gcd a b)) → ∀ fu, 2 * m + 1 ≤ fu → wX_commonDivisor_9 post fu (lN a) (lN b) (nI r) := by
  have fin : ∀ (a r fu : Nat), post (lN a) → 1 ≤ fu → wX_commonDivisor_9 post fu (lN a) (lN 0) (nI r) := by
    intro a r fu h hf
    obtain ⟨f, rfl⟩ : ∃ f, fu = f + 1 := ⟨fu - 1, by omega⟩
    exact br_c (fun _ => h) (fun _ => br_t rfl h)
  intro m
  induction m with
  | zero =>
    intro a b r hb ha hb2 hr h fu hf
    have e : b = 0 := by omega
    subst e
    rw [Nat.gcd_zero_right] at h
    exact fin a r fu h (by omega)
  | succ m ih =>
    intro a b r hb ha hb2 hr h fu hf
    by_cases z : b = 0
    · subst z
      rw [Nat.gcd_zero_right] at h
      exact fin a r fu h (by omega)
    · obtain ⟨f, rfl⟩ : ∃ f, fu = f + 2 := ⟨fu - 2, by omega⟩
      have g1 : ¬ (1000 : Int32) ≤ nI r := nI_ge (b := 1000) (by omega) (by decide)
      refine br_f g1 (br_f (kz_l0 hb2 z) ⟨kz_l0 hb2 z, nm_r (pk_lRem (by omega) (by omega) (by omega)) (nm_r (nI_1 r) ?_)⟩)
      rw [kz_gstep] at h
      have l1 := Nat.mod_lt a (show 0 < b by omega)
      by_cases w : a % b = 0
      · rw [w] at h ⊢
        rw [Nat.gcd_zero_right] at h
        exact fin b (r + 1) (f + 1) h (by omega)
      · have g2 : ¬ (1000 : Int32) ≤ nI (r + 1) := nI_ge (b := 1000) (by omega) (by decide)
        have w2 : a % b < 2 ^ 31 := by omega
        refine br_f g2 (br_f (kz_l0 w2 w) ⟨kz_l0 w2 w, nm_r (pk_lRem (by omega) (by omega) (by omega)) (nm_r (nI_1 (r + 1)) ?_)⟩)
        have l2 := kz_half (show 0 < a % b by omega) l1
        have l3 := Nat.mod_lt b (show 0 < a % b by omega)
        rw [kz_gstep] at h
        have hb' : b < 2 * 2 ^ m := by rw [Nat.pow_succ] at hb; omega
        exact ih (a % b) (b % (a % b)) (r + 2) (by omega) w2 (by omega) (by omega) h f (by omega)
theorem kz_gcd {a b : Nat} (ha : a ≤ 720720) (hb : b ≤ 720720) (post : Int64 → Prop) (h : post (lN (Nat.gcd a b))) : wpX_commonDivisor post (lN a) (lN b) :=
  ⟨41, kz_euc post 20 a b 0 (by omega) (by omega) (by omega) (by omega) h 41 (by omega)⟩
theorem kz_tri (n t : Nat) (kc ad md la xn xd : Int32) (pe cr lo hi nx : Nat → Int32) (pd dn dm cY st : Nat → Int32) (rY : Nat → Int32) (x9 : Int32) (a b : Nat) (ha : 1 ≤ a) (hb : 1 ≤ b) (ha2 : a ≤ 720720) (hb2 : b ≤ 720720) (post : Int32 → SY → Prop) (h : wY_admit_168 post x9 (nI a) (nI b) (nI (Nat.gcd a b)) kc (nI n) ad (nI t) md la xn xd pe lo hi cr nx pd rY dm dn cY st) : ∀ k, Nat.gcd a b + k ≤ 720720 → wY_admit_133 post x9 (nI a) (nI b) 1 kc (nI n) ad (nI t) md la xn xd pe lo hi cr nx pd rY dm dn cY st (k + 1) (nI (Nat.gcd a b + k)) := by
  have hg := kz_gpos (b := b) (show 0 < a by omega)
  intro k
  induction k with
  | zero =>
    intro hk
    have hm := kz_gmod a b
    have n1 : ¬ nI (Nat.gcd a b) < 1 := nI_nlt (b := 1) (by omega) (by omega)
    have n0 : ¬ nI (Nat.gcd a b) = 0 := nI_ne0 hg (by omega)
    have qa : nI a - nI a / nI (Nat.gcd a b) * nI (Nat.gcd a b) = 0 := by rw [pk_rem (by omega) hg (by omega), hm.1]; rfl
    have qb : nI b - nI b / nI (Nat.gcd a b) * nI (Nat.gcd a b) = 0 := by rw [pk_rem (by omega) hg (by omega), hm.2]; rfl
    exact br_f n1 ⟨n0, br_t qa ⟨n0, br_t qb h⟩⟩
  | succ k ih =>
    intro hk
    have ih1 := ih (by omega)
    have n1 : ¬ nI (Nat.gcd a b + (k + 1)) < 1 := nI_nlt (b := 1) (by omega) (by omega)
    have n0 : ¬ nI (Nat.gcd a b + (k + 1)) = 0 := nI_ne0 (by omega) (by omega)
    have em : nI (Nat.gcd a b + (k + 1)) + (-1) = nI (Nat.gcd a b + k) := pk_m1 (Nat.gcd a b + k)
    have qa : (nI a - nI a / nI (Nat.gcd a b + (k + 1)) * nI (Nat.gcd a b + (k + 1)) = 0) ↔ a % (Nat.gcd a b + (k + 1)) = 0 := by
      have hl := Nat.mod_le a (Nat.gcd a b + (k + 1))
      rw [pk_rem (by omega) (by omega) (by omega), show (0 : Int32) = nI 0 from rfl, nI_eq (by omega) (by omega)]
    have qb : (nI b - nI b / nI (Nat.gcd a b + (k + 1)) * nI (Nat.gcd a b + (k + 1)) = 0) ↔ b % (Nat.gcd a b + (k + 1)) = 0 := by
      have hl := Nat.mod_le b (Nat.gcd a b + (k + 1))
      rw [pk_rem (by omega) (by omega) (by omega), show (0 : Int32) = nI 0 from rfl, nI_eq (by omega) (by omega)]
    have no := kz_gtop (a := a) (b := b) (d := Nat.gcd a b + (k + 1)) (by omega) (by omega)
    by_cases w : a % (Nat.gcd a b + (k + 1)) = 0
    · exact br_f n1 ⟨n0, br_t (qa.mpr w) ⟨n0, br_f (fun q => no ⟨w, qb.mp q⟩) (nm_r em ih1)⟩⟩
    · exact br_f n1 ⟨n0, br_f (fun q => w (qa.mp q)) (nm_r em ih1)⟩
/-- a fresh kernel is admitted with x = p / q -/
theorem kz_start (n t : Nat) (kc ad md la xn xd : Int32) (pe cr lo hi nx : Nat → Int32) (pd dn dm cX st : Nat → Int32) (rX : Nat → Int64) (rY cY : Nat → Int32) (hT : kz_T n pe lo hi cr) (hn : n ≤ 8) (ht : t < 2 ^ 31) (hL : kz_L t rX rY) (hC : kz_C cX cY) (hm : md = 0) (p q : Nat) (hp : 1 ≤ p) (hq : 1 ≤ q) (hp2 : p ≤ 720720) (hq2 : q ≤ 720720) :
    ∃ (xn' xd' : Int32) (pd' : Nat → Int32) (rX' : Nat → Int64) (rY' dn' dm' cX' cY' : Nat → Int32), kz_L t rX' rY' ∧ kz_C cX' cY'
      ∧ (∀ post : SX → Prop, post (kc, (nI n), 1, (lN t), md, la, xn', xd', pe, cr, lo, hi, nx, pd', rX', dn', dm', cX', st) → wpX_start post (kc, (nI n), ad, (lN t), md, la, xn, xd, pe, cr, lo, hi, nx, pd, rX, dn, dm, cX, st) (lN p) (lN q))
      ∧ (∀ (post : Int32 → SY → Prop) (x9 : Int32), post x9 (kc, (nI n), 1, (nI t), md, la, xn', xd', pe, lo, hi, cr, nx, pd', rY', dm', dn', cY', st) → wY_admit_110 post x9 (nI p) (nI q) kc (nI n) ad (nI t) md la xn xd pe lo hi cr nx pd rY dm dn cY st) := by
  subst hm
  have hg := kz_gpos (b := q) (show 0 < p by omega)
  have hgl := kz_gle (show 0 < p by omega) (show 0 < q by omega)
  obtain ⟨pd', rX', rY', dn', dm', cX', cY', b1, b2, b3, b4⟩ := kz_release n t kc 1 0 la (nI (p / Nat.gcd p q)) (nI (q / Nat.gcd p q)) pe cr lo hi nx st hT hn ht pd rX rY dn dm cX cY hL hC
  refine ⟨nI (p / Nat.gcd p q), nI (q / Nat.gcd p q), pd', rX', rY', dn', dm', cX', cY', b1, b2, fun post h => ?_, fun post x9 h => ?_⟩
  · have g0 : ¬ lN (Nat.gcd p q) = 0 := kz_l0 (by omega) (by omega)
    have e1 : (lN p / lN (Nat.gcd p q)).toInt32 = nI (p / Nat.gcd p q) := by rw [pk_lDiv (by omega) hg (by omega), lN_i]
    have e2 : (lN q / lN (Nat.gcd p q)).toInt32 = nI (q / Nat.gcd p q) := by rw [pk_lDiv (by omega) hg (by omega), lN_i]
    exact kz_gcd hp2 hq2 _ ⟨g0, nm_r e1 ⟨g0, nm_r e2 (b3 _ h)⟩⟩
  · have g0 : ¬ nI (Nat.gcd p q) = 0 := nI_ne0 hg (by omega)
    have k : wY_admit_168 post x9 (nI p) (nI q) (nI (Nat.gcd p q)) kc (nI n) ad (nI t) 0 la xn xd pe lo hi cr nx pd rY dm dn cY st :=
      ⟨g0, nm_r (pk_div (by omega) hg (by omega)) ⟨g0, nm_r (pk_div (by omega) hg (by omega)) (b4 _ h)⟩⟩
    have tri := kz_tri n t kc ad 0 la xn xd pe cr lo hi nx pd dn dm cY st rY x9 p q hp hq hp2 hq2 post k
    by_cases w : q ≤ p
    · refine br_t (nI_le w (by omega)) ⟨q - Nat.gcd p q + 1, ?_⟩
      have h1 := tri (q - Nat.gcd p q) (by omega)
      rw [show Nat.gcd p q + (q - Nat.gcd p q) = q from by omega] at h1
      exact h1
    · refine br_f (nI_ge (by omega) (by omega)) ⟨p - Nat.gcd p q + 1, ?_⟩
      have h1 := tri (p - Nat.gcd p q) (by omega)
      rw [show Nat.gcd p q + (p - Nat.gcd p q) = p from by omega] at h1
      exact h1
end
section
/-! the relation, and what is owed -/
def i_Rel (k : Nat) (u : SX) (v : SY) : Prop := ∃ (c n t : Nat) (ad md la xn xd : Int32) (pe cr lo hi nx pd : Nat → Int32) (rX : Nat → Int64) (rY dn dm cX cY st : Nat → Int32),
  u = (nI c, (nI n), ad, (lN t), md, la, xn, xd, pe, cr, lo, hi, nx, pd, rX, dn, dm, cX, st) ∧ v = (nI c, (nI n), ad, (nI t), md, la, xn, xd, pe, lo, hi, cr, nx, pd, rY, dm, dn, cY, st) ∧ c ≤ 8 ∧ n ≤ c ∧ t ≤ 200 * k ∧ kz_T n pe lo hi cr ∧ kz_L t rX rY ∧ kz_C cX cY
  ∧ (ad = 0 → t = 0 ∧ md = 0 ∧ pd = (fun _ => 0) ∧ rX = (fun _ => 0) ∧ rY = (fun _ => 0) ∧ dn = (fun _ => 0) ∧ dm = (fun _ => 0) ∧ cX = (fun _ => 0) ∧ cY = (fun _ => 0))
theorem i_up {k : Nat} {u : SX} {v : SY} (h : i_Rel k u v) : i_Rel (k + 5) u v := by
  obtain ⟨c, n, t, ad, md, la, xn, xd, pe, cr, lo, hi, nx, pd, rX, rY, dn, dm, cX, cY, st, e1, e2, h1, h2, h3, h4⟩ := h
  exact ⟨c, n, t, ad, md, la, xn, xd, pe, cr, lo, hi, nx, pd, rX, rY, dn, dm, cX, cY, st, e1, e2, h1, h2, by omega, h4⟩
theorem kz_fresh (c : Nat) (hc : c ≤ 8) : i_Rel 1 (nI c, 0, 0, 0, 0, (-1), 0, 0, (fun _ => 0), (fun _ => 0), (fun _ => 0), (fun _ => 0), (fun _ => 0), (fun _ => 0), (fun _ => 0), (fun _ => 0), (fun _ => 0), (fun _ => 0), (fun _ => 0)) (nI c, 0, 0, 0, 0, (-1), 0, 0, (fun _ => 0), (fun _ => 0), (fun _ => 0), (fun _ => 0), (fun _ => 0), (fun _ => 0), (fun _ => 0), (fun _ => 0), (fun _ => 0), (fun _ => 0), (fun _ => 0)) :=
  ⟨c, 0, 0, 0, 0, -1, 0, 0, (fun _ => 0), (fun _ => 0), (fun _ => 0), (fun _ => 0), (fun _ => 0), (fun _ => 0), (fun _ => 0), (fun _ => 0), (fun _ => 0), (fun _ => 0), (fun _ => 0), (fun _ => 0), (fun _ => 0), rfl, rfl, hc, Nat.zero_le c, Nat.zero_le _, kz_T_0, kz_L_0, fun _ _ _ _ => rfl, fun _ => ⟨rfl, rfl, rfl, rfl, rfl, rfl, rfl, rfl, rfl⟩⟩
theorem i_vc0 (k0 : Int32) : wpX_init (fun u => wpY_init (fun v => i_Rel 1 u v) k0) k0 := by
  by_cases h1 : 1 ≤ k0
  · by_cases h8 : k0 ≤ 8
    · obtain ⟨j, hj, e⟩ := nI_of2 (x := k0) (M := 8) (n := 8) (by decide) (Int32.not_lt.mpr (Int32.le_trans (by decide) h1)) h8
      refine br_t h1 (br_t h8 (br_t h1 (br_t h8 ?_)))
      rw [e]
      exact kz_fresh j hj
    · exact br_t h1 (br_f h8 (br_t h1 (br_f h8 (kz_fresh 8 (by omega)))))
  · exact br_f h1 (br_f h1 (kz_fresh 1 (by omega)))
theorem kz_num {x : Int32} (h : ¬ x < 1) : ∃ p : Nat, p < 2 ^ 31 ∧ x = nI p ∧ 1 ≤ p := by
  obtain ⟨p, hp, e⟩ := nI_of (x := x) (fun z => h (Int32.lt_trans z (by decide)))
  refine ⟨p, hp, e, ?_⟩
  by_cases z : p = 0
  · subst z; subst e; exact absurd (by decide) h
  · omega
theorem kz_nar0 : vp_nar .boolean 0 = 0 := by decide
/-- is it a task: both sides say the same -/
theorem kz_it (n t : Nat) (kc ad md la xn xd : Int32) (pe cr lo hi nx : Nat → Int32) (c : Nat) (pd rY dn dm cY st : Nat → Int32) (ha : ad = 0) (hn : n < c) (hc : c ≤ 8) (v1 v2 v3 v4 : Int32) :
    ((∀ post : Int32 → Prop, post 0 → wpX_isTask post v1 v2 v3 v4) ∧ (∀ post : Int32 → SY → Prop, post (-1) (nI c, (nI n), ad, (nI t), md, la, xn, xd, pe, lo, hi, cr, nx, pd, rY, dm, dn, cY, st) → wpY_addTask post (nI c, (nI n), ad, (nI t), md, la, xn, xd, pe, lo, hi, cr, nx, pd, rY, dm, dn, cY, st) v1 v2 v3 v4))
    ∨ ((∀ post : Int32 → Prop, post 1 → wpX_isTask post v1 v2 v3 v4) ∧ (∀ post : Int32 → SY → Prop, wY_addTask_78 post v1 v2 v3 v4 (nI c) (nI n) ad (nI t) md la xn xd pe lo hi cr nx pd rY dm dn cY st → wpY_addTask post (nI c, (nI n), ad, (nI t), md, la, xn, xd, pe, lo, hi, cr, nx, pd, rY, dm, dn, cY, st) v1 v2 v3 v4)
      ∧ ((v4 = 1 ∧ kz_T1 v1 v2 v3 v4) ∨ (¬ v4 = 1 ∧ kz_T1 v1 v2 v2 v4))) := by
  have hnc : ¬ nI n = nI c := by rw [nI_eq (by omega) (by omega)]; omega
  by_cases h0 : v4 = 0
  · have h01 : ¬ v4 = 1 := by rw [h0]; decide
    by_cases a1 : v1 < 1
    · exact Or.inl ⟨fun post h => br_t h0 (br_t a1 h), fun post h => br_t ha (br_f hnc (br_t h0 (br_t a1 h)))⟩
    · by_cases a2 : 16 < v1
      · exact Or.inl ⟨fun post h => br_t h0 (br_f a1 (br_t a2 h)), fun post h => br_t ha (br_f hnc (br_t h0 (br_f a1 (br_f (Int32.not_le.mpr a2) h))))⟩
      · have a2' : v1 ≤ 16 := Int32.not_lt.mp a2
        by_cases a3 : v2 < 1
        · exact Or.inl ⟨fun post h => br_t h0 (br_f a1 (br_f a2 (br_t a3 h))), fun post h => br_t ha (br_f hnc (br_t h0 (br_f a1 (br_t a2' (br_t a3 h)))))⟩
        · by_cases a4 : v2 ≤ v1
          · refine Or.inr ⟨fun post h => br_t h0 (br_f a1 (br_f a2 (br_f a3 (br_t a4 (br_t h0 h))))), fun post h => br_t ha (br_f hnc (br_t h0 (br_f a1 (br_t a2' (br_f a3 (br_t a4 (br_f h01 h))))))), Or.inr ⟨h01, ?_⟩⟩
            obtain ⟨p, p1, p2, p3⟩ := kz_num a1
            obtain ⟨q, q1, q2, q3⟩ := kz_num a3
            rw [p2, q2, nI_leI q1 p1] at a4
            rw [p2, show (16 : Int32) = nI 16 from rfl, nI_leI p1 (by omega)] at a2'
            exact ⟨p, q, q, p2, q2, q2, q3, Nat.le_refl q, a4, a2', Or.inl ⟨h0, rfl⟩⟩
          · exact Or.inl ⟨fun post h => br_t h0 (br_f a1 (br_f a2 (br_f a3 (br_f a4 h)))), fun post h => br_t ha (br_f hnc (br_t h0 (br_f a1 (br_t a2' (br_f a3 (br_f a4 h))))))⟩
  · by_cases h1 : v4 = 1
    · by_cases a1 : v1 < 1
      · exact Or.inl ⟨fun post h => br_f h0 (br_t h1 (br_t a1 h)), fun post h => br_t ha (br_f hnc (br_f h0 (br_t h1 (br_t a1 h))))⟩
      · by_cases a2 : 16 < v1
        · exact Or.inl ⟨fun post h => br_f h0 (br_t h1 (br_f a1 (br_t a2 h))), fun post h => br_t ha (br_f hnc (br_f h0 (br_t h1 (br_f a1 (br_f (Int32.not_le.mpr a2) h)))))⟩
        · have a2' : v1 ≤ 16 := Int32.not_lt.mp a2
          by_cases a3 : v2 < 1
          · exact Or.inl ⟨fun post h => br_f h0 (br_t h1 (br_f a1 (br_f a2 (br_t a3 h)))), fun post h => br_t ha (br_f hnc (br_f h0 (br_t h1 (br_f a1 (br_t a2' (br_t a3 h))))))⟩
          · by_cases a4 : v2 ≤ v1
            · by_cases a5 : v3 < v2
              · exact Or.inl ⟨fun post h => br_f h0 (br_t h1 (br_f a1 (br_f a2 (br_f a3 (br_t a4 (br_f h0 (br_t a5 h))))))), fun post h => br_t ha (br_f hnc (br_f h0 (br_t h1 (br_f a1 (br_t a2' (br_f a3 (br_t a4 (br_t h1 (br_t a5 h)))))))))⟩
              · by_cases a6 : v1 < v3
                · exact Or.inl ⟨fun post h => br_f h0 (br_t h1 (br_f a1 (br_f a2 (br_f a3 (br_t a4 (br_f h0 (br_f a5 (br_t a6 h)))))))), fun post h => br_t ha (br_f hnc (br_f h0 (br_t h1 (br_f a1 (br_t a2' (br_f a3 (br_t a4 (br_t h1 (br_f a5 (br_f (Int32.not_le.mpr a6) h))))))))))⟩
                · have a6' : v3 ≤ v1 := Int32.not_lt.mp a6
                  refine Or.inr ⟨fun post h => br_f h0 (br_t h1 (br_f a1 (br_f a2 (br_f a3 (br_t a4 (br_f h0 (br_f a5 (br_f a6 h)))))))), fun post h => br_t ha (br_f hnc (br_f h0 (br_t h1 (br_f a1 (br_t a2' (br_f a3 (br_t a4 (br_t h1 (br_f a5 (br_t a6' h)))))))))), Or.inl ⟨h1, ?_⟩⟩
                  obtain ⟨p, p1, p2, p3⟩ := kz_num a1
                  obtain ⟨q, q1, q2, q3⟩ := kz_num a3
                  have a5' : v2 ≤ v3 := Int32.not_lt.mp a5
                  obtain ⟨s, s1, s2, s3⟩ := kz_num (x := v3) (fun z => a3 (Int32.lt_of_le_of_lt a5' z))
                  rw [q2, s2, nI_leI q1 s1] at a5'
                  rw [p2, s2, nI_leI s1 p1] at a6'
                  rw [p2, show (16 : Int32) = nI 16 from rfl, nI_leI p1 (by omega)] at a2'
                  exact ⟨p, q, s, p2, q2, s2, q3, a5', a6', a2', Or.inr h1⟩
            · exact Or.inl ⟨fun post h => br_f h0 (br_t h1 (br_f a1 (br_f a2 (br_f a3 (br_f a4 h))))), fun post h => br_t ha (br_f hnc (br_f h0 (br_t h1 (br_f a1 (br_t a2' (br_f a3 (br_f a4 h)))))))⟩
    · exact Or.inl ⟨fun post h => br_f h0 (br_f h1 h), fun post h => br_t ha (br_f hnc (br_f h0 (br_f h1 h)))⟩
theorem kz_z6 (n t : Nat) (kc ad md la xn xd : Int32) (pe cr lo hi nx : Nat → Int32) (pd rY dn dm st : Nat → Int32) (hn : n < 8) (post : Int32 → SY → Prop) (h : post (nI n) (kc, nI (n + 1), ad, (nI t), md, la, xn, xd, pe, lo, hi, cr, nx, pd, rY, dm, dn, (fun _ => 0), st)) : ∀ d j, j + d = 6 → wY_addTask_170 post (nI n) kc (nI n) ad (nI t) md la xn xd (d + 1) (nI j) pe lo hi cr nx pd rY dm dn (fun _ => 0) st := by
  intro d
  induction d with
  | zero =>
    intro j hj
    have e : j = 6 := by omega
    subst e
    exact br_t (by decide) (nm_r (nI_1 n) h)
  | succ d ih =>
    intro j hj
    have h6 : ¬ (6 : Int32) ≤ nI j := nI_ge (b := 6) (by omega) (by decide)
    have hv := kz_yv (k := j) (j := n) (by omega) hn
    exact br_f h6 ⟨hv, nm_r (kz_ud0 _) (nm_r (nI_1 j) (ih (j + 1) (by omega)))⟩
theorem i_vc_addTask {k : Nat} {u : SX} {v : SY} (I : i_Rel k u v) (hk : k + 5 ≤ 2561) (v1 : Int32) (v2 : Int32) (v3 : Int32) (v4 : Int32) : wpX_addTask (fun r u' => wpY_addTask (fun r' v' => r' = r ∧ i_Rel (k + 5) u' v') v v1 v2 v3 v4) u v1 v2 v3 v4 := by
  have J := i_up I
  obtain ⟨c, n, t, ad, md, la, xn, xd, pe, cr, lo, hi, nx, pd, rX, rY, dn, dm, cX, cY, st, rfl, rfl, h1, h2, h3, h4, h5, h6, h7⟩ := I
  by_cases ha : ad = 0
  · by_cases e : n = c
    · subst e
      exact br_t ha (br_t (kz_nle h1) (br_t ha (br_t rfl ⟨rfl, J⟩)))
    · have hge : ¬ nI c ≤ nI n := nI_ge (by omega) (by omega)
      have hn8 : n < 8 := by omega
      have hv := kz_v8 hn8
      have ec := kz_cl hn8
      refine br_t ha (br_f hge ?_)
      rcases kz_it n t (nI c) ad md la xn xd pe cr lo hi nx c pd rY dn dm cY st ha (by omega) h1 v1 v2 v3 v4 with ⟨g1, g2⟩ | ⟨g1, g2, g3⟩
      · exact g1 _ (br_t rfl (g2 _ ⟨rfl, J⟩))
      · obtain ⟨f1, f2, f3, f4, f5, f6, f7, f8, f9⟩ := h7 ha
        subst f1; subst f2; subst f3; subst f4; subst f5; subst f6; subst f7; subst f8; subst f9
        refine g1 _ (br_f (by decide) ⟨hv, ?_⟩)
        rw [ec]
        refine nm_e ⟨hv, nm_e ⟨hv, nm_e ?_⟩⟩
        rcases g3 with ⟨w, hT1⟩ | ⟨w, hT1⟩
        · refine br_t w ⟨hv, ?_⟩
          rw [ec]
          refine nm_e ⟨hv, nm_e (nm_r (nI_1 n) (g2 _ ⟨hv, ?_⟩))⟩
          rw [ec]
          refine nm_e ⟨hv, nm_e (br_t w ⟨hv, ?_⟩)⟩
          rw [ec]
          refine nm_e ⟨hv, nm_e ⟨hv, nm_e ⟨hv, nm_r (by rw [kz_nar0, kz_ud0]) ⟨hv, nm_r (kz_ud0 n) ⟨hv, nm_r (kz_ud0 n) ⟨hv, nm_r (kz_ud0 n) ⟨7, ?_⟩⟩⟩⟩⟩⟩⟩
          refine kz_z6 n 0 (nI c) ad 0 la xn xd (upd pe n v1) (upd cr n v4) (upd lo n v2) (upd hi n v3) (upd nx n v2) (fun _ => 0) (fun _ => 0) (fun _ => 0) (fun _ => 0) st hn8 _ ⟨rfl, ?_⟩ 6 0 (by omega)
          exact ⟨c, n + 1, 0, ad, 0, la, xn, xd, _, _, _, _, _, _, _, _, _, _, _, _, st, rfl, rfl, h1, by omega, by omega, kz_T_s h4 hT1, kz_L_0, fun _ _ _ _ => rfl, fun _ => ⟨rfl, rfl, rfl, rfl, rfl, rfl, rfl, rfl, rfl⟩⟩
        · refine br_f w ⟨hv, ?_⟩
          rw [ec]
          refine nm_e ⟨hv, nm_e (nm_r (nI_1 n) (g2 _ ⟨hv, ?_⟩))⟩
          rw [ec]
          refine nm_e ⟨hv, nm_e (br_f w ⟨hv, ?_⟩)⟩
          rw [ec]
          refine nm_e ⟨hv, nm_e ⟨hv, nm_e ⟨hv, nm_r (by rw [kz_nar0, kz_ud0]) ⟨hv, nm_r (kz_ud0 n) ⟨hv, nm_r (kz_ud0 n) ⟨hv, nm_r (kz_ud0 n) ⟨7, ?_⟩⟩⟩⟩⟩⟩⟩
          refine kz_z6 n 0 (nI c) ad 0 la xn xd (upd pe n v1) (upd cr n v4) (upd lo n v2) (upd hi n v2) (upd nx n v2) (fun _ => 0) (fun _ => 0) (fun _ => 0) (fun _ => 0) st hn8 _ ⟨rfl, ?_⟩ 6 0 (by omega)
          exact ⟨c, n + 1, 0, ad, 0, la, xn, xd, _, _, _, _, _, _, _, _, _, _, _, _, st, rfl, rfl, h1, by omega, by omega, kz_T_s h4 hT1, kz_L_0, fun _ _ _ _ => rfl, fun _ => ⟨rfl, rfl, rfl, rfl, rfl, rfl, rfl, rfl, rfl⟩⟩
  · exact br_f ha (br_f ha ⟨rfl, J⟩)
theorem i_vc_setExec {k : Nat} {u : SX} {v : SY} (I : i_Rel k u v) (hk : k + 5 ≤ 2561) (v1 : Int32) (v2 : Int32) : wpX_setExec (fun r u' => wpY_setExec (fun r' v' => r' = r ∧ i_Rel (k + 5) u' v') v v1 v2) u v1 v2 := by
  have J := i_up I
  obtain ⟨c, n, t, ad, md, la, xn, xd, pe, cr, lo, hi, nx, pd, rX, rY, dn, dm, cX, cY, st, rfl, rfl, h1, h2, h3, h4, h5, h6, h7⟩ := I
  rcases pk_ix v1 (n := n) (by omega) with a | a | ⟨j, hj, e⟩
  · exact br_t a (br_t rfl (br_t a ⟨rfl, J⟩))
  · have b : ¬ v1 < 0 := Int32.not_lt.mpr (Int32.le_trans (nI_pos' (by omega)) a)
    exact br_f b (br_t a (br_t rfl (br_f b (br_f (Int32.not_lt.mpr a) ⟨rfl, J⟩))))
  · subst e
    have hj8 : j < 8 := by omega
    have b : ¬ nI j < 0 := nI_pos (by omega)
    have b2 : ¬ nI n ≤ nI j := nI_ge (by omega) (by omega)
    have b3 : nI j < nI n := nI_lt (by omega) (by omega)
    have hv := kz_v8 hj8
    refine br_f b (br_f b2 (br_f (by decide) ?_))
    by_cases w1 : v2 < 1
    · exact br_t w1 (br_f b (br_t b3 (br_t w1 ⟨rfl, J⟩)))
    · by_cases w2 : v2 ≤ 32
      · refine br_f w1 (br_t w2 ⟨hv, nm_e (br_f b (br_t b3 (br_f w1 (br_t w2 ⟨hv, nm_e ⟨rfl, ?_⟩⟩))))⟩)
        exact ⟨c, n, t, ad, md, la, xn, xd, pe, cr, lo, hi, _, pd, rX, rY, dn, dm, cX, cY, st, rfl, rfl, h1, h2, by omega, h4, h5, h6, h7⟩
      · exact br_f w1 (br_f w2 (br_f b (br_t b3 (br_f w1 (br_f w2 ⟨rfl, J⟩)))))
theorem i_vc_taskCount {k : Nat} {u : SX} {v : SY} (I : i_Rel k u v) (hk : k + 5 ≤ 2561) : wpX_taskCount (fun r => wpY_taskCount (fun r' => r' = r ∧ i_Rel (k + 5) u v) v) u := by
  have J := i_up I
  obtain ⟨c, n, t, ad, md, la, xn, xd, pe, cr, lo, hi, nx, pd, rX, rY, dn, dm, cX, cY, st, rfl, rfl, h1, h2, h3, h4, h5, h6, h7⟩ := I
  exact ⟨rfl, J⟩
theorem i_vc_utilNum {k : Nat} {u : SX} {v : SY} (I : i_Rel k u v) (hk : k + 5 ≤ 2561) (v1 : Int32) : wpX_utilNum (fun r => wpY_utilNum (fun r' => r' = r ∧ i_Rel (k + 5) u v) v v1) u v1 := by
  have J := i_up I
  obtain ⟨c, n, t, ad, md, la, xn, xd, pe, cr, lo, hi, nx, pd, rX, rY, dn, dm, cX, cY, st, rfl, rfl, h1, h2, h3, h4, h5, h6, h7⟩ := I
  have hn : n ≤ 8 := by omega
  rcases pk_ix v1 (n := 3) (by omega) with a | a | ⟨j, hj, e⟩
  · exact br_t a (br_t a ⟨rfl, J⟩)
  · have b : ¬ v1 < 0 := Int32.not_lt.mpr (Int32.le_trans (nI_pos' (n := 3) (by omega)) a)
    have b2 : 2 < v1 := Int32.lt_of_lt_of_le (b := nI 3) (by decide) a
    exact br_f b (br_t b2 (br_f b (br_f (Int32.not_le.mpr b2) ⟨rfl, J⟩)))
  · rcases (show j = 0 ∨ j = 1 ∨ j = 2 by omega) with r | r | r
    · subst r; subst e
      refine br_f (by decide) (br_f (by decide) (br_t rfl ?_))
      exact kz_Xlo n t (nI c) ad md la xn xd pe cr lo hi nx pd dn dm cX st rX h4 hn 0 _ (kz_Y0 n t (nI c) ad md la xn xd pe cr lo hi nx pd dn dm cY st rY h4 hn _ ⟨rfl, J⟩)
    · subst r; subst e
      refine br_f (by decide) (br_f (by decide) (br_f (by decide) (br_t rfl ?_)))
      exact kz_Xlo n t (nI c) ad md la xn xd pe cr lo hi nx pd dn dm cX st rX h4 hn 1 _ (kz_Y1 n t (nI c) ad md la xn xd pe cr lo hi nx pd dn dm cY st rY h4 hn _ ⟨rfl, J⟩)
    · subst r; subst e
      refine br_f (by decide) (br_f (by decide) (br_f (by decide) (br_f (by decide) (br_t rfl ?_))))
      exact kz_Xhi n t (nI c) ad md la xn xd pe cr lo hi nx pd dn dm cX st rX h4 hn 1 _ (kz_Y2 n t (nI c) ad md la xn xd pe cr lo hi nx pd dn dm cY st rY h4 hn _ ⟨rfl, J⟩)
theorem i_vc_admit {k : Nat} {u : SX} {v : SY} (I : i_Rel k u v) (hk : k + 5 ≤ 2561) : wpX_admit (fun r u' => wpY_admit (fun r' v' => r' = r ∧ i_Rel (k + 5) u' v') v) u := by
  have J := i_up I
  obtain ⟨c, n, t, ad, md, la, xn, xd, pe, cr, lo, hi, nx, pd, rX, rY, dn, dm, cX, cY, st, rfl, rfl, h1, h2, h3, h4, h5, h6, h7⟩ := I
  have hn : n ≤ 8 := by omega
  by_cases ha : ad = 0
  · by_cases e : n = 0
    · subst e
      exact br_t ha (br_t rfl (br_t ha (br_t rfl ⟨rfl, J⟩)))
    · have en : ¬ nI n = 0 := nI_ne0 (by omega) (by omega)
      obtain ⟨f1, f2, _⟩ := h7 ha
      have bA := kz_S_lo (c := 0) h4 hn
      have bB := kz_S_lo (c := 1) h4 hn
      have bC := kz_S_hi (c := 1) h4 hn
      have zz := kz_S_z (c := 1) h4
      refine br_t ha (br_f en (kz_Xlo n t (nI c) ad md la xn xd pe cr lo hi nx pd dn dm cX st rX h4 hn 0 _ (kz_Xlo n t (nI c) ad md la xn xd pe cr lo hi nx pd dn dm cX st rX h4 hn 1 _ (kz_Xhi n t (nI c) ad md la xn xd pe cr lo hi nx pd dn dm cX st rX h4 hn 1 _ ?_))))
      have yy : ∀ post : Int32 → SY → Prop, _ → wpY_admit post (nI c, (nI n), ad, (nI t), md, la, xn, xd, pe, lo, hi, cr, nx, pd, rY, dm, dn, cY, st) := fun post h => br_t ha (br_f en (kz_Y0 n t (nI c) ad md la xn xd pe cr lo hi nx pd dn dm cY st rY h4 hn _ (kz_Y1 n t (nI c) ad md la xn xd pe cr lo hi nx pd dn dm cY st rY h4 hn _ (kz_Y2 n t (nI c) ad md la xn xd pe cr lo hi nx pd dn dm cY st rY h4 hn _ h))))
      generalize kz_sum (kz_u 0 cr lo pe) n = A at *
      generalize kz_sum (kz_u 1 cr lo pe) n = B at *
      generalize kz_sum (kz_u 1 cr hi pe) n = C at *
      have eA := nI_l (n := A) (by omega)
      have eB := nI_l (n := B) (by omega)
      have eC := nI_l (n := C) (by omega)
      by_cases q1 : (nI A).toInt64 + (nI B).toInt64 ≤ 720720
      · by_cases q2 : 720720 < (nI A).toInt64 + (nI C).toInt64
        · by_cases q3 : (720720 - (nI C).toInt64) * (720720 - (nI A).toInt64) < (nI B).toInt64 * (nI A).toInt64
          · exact br_t q1 (br_t q2 (br_t q3 (br_f (by decide) (br_f (by decide) (yy _ (br_t q1 (br_t q2 (br_t q3 ⟨rfl, J⟩))))))))
          · have r1 := q1
            have r2 := q2
            rw [eA, eB, lN_add, show (720720 : Int64) = lN 720720 from rfl, lN_le (by omega) (by omega)] at r1
            rw [eA, eC, lN_add, show (720720 : Int64) = lN 720720 from rfl, lN_lt (by omega) (by omega)] at r2
            have hB : 1 ≤ B := by
              by_cases z : B = 0
              · have := zz z; omega
              · omega
            have e2 : 720720 - (nI A).toInt64 = lN (720720 - A) := by rw [eA, show (720720 : Int64) = lN 720720 from rfl, lN_sub (by omega)]
            obtain ⟨xn', xd', pd', rX', rY', dn', dm', cX', cY', g1, g2, g3, g4⟩ := kz_start n t (nI c) ad md la xn xd pe cr lo hi nx pd dn dm cX st rX rY cY h4 hn (by omega) h5 h6 f2 B (720720 - A) hB (by omega) (by omega) (by omega)
            refine br_t q1 (br_t q2 (br_f q3 (br_f (by decide) (br_t rfl ?_))))
            rw [e2, eB]
            refine g3 _ (yy _ (br_t q1 (br_t q2 (br_f q3 (nm_r (show (720720 - (nI A).toInt64).toInt32 = nI (720720 - A) by rw [e2, lN_i]) ?_)))))
            rw [eB, lN_i]
            refine g4 _ _ ⟨rfl, ?_⟩
            exact ⟨c, n, t, 1, md, la, xn', xd', pe, cr, lo, hi, nx, pd', rX', rY', dn', dm', cX', cY', st, rfl, rfl, h1, h2, by omega, h4, g1, g2, fun z => absurd z (by decide)⟩
        · obtain ⟨xn', xd', pd', rX', rY', dn', dm', cX', cY', g1, g2, g3, g4⟩ := kz_start n t (nI c) ad md la xn xd pe cr lo hi nx pd dn dm cX st rX rY cY h4 hn (by omega) h5 h6 f2 1 1 (by omega) (by omega) (by omega) (by omega)
          refine br_t q1 (br_f q2 (br_t rfl (g3 _ (yy _ (br_t q1 (br_f q2 (g4 _ _ ⟨rfl, ?_⟩)))))))
          exact ⟨c, n, t, 1, md, la, xn', xd', pe, cr, lo, hi, nx, pd', rX', rY', dn', dm', cX', cY', st, rfl, rfl, h1, h2, by omega, h4, g1, g2, fun z => absurd z (by decide)⟩
      · exact br_f q1 (br_f (by decide) (br_f (by decide) (yy _ (br_f q1 ⟨rfl, J⟩))))
  · exact br_f ha (br_f ha ⟨rfl, J⟩)
theorem i_vc_run {k : Nat} {u : SX} {v : SY} (I : i_Rel k u v) (hk : k + 5 ≤ 2561) (v1 : Int32) : wpX_run (fun r u' => wpY_run (fun r' v' => r' = r ∧ i_Rel (k + 5) u' v') v v1) u v1 := by
  have J := i_up I
  obtain ⟨c, n, t, ad, md, la, xn, xd, pe, cr, lo, hi, nx, pd, rX, rY, dn, dm, cX, cY, st, rfl, rfl, h1, h2, h3, h4, h5, h6, h7⟩ := I
  by_cases ha : ad = 0
  · exact br_t ha (br_t ha ⟨rfl, J⟩)
  · by_cases w1 : v1 < 1
    · exact br_f ha (br_t w1 (br_f ha (br_t w1 ⟨rfl, J⟩)))
    · by_cases w2 : v1 ≤ 1000
      · obtain ⟨s, s1, s2, s3⟩ := kz_num w1
        have s4 : s ≤ 1000 := by
          have w3 := w2
          rw [s2, show (1000 : Int32) = nI 1000 from rfl, nI_leI s1 (by omega)] at w3
          exact w3
        obtain ⟨b', md', la', pd', rX', rY', dn', dm', cX', cY', st', g1, g2, g3, g4⟩ := kz_run n (nI c) ad xn xd pe cr lo hi nx s s4 h4 (by omega) s 0 (by omega) t 0 md la st pd dn dm cX rX rY cY (by omega) h5 h6
        refine br_f ha (br_f w1 (br_t w2 ⟨s + 1, ?_⟩))
        rw [s2]
        rw [s2] at w1 w2
        refine g3 _ (br_f ha (br_f w1 (br_t w2 ⟨s + 1, g4 _ ⟨rfl, ?_⟩⟩)))
        exact ⟨c, n, t + s, ad, md', la', xn, xd, pe, cr, lo, hi, nx, pd', rX', rY', dn', dm', cX', cY', st', rfl, rfl, h1, h2, by omega, h4, g1, g2, fun z => absurd z ha⟩
      · exact br_f ha (br_f w1 (br_f w2 (br_f ha (br_f w1 (br_f w2 ⟨rfl, J⟩)))))
end
section
theorem i_vc_mode {k : Nat} {u : SX} {v : SY} (I : i_Rel k u v) (hk : k + 5 ≤ 2561) : wpX_mode (fun r => wpY_mode (fun r' => r' = r ∧ i_Rel (k + 5) u v) v) u := by
  have J := i_up I
  obtain ⟨c, n, t, ad, md, la, xn, xd, pe, cr, lo, hi, nx, pd, rX, rY, dn, dm, cX, cY, st, rfl, rfl, h1, h2, h3, h4, h5, h6, h7⟩ := I
  exact ⟨rfl, J⟩
theorem i_vc_xNum {k : Nat} {u : SX} {v : SY} (I : i_Rel k u v) (hk : k + 5 ≤ 2561) : wpX_xNum (fun r => wpY_xNum (fun r' => r' = r ∧ i_Rel (k + 5) u v) v) u := by
  have J := i_up I
  obtain ⟨c, n, t, ad, md, la, xn, xd, pe, cr, lo, hi, nx, pd, rX, rY, dn, dm, cX, cY, st, rfl, rfl, h1, h2, h3, h4, h5, h6, h7⟩ := I
  exact ⟨rfl, J⟩
theorem i_vc_xDen {k : Nat} {u : SX} {v : SY} (I : i_Rel k u v) (hk : k + 5 ≤ 2561) : wpX_xDen (fun r => wpY_xDen (fun r' => r' = r ∧ i_Rel (k + 5) u v) v) u := by
  have J := i_up I
  obtain ⟨c, n, t, ad, md, la, xn, xd, pe, cr, lo, hi, nx, pd, rX, rY, dn, dm, cX, cY, st, rfl, rfl, h1, h2, h3, h4, h5, h6, h7⟩ := I
  exact ⟨rfl, J⟩
theorem i_vc_lastRan {k : Nat} {u : SX} {v : SY} (I : i_Rel k u v) (hk : k + 5 ≤ 2561) : wpX_lastRan (fun r => wpY_lastRan (fun r' => r' = r ∧ i_Rel (k + 5) u v) v) u := by
  have J := i_up I
  obtain ⟨c, n, t, ad, md, la, xn, xd, pe, cr, lo, hi, nx, pd, rX, rY, dn, dm, cX, cY, st, rfl, rfl, h1, h2, h3, h4, h5, h6, h7⟩ := I
  exact ⟨rfl, J⟩
theorem i_vc_time {k : Nat} {u : SX} {v : SY} (I : i_Rel k u v) (hk : k + 5 ≤ 2561) : wpX_time (fun r => wpY_time (fun r' => r' = r ∧ i_Rel (k + 5) u v) v) u := by
  have J := i_up I
  obtain ⟨c, n, t, ad, md, la, xn, xd, pe, cr, lo, hi, nx, pd, rX, rY, dn, dm, cX, cY, st, rfl, rfl, h1, h2, h3, h4, h5, h6, h7⟩ := I
  exact ⟨(lN_i t).symm, J⟩
theorem kz_hasJob (n t : Nat) (kc ad md la xn xd : Int32) (pe cr lo hi nx : Nat → Int32) (pd dn dm cX st : Nat → Int32) (rX : Nat → Int64) (j : Nat) (hj : j < n) (hn : n ≤ 8) (post : Int32 → Prop) (h0 : pd j = 0 → post 0) (h1 : ¬ pd j = 0 → post 1) : wpX_hasJob post (kc, (nI n), ad, (lN t), md, la, xn, xd, pe, cr, lo, hi, nx, pd, rX, dn, dm, cX, st) (nI j) := by
  have hj8 : j < 8 := by omega
  have ec := kz_cl hj8
  refine br_f (nI_pos (by omega)) (br_f (nI_ge (by omega) (by omega)) (br_f (by decide) ⟨kz_v8 hj8, br_c (fun z => h0 ?_) (fun z => h1 ?_)⟩))
  · rw [ec] at z; exact z
  · rw [ec] at z; exact z
theorem i_vc_jobDone {k : Nat} {u : SX} {v : SY} (I : i_Rel k u v) (hk : k + 5 ≤ 2561) (v1 : Int32) : wpX_jobDone (fun r => wpY_jobDone (fun r' => r' = r ∧ i_Rel (k + 5) u v) v v1) u v1 := by
  have J := i_up I
  obtain ⟨c, n, t, ad, md, la, xn, xd, pe, cr, lo, hi, nx, pd, rX, rY, dn, dm, cX, cY, st, rfl, rfl, h1, h2, h3, h4, h5, h6, h7⟩ := I
  rcases pk_ix v1 (n := n) (by omega) with a | a | ⟨j, hj, e⟩
  · exact br_t a (br_t rfl (br_t rfl (br_t a ⟨rfl, J⟩)))
  · have b : ¬ v1 < 0 := Int32.not_lt.mpr (Int32.le_trans (nI_pos' (by omega)) a)
    exact br_f b (br_t a (br_t rfl (br_t rfl (br_f b (br_t a ⟨rfl, J⟩)))))
  · subst e
    have hj8 : j < 8 := by omega
    have b : ¬ nI j < 0 := nI_pos (by omega)
    have b2 : ¬ nI n ≤ nI j := nI_ge (by omega) (by omega)
    have hv := kz_v8 hj8
    have ec := kz_cl hj8
    unfold wpX_jobDone
    dsimp only
    refine kz_hasJob n t (nI c) ad md la xn xd pe cr lo hi nx pd dn dm cX st rX j hj (by omega) _ (fun z => ?_) (fun z => ?_)
    · exact br_t rfl (br_f b (br_f b2 ⟨hv, br_t (by rw [ec]; exact z) ⟨rfl, J⟩⟩))
    · exact br_f (by decide) ⟨hv, br_f b (br_f b2 ⟨hv, br_f (by rw [ec]; exact z) ⟨hv, rfl, J⟩⟩)⟩
theorem i_vc_jobDeadline {k : Nat} {u : SX} {v : SY} (I : i_Rel k u v) (hk : k + 5 ≤ 2561) (v1 : Int32) : wpX_jobDeadline (fun r => wpY_jobDeadline (fun r' => r' = r ∧ i_Rel (k + 5) u v) v v1) u v1 := by
  have J := i_up I
  obtain ⟨c, n, t, ad, md, la, xn, xd, pe, cr, lo, hi, nx, pd, rX, rY, dn, dm, cX, cY, st, rfl, rfl, h1, h2, h3, h4, h5, h6, h7⟩ := I
  rcases pk_ix v1 (n := n) (by omega) with a | a | ⟨j, hj, e⟩
  · exact br_t a (br_t rfl (br_t rfl (br_t a ⟨rfl, J⟩)))
  · have b : ¬ v1 < 0 := Int32.not_lt.mpr (Int32.le_trans (nI_pos' (by omega)) a)
    exact br_f b (br_t a (br_t rfl (br_t rfl (br_f b (br_t a ⟨rfl, J⟩)))))
  · subst e
    have hj8 : j < 8 := by omega
    have b : ¬ nI j < 0 := nI_pos (by omega)
    have b2 : ¬ nI n ≤ nI j := nI_ge (by omega) (by omega)
    have hv := kz_v8 hj8
    have ec := kz_cl hj8
    obtain ⟨q, kX, kY⟩ := kz_key n t (nI c) ad md la xn xd pe cr lo hi nx pd dn dm cX st rX rY cY (by omega) h5 j hj8
    unfold wpX_jobDeadline
    dsimp only
    refine kz_hasJob n t (nI c) ad md la xn xd pe cr lo hi nx pd dn dm cX st rX j hj (by omega) _ (fun z => ?_) (fun z => ?_)
    · exact br_t rfl (br_f b (br_f b2 ⟨hv, br_t (by rw [ec]; exact z) ⟨rfl, J⟩⟩))
    · exact br_f (by decide) (kX _ (br_f b (br_f b2 ⟨hv, br_f (by rw [ec]; exact z) (kY _ ⟨rfl, J⟩)⟩)))
theorem kz_cs (n t : Nat) (kc ad md la xn xd : Int32) (pe cr lo hi nx : Nat → Int32) (pd dn dm cX st : Nat → Int32) (rX : Nat → Int64) (rY cY : Nat → Int32) (hn : n ≤ 8) (hC : kz_C cX cY) (m : Nat) (hm : m < 6) : ∀ d j, j + d = n → ∀ s : Int32, ∃ r : Int32, (∀ post : Int32 → Prop, post r → wX_counterSum_4 post (nI m) kc (nI n) ad (lN t) md la xn xd pe cr lo hi nx pd rX dn dm cX st (d + 1) s (nI j)) ∧ (∀ post : Int32 → Prop, post r → wY_counter_21 post (nI m) kc (nI n) ad (nI t) md la xn xd pe lo hi cr nx pd rY dm dn cY st (d + 1) s (nI j)) := by
  intro d
  induction d with
  | zero =>
    intro j hj s
    have e : j = n := by omega
    rw [e]
    exact ⟨s, fun post h => br_t (kz_nle hn) h, fun post h => br_t (kz_nle hn) h⟩
  | succ d ih =>
    intro j hj s
    have hj8 : j < 8 := by omega
    have hge : ¬ nI n ≤ nI j := nI_ge (by omega) (by omega)
    obtain ⟨r, g1, g2⟩ := ih (j + 1) (by omega) (s + cX (m * 8 + j))
    refine ⟨r, fun post h => br_f hge ⟨kz_xv hm hj8, nm_r ?_ (nm_r (nI_1 j) (g1 post h))⟩, fun post h => br_f hge ⟨kz_yv hm hj8, nm_r ?_ (nm_r (nI_1 j) (g2 post h))⟩⟩
    · rw [kz_xc hm hj8]
    · rw [kz_yc hm hj8, hC j m hj8 hm]
theorem i_vc_counter {k : Nat} {u : SX} {v : SY} (I : i_Rel k u v) (hk : k + 5 ≤ 2561) (v1 : Int32) (v2 : Int32) : wpX_counter (fun r => wpY_counter (fun r' => r' = r ∧ i_Rel (k + 5) u v) v v1 v2) u v1 v2 := by
  have J := i_up I
  obtain ⟨c, n, t, ad, md, la, xn, xd, pe, cr, lo, hi, nx, pd, rX, rY, dn, dm, cX, cY, st, rfl, rfl, h1, h2, h3, h4, h5, h6, h7⟩ := I
  rcases pk_ix v2 (n := 6) (by omega) with a | a | ⟨m, hm, e⟩
  · exact br_t a (br_t a ⟨rfl, J⟩)
  · have b : ¬ v2 < 0 := Int32.not_lt.mpr (Int32.le_trans (nI_pos' (n := 6) (by omega)) a)
    have b2 : ¬ v2 < 6 := Int32.not_lt.mpr a
    have b3 : ¬ v2 ≤ 5 := Int32.not_le.mpr (Int32.lt_of_lt_of_le (b := nI 6) (by decide) a)
    exact br_f b (br_f b2 (br_f b (br_f b3 ⟨rfl, J⟩)))
  · subst e
    have b : ¬ nI m < 0 := nI_pos (by omega)
    have b2 : nI m < 6 := nI_lt (b := 6) (by omega) (by decide)
    have b3 : nI m ≤ 5 := nI_le (b := 5) (by omega) (by decide)
    refine br_f b (br_t b2 ?_)
    by_cases w : v1 = -1
    · obtain ⟨r, g1, g2⟩ := kz_cs n t (nI c) ad md la xn xd pe cr lo hi nx pd dn dm cX st rX rY cY (by omega) h6 m hm n 0 (by omega) 0
      exact br_t w ⟨n + 1, g1 _ (br_f b (br_t b3 (br_t w ⟨n + 1, g2 _ ⟨rfl, J⟩⟩)))⟩
    · refine br_f w ?_
      rcases pk_ix v1 (n := n) (by omega) with a | a | ⟨j, hj, e⟩
      · exact br_t a (br_t rfl (br_f b (br_t b3 (br_f w (br_t a ⟨rfl, J⟩)))))
      · have c1 : ¬ v1 < 0 := Int32.not_lt.mpr (Int32.le_trans (nI_pos' (by omega)) a)
        exact br_f c1 (br_t a (br_t rfl (br_f b (br_t b3 (br_f w (br_f c1 (br_f (Int32.not_lt.mpr a) ⟨rfl, J⟩)))))))
      · subst e
        have hj8 : j < 8 := by omega
        have c1 : ¬ nI j < 0 := nI_pos (by omega)
        have c2 : ¬ nI n ≤ nI j := nI_ge (by omega) (by omega)
        have c3 : nI j < nI n := nI_lt (by omega) (by omega)
        refine br_f c1 (br_f c2 (br_f (by decide) ⟨kz_xv hm hj8, br_f b (br_t b3 (br_f w (br_f c1 (br_t c3 ⟨kz_yv hm hj8, ?_, J⟩))))⟩))
        rw [kz_xc hm hj8, kz_yc hm hj8, h6 j m hj8 hm]
end
section
theorem i_vc_stat {k : Nat} {u : SX} {v : SY} (I : i_Rel k u v) (hk : k + 5 ≤ 2561) (v1 : Int32) : wpX_stat (fun r => wpY_stat (fun r' => r' = r ∧ i_Rel (k + 5) u v) v v1) u v1 := by
  have J := i_up I
  obtain ⟨c, n, t, ad, md, la, xn, xd, pe, cr, lo, hi, nx, pd, rX, rY, dn, dm, cX, cY, st, rfl, rfl, h1, h2, h3, h4, h5, h6, h7⟩ := I
  rcases pk_ix v1 (n := 4) (by omega) with a | a | ⟨m, hm, e⟩
  · exact br_t a (br_t a ⟨rfl, J⟩)
  · have b : ¬ v1 < 0 := Int32.not_lt.mpr (Int32.le_trans (nI_pos' (n := 4) (by omega)) a)
    have b3 : ¬ v1 ≤ 3 := Int32.not_le.mpr (Int32.lt_of_lt_of_le (b := nI 4) (by decide) a)
    exact br_f b (br_t a (br_f b (br_f b3 ⟨rfl, J⟩)))
  · subst e
    have b : ¬ nI m < 0 := nI_pos (by omega)
    have b2 : ¬ 4 ≤ nI m := nI_ge (b := 4) (by omega) (by decide)
    have b3 : nI m ≤ 3 := nI_le (b := 3) (by omega) (by decide)
    have hv : vp_in (nI m) 4 := vp_in_nI hm (by omega)
    exact br_f b (br_f b2 ⟨hv, br_f b (br_t b3 ⟨hv, rfl, J⟩)⟩)
end
