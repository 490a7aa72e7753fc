/-! numbers: Euclid, sums, the tasks' table (rows of my own, from whole) -/
theorem kz_gstep (a b : Nat) : Nat.gcd a b = Nat.gcd b (a % b) := by
  rw [Nat.gcd_comm a b, Nat.gcd_rec b a, Nat.gcd_comm]
theorem kz_half {b r : Nat} (hr : 0 < r) (h : r < b) : 2 * (b % r) < b := by
  have h1 := Nat.mod_lt b hr
  have h2 : b % r + r ≤ b := by
    have h0 := Nat.div_add_mod b r
    have h3 : 1 ≤ b / r := Nat.div_pos (by omega) hr
    have h4 : r * 1 ≤ r * (b / r) := Nat.mul_le_mul_left r h3
    omega
  omega
theorem kz_gpos {a b : Nat} (ha : 0 < a) : 0 < Nat.gcd a b := Nat.gcd_pos_of_pos_left b ha
theorem kz_gtop {a b d : Nat} (ha : 0 < a) (h : Nat.gcd a b < d) : ¬ (a % d = 0 ∧ b % d = 0) := by
  intro z
  have h1 : d ∣ Nat.gcd a b := Nat.dvd_gcd (Nat.dvd_of_mod_eq_zero z.1) (Nat.dvd_of_mod_eq_zero z.2)
  have h2 := Nat.le_of_dvd (kz_gpos ha) h1
  omega
theorem kz_gmod (a b : Nat) : a % Nat.gcd a b = 0 ∧ b % Nat.gcd a b = 0 :=
  ⟨Nat.mod_eq_zero_of_dvd (Nat.gcd_dvd_left a b), Nat.mod_eq_zero_of_dvd (Nat.gcd_dvd_right a b)⟩
theorem kz_gle {a b : Nat} (ha : 0 < a) (hb : 0 < b) : Nat.gcd a b ≤ a ∧ Nat.gcd a b ≤ b :=
  ⟨Nat.le_of_dvd ha (Nat.gcd_dvd_left a b), Nat.le_of_dvd hb (Nat.gcd_dvd_right a b)⟩
def kz_sum (f : Nat → Nat) : Nat → Nat
  | 0 => 0
  | n + 1 => kz_sum f n + f n
theorem kz_sum_le {f : Nat → Nat} {B : Nat} : ∀ n, (∀ i, i < n → f i ≤ B) → kz_sum f n ≤ n * B
  | 0, _ => Nat.zero_le _
  | n + 1, h => by
    have h1 := kz_sum_le n (fun i hi => h i (by omega))
    have h2 := h n (by omega)
    have h3 : (n + 1) * B = n * B + B := Nat.succ_mul n B
    show kz_sum f n + f n ≤ _
    omega
theorem kz_sum_0 {f : Nat → Nat} : ∀ n, kz_sum f n = 0 → ∀ i, i < n → f i = 0
  | 0, _, i, hi => absurd hi (Nat.not_lt_zero i)
  | n + 1, h, i, hi => by
    have h1 : kz_sum f n + f n = 0 := h
    by_cases e : i = n
    · subst e; omega
    · exact kz_sum_0 n (by omega) i (by omega)
theorem kz_sum_z {f : Nat → Nat} : ∀ n, (∀ i, i < n → f i = 0) → kz_sum f n = 0
  | 0, _ => rfl
  | n + 1, h => by
    have h1 := kz_sum_z n (fun i hi => h i (by omega))
    have h2 := h n (by omega)
    show kz_sum f n + f n = 0
    omega
/-- a task's row: period, budgets, criticality -/
def kz_T1 (pe lo hi cr : Int32) : Prop := ∃ p a b : Nat, pe = nI p ∧ lo = nI a ∧ hi = nI b ∧ 1 ≤ a ∧ a ≤ b ∧ b ≤ p ∧ p ≤ 16 ∧ ((cr = 0 ∧ hi = lo) ∨ cr = 1)
def kz_T (n : Nat) (pe lo hi cr : Nat → Int32) : Prop := ∀ i, i < n → kz_T1 (pe i) (lo i) (hi i) (cr i)
theorem kz_T_0 {pe lo hi cr : Nat → Int32} : kz_T 0 pe lo hi cr := fun i h => absurd h (Nat.not_lt_zero i)
theorem kz_T_s {n : Nat} {pe lo hi cr : Nat → Int32} {p l h c : Int32} (T : kz_T n pe lo hi cr) (t : kz_T1 p l h c) : kz_T (n + 1) (upd pe n p) (upd lo n l) (upd hi n h) (upd cr n c) := by
  intro i hi'
  by_cases e : i = n
  · subst e; rw [pk_us, pk_us, pk_us, pk_us]; exact t
  · rw [pk_un e, pk_un e, pk_un e, pk_un e]; exact T i (by omega)
theorem kz_T_p {n i : Nat} {pe lo hi cr : Nat → Int32} (T : kz_T n pe lo hi cr) (h : i < n) : ∃ p, pe i = nI p ∧ 1 ≤ p ∧ p ≤ 16 := by
  obtain ⟨p, a, b, e, _, _, h1, h2, h3, h4, _⟩ := T i h
  exact ⟨p, e, by omega, h4⟩
theorem kz_T_c {n i : Nat} {pe lo hi cr : Nat → Int32} (T : kz_T n pe lo hi cr) (h : i < n) : (cr i = 0 ∧ hi i = lo i) ∨ cr i = 1 := by
  obtain ⟨p, a, b, _, _, _, _, _, _, _, h5⟩ := T i h
  exact h5
/-- one task's term of a utilisation numerator -/
def kz_u (c : Int32) (cr B P : Nat → Int32) (i : Nat) : Nat := if cr i = c then (B i).toNatClampNeg * (720720 / (P i).toNatClampNeg) else 0
theorem kz_q {b p : Nat} (hb : b ≤ p) : b * (720720 / p) ≤ 720720 :=
  Nat.le_trans (Nat.mul_le_mul_right _ hb) (Nat.mul_div_le 720720 p)
theorem kz_u_lo {n i : Nat} {c : Int32} {pe lo hi cr : Nat → Int32} (T : kz_T n pe lo hi cr) (h : i < n) : kz_u c cr lo pe i ≤ 720720 := by
  obtain ⟨p, a, b, e1, e2, e3, h1, h2, h3, h4, _⟩ := T i h
  unfold kz_u
  rw [e1, e2, nI_clamp (by omega), nI_clamp (by omega)]
  split
  · exact kz_q (by omega)
  · omega
theorem kz_u_hi {n i : Nat} {c : Int32} {pe lo hi cr : Nat → Int32} (T : kz_T n pe lo hi cr) (h : i < n) : kz_u c cr hi pe i ≤ 720720 := by
  obtain ⟨p, a, b, e1, e2, e3, h1, h2, h3, h4, _⟩ := T i h
  unfold kz_u
  rw [e1, e3, nI_clamp (by omega), nI_clamp (by omega)]
  split
  · exact kz_q (by omega)
  · omega
theorem kz_u_z {n i : Nat} {c : Int32} {pe lo hi cr : Nat → Int32} (T : kz_T n pe lo hi cr) (h : i < n) (z : kz_u c cr lo pe i = 0) : kz_u c cr hi pe i = 0 := by
  obtain ⟨p, a, b, e1, e2, e3, h1, h2, h3, h4, _⟩ := T i h
  unfold kz_u at z ⊢
  rw [e1, e2, nI_clamp (by omega), nI_clamp (by omega)] at z
  by_cases k : cr i = c
  · rw [if_pos k] at z
    have h5 : 0 < 720720 / p := Nat.div_pos (by omega) (by omega)
    have h6 := Nat.mul_pos (show 0 < a from h1) h5
    omega
  · rw [if_neg k]
theorem kz_S_z {n : Nat} {c : Int32} {pe lo hi cr : Nat → Int32} (T : kz_T n pe lo hi cr) (z : kz_sum (kz_u c cr lo pe) n = 0) : kz_sum (kz_u c cr hi pe) n = 0 :=
  kz_sum_z n (fun i hi' => kz_u_z T hi' (kz_sum_0 n z i hi'))
theorem kz_S_lo {n : Nat} {c : Int32} {pe lo hi cr : Nat → Int32} (T : kz_T n pe lo hi cr) (hn : n ≤ 8) : kz_sum (kz_u c cr lo pe) n ≤ 5765760 := by
  have h := kz_sum_le (f := kz_u c cr lo pe) (B := 720720) n (fun i hi' => kz_u_lo (c := c) T hi')
  omega
theorem kz_S_hi {n : Nat} {c : Int32} {pe lo hi cr : Nat → Int32} (T : kz_T n pe lo hi cr) (hn : n ≤ 8) : kz_sum (kz_u c cr hi pe) n ≤ 5765760 := by
  have h := kz_sum_le (f := kz_u c cr hi pe) (B := 720720) n (fun i hi' => kz_u_hi (c := c) T hi')
  omega
