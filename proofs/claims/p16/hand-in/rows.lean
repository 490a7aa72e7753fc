section
/-! numbers: Euclid, sums, the tasks' table (rows of my own, from whole) -/
theorem kz_gstep (a b : Nat) : Nat.gcd a b = Nat.gcd b (a % b) := by
  rw [Nat.gcd_comm a b, Nat.gcd_rec b a, Nat.gcd_comm]
theorem kz_half {b r : Nat} (hr : 0 < r) (h : r < b) : 2 * (b % r) < b := by
  have h1 := Nat.mod_lt b hr
  have h2 : b % r + r ≤ b := by
    have h0 := Nat.div_add_mod b r
    have h3 : 1 ≤ b / r := Nat.div_pos (by omega) hr
    have h4 : r * 1 ≤ r * (b / r) := Nat.mul_le_mul_left r h3
    omega
  omega
theorem kz_gpos {a b : Nat} (ha : 0 < a) : 0 < Nat.gcd a b := Nat.gcd_pos_of_pos_left b ha
theorem kz_gtop {a b d : Nat} (ha : 0 < a) (h : Nat.gcd a b < d) : ¬ (a % d = 0 ∧ b % d = 0) := by
  intro z
  have h1 : d ∣ Nat.gcd a b := Nat.dvd_gcd (Nat.dvd_of_mod_eq_zero z.1) (Nat.dvd_of_mod_eq_zero z.2)
  have h2 := Nat.le_of_dvd (kz_gpos ha) h1
  omega
theorem kz_gmod (a b : Nat) : a % Nat.gcd a b = 0 ∧ b % Nat.gcd a b = 0 :=
  ⟨Nat.mod_eq_zero_of_dvd (Nat.gcd_dvd_left a b), Nat.mod_eq_zero_of_dvd (Nat.gcd_dvd_right a b)⟩
theorem kz_gle {a b : Nat} (ha : 0 < a) (hb : 0 < b) : Nat.gcd a b ≤ a ∧ Nat.gcd a b ≤ b :=
  ⟨Nat.le_of_dvd ha (Nat.gcd_dvd_left a b), Nat.le_of_dvd hb (Nat.gcd_dvd_right a b)⟩
def kz_sum (f : Nat → Nat) : Nat → Nat
  | 0 => 0
  | n + 1 => kz_sum f n + f n
theorem kz_sum_le {f : Nat → Nat} {B : Nat} : ∀ n, (∀ i, i < n → f i ≤ B) → kz_sum f n ≤ n * B
  | 0, _ => Nat.zero_le _
  | n + 1, h => by
    have h1 := kz_sum_le n (fun i hi => h i (by omega))
    have h2 := h n (by omega)
    have h3 : (n + 1) * B = n * B + B := Nat.succ_mul n B
    show kz_sum f n + f n ≤ _
    omega
theorem kz_sum_0 {f : Nat → Nat} : ∀ n, kz_sum f n = 0 → ∀ i, i < n → f i = 0
  | 0, _, i, hi => absurd hi (Nat.not_lt_zero i)
  | n + 1, h, i, hi => by
    have h1 : kz_sum f n + f n = 0 := h
    by_cases e : i = n
    · subst e; omega
    · exact kz_sum_0 n (by omega) i (by omega)
theorem kz_sum_z {f : Nat → Nat} : ∀ n, (∀ i, i < n → f i = 0) → kz_sum f n = 0
  | 0, _ => rfl
  | n + 1, h => by
    have h1 := kz_sum_z n (fun i hi => h i (by omega))
    have h2 := h n (by omega)
    show kz_sum f n + f n = 0
    omega
/-- a task's row: period, budgets, criticality -/
def kz_T1 (pe lo hi cr : Int32) : Prop := ∃ p a b : Nat, pe = nI p ∧ lo = nI a ∧ hi = nI b ∧ 1 ≤ a ∧ a ≤ b ∧ b ≤ p ∧ p ≤ 16 ∧ ((cr = 0 ∧ hi = lo) ∨ cr = 1)
def kz_T (n : Nat) (pe lo hi cr : Nat → Int32) : Prop := ∀ i, i < n → kz_T1 (pe i) (lo i) (hi i) (cr i)
theorem kz_T_0 {pe lo hi cr : Nat → Int32} : kz_T 0 pe lo hi cr := fun i h => absurd h (Nat.not_lt_zero i)
theorem kz_T_s {n : Nat} {pe lo hi cr : Nat → Int32} {p l h c : Int32} (T : kz_T n pe lo hi cr) (t : kz_T1 p l h c) : kz_T (n + 1) (upd pe n p) (upd lo n l) (upd hi n h) (upd cr n c) := by
  intro i hi'
  by_cases e : i = n
  · subst e; rw [pk_us, pk_us, pk_us, pk_us]; exact t
  · rw [pk_un e, pk_un e, pk_un e, pk_un e]; exact T i (by omega)
theorem kz_T_p {n i : Nat} {pe lo hi cr : Nat → Int32} (T : kz_T n pe lo hi cr) (h : i < n) : ∃ p, pe i = nI p ∧ 1 ≤ p ∧ p ≤ 16 := by
  obtain ⟨p, a, b, e, _, _, h1, h2, h3, h4, _⟩ := T i h
  exact ⟨p, e, by omega, h4⟩
theorem kz_T_c {n i : Nat} {pe lo hi cr : Nat → Int32} (T : kz_T n pe lo hi cr) (h : i < n) : (cr i = 0 ∧ hi i = lo i) ∨ cr i = 1 := by
  obtain ⟨p, a, b, _, _, _, _, _, _, _, h5⟩ := T i h
  exact h5
/-- one task's term of a utilisation numerator -/
def kz_u (c : Int32) (cr B P : Nat → Int32) (i : Nat) : Nat := if cr i = c then (B i).toNatClampNeg * (720720 / (P i).toNatClampNeg) else 0
theorem kz_q {b p : Nat} (hb : b ≤ p) : b * (720720 / p) ≤ 720720 :=
  Nat.le_trans (Nat.mul_le_mul_right _ hb) (Nat.mul_div_le 720720 p)
theorem kz_u_lo {n i : Nat} {c : Int32} {pe lo hi cr : Nat → Int32} (T : kz_T n pe lo hi cr) (h : i < n) : kz_u c cr lo pe i ≤ 720720 := by
  obtain ⟨p, a, b, e1, e2, e3, h1, h2, h3, h4, _⟩ := T i h
  unfold kz_u
  rw [e1, e2, nI_clamp (by omega), nI_clamp (by omega)]
  split
  · exact kz_q (by omega)
  · omega
theorem kz_u_hi {n i : Nat} {c : Int32} {pe lo hi cr : Nat → Int32} (T : kz_T n pe lo hi cr) (h : i < n) : kz_u c cr hi pe i ≤ 720720 := by
  obtain ⟨p, a, b, e1, e2, e3, h1, h2, h3, h4, _⟩ := T i h
  unfold kz_u
  rw [e1, e3, nI_clamp (by omega), nI_clamp (by omega)]
  split
  · exact kz_q (by omega)
  · omega
theorem kz_u_z {n i : Nat} {c : Int32} {pe lo hi cr : Nat → Int32} (T : kz_T n pe lo hi cr) (h : i < n) (z : kz_u c cr lo pe i = 0) : kz_u c cr hi pe i = 0 := by
  obtain ⟨p, a, b, e1, e2, e3, h1, h2, h3, h4, _⟩ := T i h
  unfold kz_u at z ⊢
  rw [e1, e2, nI_clamp (by omega), nI_clamp (by omega)] at z
  by_cases k : cr i = c
  · rw [if_pos k] at z
    have h5 : 0 < 720720 / p := Nat.div_pos (by omega) (by omega)
    have h6 := Nat.mul_pos (show 0 < a from h1) h5
    omega
  · rw [if_neg k]
theorem kz_S_z {n : Nat} {c : Int32} {pe lo hi cr : Nat → Int32} (T : kz_T n pe lo hi cr) (z : kz_sum (kz_u c cr lo pe) n = 0) : kz_sum (kz_u c cr hi pe) n = 0 :=
  kz_sum_z n (fun i hi' => kz_u_z T hi' (kz_sum_0 n z i hi'))
theorem kz_S_lo {n : Nat} {c : Int32} {pe lo hi cr : Nat → Int32} (T : kz_T n pe lo hi cr) (hn : n ≤ 8) : kz_sum (kz_u c cr lo pe) n ≤ 5765760 := by
  have h := kz_sum_le (f := kz_u c cr lo pe) (B := 720720) n (fun i hi' => kz_u_lo (c := c) T hi')
  omega
theorem kz_S_hi {n : Nat} {c : Int32} {pe lo hi cr : Nat → Int32} (T : kz_T n pe lo hi cr) (hn : n ≤ 8) : kz_sum (kz_u c cr hi pe) n ≤ 5765760 := by
  have h := kz_sum_le (f := kz_u c cr hi pe) (B := 720720) n (fun i hi' => kz_u_hi (c := c) T hi')
  omega
end
section
/-! future demand, bounded by lines -/
/-- the sum of f over K places from b -/
def qz_fs (f : Nat → Nat) : Nat → Nat → Nat
  | 0, _ => 0
  | K + 1, b => f b + qz_fs f K (b + 1)
theorem qz_fs_s (f : Nat → Nat) (K b : Nat) : qz_fs f (K + 1) b = f b + qz_fs f K (b + 1) := rfl
theorem qz_mono (f : Nat → Nat) : ∀ K b, qz_fs f K b ≤ qz_fs f (K + 1) b
  | 0, _ => Nat.zero_le _
  | K + 1, b => by
    rw [qz_fs_s, qz_fs_s f (K + 1)]
    exact Nat.add_le_add_left (qz_mono f K (b + 1)) _
theorem qz_skip1 (f : Nat → Nat) (K b : Nat) (h : f b = 0) : qz_fs f K b ≤ qz_fs f K (b + 1) := by
  cases K with
  | zero => exact Nat.zero_le _
  | succ K =>
    rw [qz_fs_s, h, Nat.zero_add]
    exact qz_mono f K (b + 1)
theorem qz_skip (f : Nat → Nat) (K : Nat) : ∀ s b, (∀ r, b ≤ r → r < b + s → f r = 0) → qz_fs f K b ≤ qz_fs f K (b + s)
  | 0, _, _ => Nat.le_refl _
  | s + 1, b, h => by
    have h1 := qz_skip1 f K b (h b (Nat.le_refl b) (by omega))
    have h2 := qz_skip f K s (b + 1) (fun r h3 h4 => h r (by omega) (by omega))
    have e : b + 1 + s = b + (s + 1) := by omega
    rw [e] at h2
    exact Nat.le_trans h1 h2
/-- between two multiples of T there is none -/
theorem qz_gap {T b r : Nat} (hb : b % T = 0) (h1 : b < r) (h2 : r < b + T) : r % T ≠ 0 := by
  intro z
  have e1 := Nat.div_add_mod b T
  have e2 := Nat.div_add_mod r T
  have h3 : T * (b / T) < T * (r / T) := by omega
  have h4 : b / T < r / T := Nat.lt_of_mul_lt_mul_left h3
  have h5 : T * (b / T + 1) ≤ T * (r / T) := Nat.mul_le_mul_left T h4
  have h6 : T * (b / T + 1) = T * (b / T) + T := Nat.mul_succ T (b / T)
  omega
theorem qz_next {f : Nat → Nat} {T b : Nat} (hT : 1 ≤ T) (hz : ∀ r, r % T ≠ 0 → f r = 0) (hb : b % T = 0) (K : Nat) : qz_fs f K (b + 1) ≤ qz_fs f K (b + T) := by
  have h := qz_skip f K (T - 1) (b + 1) (fun r h1 h2 => hz r (qz_gap hb (by omega) (by omega)))
  have e : b + 1 + (T - 1) = b + T := by omega
  rw [e] at h
  exact h
/-- jobs of one kind, counted while their end is within V -/
theorem qz_lin {f : Nat → Nat} {T c D V : Nat} (hT : 1 ≤ T) (hz : ∀ r, r % T ≠ 0 → f r = 0) (b0 : Nat) (hc : ∀ r, b0 ≤ r → f r = 0 ∨ (f r ≤ c ∧ (r + T) * D ≤ V)) : ∀ K b, b0 ≤ b → T * D * qz_fs f K b ≤ c * (V - b * D)
  | 0, b, _ => by rw [show qz_fs f 0 b = 0 from rfl, Nat.mul_zero]; exact Nat.zero_le _
  | K + 1, b, h0 => by
    rw [qz_fs_s]
    by_cases z : f b = 0
    · have ih := qz_lin hT hz b0 hc K (b + 1) (by omega)
      rw [z, Nat.zero_add]
      refine Nat.le_trans ih (Nat.mul_le_mul_left c (Nat.sub_le_sub_left ?_ V))
      exact Nat.mul_le_mul_right D (Nat.le_succ b)
    · have hb : b % T = 0 := by
        by_cases w : b % T = 0
        · exact w
        · exact absurd (hz b w) z
      obtain ⟨h1, h2⟩ := (hc b h0).resolve_left z
      have ih := qz_lin hT hz b0 hc K (b + T) (by omega)
      have h3 := qz_next hT hz hb K
      have h4 : T * D * (f b + qz_fs f K (b + 1)) ≤ T * D * (c + qz_fs f K (b + T)) := Nat.mul_le_mul_left _ (Nat.add_le_add h1 h3)
      have h5 : T * D * (c + qz_fs f K (b + T)) = c * (T * D) + T * D * qz_fs f K (b + T) := by rw [Nat.mul_add, Nat.mul_comm (T * D) c]
      have h6 : V - b * D = T * D + (V - (b + T) * D) := by
        have e : (b + T) * D = b * D + T * D := Nat.add_mul b T D
        omega
      have h7 : c * (V - b * D) = c * (T * D) + c * (V - (b + T) * D) := by rw [h6, Nat.mul_add]
      omega
/-- jobs of a HI task: those released ahead of a at the small budget by the key, later ones at the great budget by the end -/
theorem qz_two {f : Nat → Nat} {T cl ch num den a d : Nat} (hT : 1 ≤ T) (hnd : num ≤ den) (hcc : cl ≤ ch) (had : a ≤ d) (hz : ∀ r, r % T ≠ 0 → f r = 0)
    (h1 : ∀ r, r < a → f r = 0 ∨ (f r ≤ cl ∧ r * den + num * T ≤ a * den + num * (d - a)))
    (h2 : ∀ r, a ≤ r → f r = 0 ∨ (f r ≤ ch ∧ (r + T) * 1 ≤ d)) : ∀ K b, b ≤ a → num * (T * qz_fs f K b) ≤ cl * (den * (a - b)) + ch * (num * (d - a))
  | 0, b, _ => by rw [show qz_fs f 0 b = 0 from rfl, Nat.mul_zero, Nat.mul_zero]; exact Nat.zero_le _
  | K + 1, b, hb => by
    have late : ∀ K b, a ≤ b → num * (T * qz_fs f K b) ≤ ch * (num * (d - b)) := by
      intro K b hab
      have h := qz_lin hT hz a h2 K b hab
      rw [Nat.mul_one, Nat.mul_one] at h
      have h' := Nat.mul_le_mul_left num h
      rw [Nat.mul_left_comm num ch] at h'
      exact h'
    by_cases e : b = a
    · subst e
      have h := late (K + 1) b (Nat.le_refl b)
      omega
    · have hlt : b < a := by omega
      rw [qz_fs_s]
      by_cases z : f b = 0
      · have ih := qz_two hT hnd hcc had hz h1 h2 K (b + 1) (by omega)
        rw [z, Nat.zero_add]
        have h3 : cl * (den * (a - (b + 1))) ≤ cl * (den * (a - b)) := Nat.mul_le_mul_left cl (Nat.mul_le_mul_left den (by omega))
        omega
      · have hm : b % T = 0 := by
          by_cases w : b % T = 0
          · exact w
          · exact absurd (hz b w) z
        obtain ⟨h3, h4⟩ := (h1 b hlt).resolve_left z
        have h5 := qz_next hT hz hm K
        have h6 : num * (T * (f b + qz_fs f K (b + 1))) ≤ num * (T * (cl + qz_fs f K (b + T))) := Nat.mul_le_mul_left _ (Nat.mul_le_mul_left _ (Nat.add_le_add h3 h5))
        have h7 : num * (T * (cl + qz_fs f K (b + T))) = cl * (num * T) + num * (T * qz_fs f K (b + T)) := by
          rw [Nat.mul_add, Nat.mul_add, ← Nat.mul_assoc num T cl, Nat.mul_comm (num * T) cl]
        refine Nat.le_trans h6 ?_
        rw [h7]
        by_cases s : b + T ≤ a
        · have ih := qz_two hT hnd hcc had hz h1 h2 K (b + T) s
          have h8 : den * (a - b) = den * T + den * (a - (b + T)) := by rw [← Nat.mul_add]; exact congrArg _ (by omega)
          have h9 : cl * (num * T) ≤ cl * (den * T) := Nat.mul_le_mul_left cl (Nat.mul_le_mul_right T hnd)
          rw [h8, Nat.mul_add]
          omega
        · have ih := late K (b + T) (by omega)
          by_cases w : b + T ≤ d
          · have g1 : num * (d - a) = num * (d - (b + T)) + num * (b + T - a) := by rw [← Nat.mul_add]; exact congrArg _ (by omega)
            have g2 : num * T = num * (a - b) + num * (b + T - a) := by rw [← Nat.mul_add]; exact congrArg _ (by omega)
            have g3 : cl * (num * (a - b)) ≤ cl * (den * (a - b)) := Nat.mul_le_mul_left cl (Nat.mul_le_mul_right _ hnd)
            have g4 : cl * (num * (b + T - a)) ≤ ch * (num * (b + T - a)) := Nat.mul_le_mul_right _ hcc
            rw [g1, g2, Nat.mul_add, Nat.mul_add]
            omega
          · have g0 : d - (b + T) = 0 := by omega
            rw [g0, Nat.mul_zero, Nat.mul_zero] at ih
            have g1 : num * T ≤ den * (a - b) + num * (d - a) := by
              have k1 : a * den = b * den + den * (a - b) := by
                rw [Nat.mul_comm b den, Nat.mul_comm a den, ← Nat.mul_add]; exact congrArg _ (by omega)
              omega
            have g2 := Nat.mul_le_mul_left cl g1
            rw [Nat.mul_add] at g2
            have g3 : cl * (num * (d - a)) ≤ ch * (num * (d - a)) := Nat.mul_le_mul_right _ hcc
            omega
end
section
/-! sums over the tasks, and the bound for jobs to come -/
def qz_sum (f : Nat → Nat) : Nat → Nat
  | 0 => 0
  | n + 1 => qz_sum f n + f n
theorem qz_sum_s (f : Nat → Nat) (n : Nat) : qz_sum f (n + 1) = qz_sum f n + f n := rfl
theorem qz_sum_le {f g : Nat → Nat} : ∀ n, (∀ i, i < n → f i ≤ g i) → qz_sum f n ≤ qz_sum g n
  | 0, _ => Nat.le_refl _
  | n + 1, h => Nat.add_le_add (qz_sum_le n (fun i hi => h i (by omega))) (h n (by omega))
theorem qz_sum_dec {f g : Nat → Nat} : ∀ n, (∀ i, i < n → f i ≤ g i) → ∀ j, j < n → f j + 1 ≤ g j → qz_sum f n + 1 ≤ qz_sum g n
  | 0, _, j, hj, _ => absurd hj (Nat.not_lt_zero j)
  | n + 1, h, j, hj, hd => by
    rw [qz_sum_s, qz_sum_s]
    by_cases e : j = n
    · subst e
      have h1 := qz_sum_le j (fun i hi => h i (by omega))
      omega
    · have h1 := qz_sum_dec n (fun i hi => h i (by omega)) j (by omega) hd
      have h2 := h n (by omega)
      omega
theorem qz_sum_ge {f : Nat → Nat} : ∀ n j, j < n → f j ≤ qz_sum f n
  | 0, j, hj => absurd hj (Nat.not_lt_zero j)
  | n + 1, j, hj => by
    rw [qz_sum_s]
    by_cases e : j = n
    · subst e; omega
    · have h1 := qz_sum_ge (f := f) n j (by omega)
      omega
theorem qz_sum_3 {f A B C : Nat → Nat} {k p q r : Nat} : ∀ n, (∀ i, i < n → k * f i ≤ A i * p + B i * q + C i * r) → k * qz_sum f n ≤ qz_sum A n * p + qz_sum B n * q + qz_sum C n * r
  | 0, _ => by rw [show qz_sum f 0 = 0 from rfl, Nat.mul_zero]; exact Nat.zero_le _
  | n + 1, h => by
    have h1 := qz_sum_3 n (fun i hi => h i (by omega))
    have h2 := h n (by omega)
    rw [qz_sum_s, qz_sum_s, qz_sum_s, qz_sum_s, Nat.mul_add, Nat.add_mul, Nat.add_mul, Nat.add_mul]
    omega
/-- what a job of a task counts for, released at r, u done; x = num / (num + e); a parts early from late HI jobs, d is the end -/
def qz_c (H : Bool) (T cl ch num e a d r u : Nat) : Nat :=
  match H with
  | false => if (r + T) * (num + e) ≤ a * e + num * d then cl - u else 0
  | true => if r < a then (if r * (num + e) + num * T ≤ a * e + num * d then cl - u else 0) else (if r + T ≤ d then ch - u else 0)
theorem qz_c_f (T cl ch num e a d r u : Nat) : qz_c false T cl ch num e a d r u = if (r + T) * (num + e) ≤ a * e + num * d then cl - u else 0 := rfl
theorem qz_c_t (T cl ch num e a d r u : Nat) : qz_c true T cl ch num e a d r u = if r < a then (if r * (num + e) + num * T ≤ a * e + num * d then cl - u else 0) else (if r + T ≤ d then ch - u else 0) := rfl
theorem qz_c_u (H : Bool) (T cl ch num e a d r u : Nat) : qz_c H T cl ch num e a d r (u + 1) ≤ qz_c H T cl ch num e a d r u := by
  cases H
  · simp only [qz_c_f, qz_c_t]
    split <;> omega
  · simp only [qz_c_f, qz_c_t]
    split
    · split <;> omega
    · split <;> omega
theorem qz_c_d (H : Bool) (T cl ch num e a d r u : Nat) (h : 1 ≤ qz_c H T cl ch num e a d r u) : qz_c H T cl ch num e a d r (u + 1) + 1 ≤ qz_c H T cl ch num e a d r u := by
  cases H
  · revert h
    simp only [qz_c_f, qz_c_t]
    split
    · intro h; omega
    · intro h; omega
  · revert h
    simp only [qz_c_f, qz_c_t]
    split
    · split
      · intro h; omega
      · intro h; omega
    · split
      · intro h; omega
      · intro h; omega
/-- the same at a release r, if there is one -/
def qz_f (H : Bool) (T cl ch num e a d : Nat) (r : Nat) : Nat := if r % T = 0 then qz_c H T cl ch num e a d r 0 else 0
theorem qz_f_z {H : Bool} {T cl ch num e a d : Nat} (r : Nat) (h : r % T ≠ 0) : qz_f H T cl ch num e a d r = 0 := if_neg h
theorem qz_f_le {H : Bool} {T cl ch num e a d : Nat} (r : Nat) : qz_f H T cl ch num e a d r = 0 ∨ qz_f H T cl ch num e a d r = qz_c H T cl ch num e a d r 0 := by
  unfold qz_f
  split
  · exact Or.inr rfl
  · exact Or.inl rfl
theorem qz_f_lo {T cl ch num e a d : Nat} (r : Nat) : qz_f false T cl ch num e a d r = 0 ∨ (qz_f false T cl ch num e a d r ≤ cl ∧ (r + T) * (num + e) ≤ a * e + num * d) := by
  unfold qz_f
  split
  · simp only [qz_c_f, qz_c_t]
    split
    · exact Or.inr ⟨by omega, by assumption⟩
    · exact Or.inl rfl
  · exact Or.inl rfl
theorem qz_f_early {T cl ch num e a d : Nat} (had : a ≤ d) (r : Nat) (h : r < a) : qz_f true T cl ch num e a d r = 0 ∨ (qz_f true T cl ch num e a d r ≤ cl ∧ r * (num + e) + num * T ≤ a * (num + e) + num * (d - a)) := by
  have hV : a * (num + e) + num * (d - a) = a * e + num * d := by
    have k1 : num * d = num * a + num * (d - a) := by rw [← Nat.mul_add]; exact congrArg _ (by omega)
    rw [k1, Nat.mul_add, Nat.mul_comm a num]; omega
  rw [hV]
  unfold qz_f
  split
  · simp only [qz_c_f, qz_c_t]
    rw [if_pos h]
    split
    · exact Or.inr ⟨by omega, by assumption⟩
    · exact Or.inl rfl
  · exact Or.inl rfl
theorem qz_f_late {T cl ch num e a d : Nat} (r : Nat) (h : a ≤ r) : qz_f true T cl ch num e a d r = 0 ∨ (qz_f true T cl ch num e a d r ≤ ch ∧ (r + T) * 1 ≤ d) := by
  unfold qz_f
  split
  · simp only [qz_c_f, qz_c_t]
    rw [if_neg (by omega)]
    split
    · exact Or.inr ⟨by omega, by omega⟩
    · exact Or.inl rfl
  · exact Or.inl rfl
section
variable (n num e L : Nat) (H : Nat → Bool) (T cl ch q : Nat → Nat)
def qz_A (i : Nat) : Nat := match H i with
  | false => cl i * q i
  | true => 0
def qz_B (i : Nat) : Nat := match H i with
  | false => 0
  | true => cl i * q i
def qz_D (i : Nat) : Nat := match H i with
  | false => 0
  | true => ch i * q i
/-- the rules of admission, as they are used -/
def qz_adm : Prop := 1 ≤ num ∧ 1 ≤ L ∧ (∀ i, i < n → 1 ≤ T i ∧ T i * q i = L ∧ 1 ≤ cl i ∧ cl i ≤ ch i ∧ ch i ≤ T i)
  ∧ qz_sum (qz_A H cl q) n * num + qz_sum (qz_B H cl q) n * (num + e) ≤ L * num
  ∧ qz_sum (qz_A H cl q) n * num + qz_sum (qz_D H ch q) n * (num + e) ≤ L * (num + e)
def qz_fu (a d τ i : Nat) : Nat := qz_fs (qz_f (H i) (T i) (cl i) (ch i) num e a d) (d - τ) τ
theorem qz_b1 (hA : qz_adm n num e L H T cl ch q) (a d b i : Nat) (had : a ≤ d) (hb : b ≤ a) (hi : i < n) :
    num * (num + e) * L * qz_fu num e H T cl ch a d b i ≤ qz_A H cl q i * (num * ((num + e) * (a - b) + num * (d - a))) + qz_B H cl q i * ((num + e) * ((num + e) * (a - b))) + qz_D H ch q i * ((num + e) * (num * (d - a))) := by
  obtain ⟨h0, hL, hT, _, _⟩ := hA
  obtain ⟨t1, t2, t3, t4, t5⟩ := hT i hi
  unfold qz_fu qz_A qz_B qz_D
  generalize hF : qz_fs (qz_f (H i) (T i) (cl i) (ch i) num e a d) (d - b) b = F
  cases hH : H i with
  | false =>
    rw [hH] at hF
    have h := qz_lin (f := qz_f false (T i) (cl i) (ch i) num e a d) t1 (fun r hr => qz_f_z r hr) 0 (fun r _ => qz_f_lo r) (d - b) b (Nat.zero_le b)
    rw [hF] at h
    have hV : a * e + num * d - b * (num + e) = (num + e) * (a - b) + num * (d - a) := by
      have k1 : num * d = num * a + num * (d - a) := by rw [← Nat.mul_add]; exact congrArg _ (by omega)
      have k2 : (num + e) * (a - b) + b * (num + e) = num * a + a * e := by
        rw [Nat.mul_comm b, ← Nat.mul_add, show a - b + b = a from by omega, Nat.add_mul, Nat.mul_comm e a]
      omega
    rw [hV] at h
    have h2 := Nat.mul_le_mul_left (q i * num) h
    have e1 : q i * num * (T i * (num + e) * F) = num * (num + e) * L * F := by
      rw [← t2]; ac_rfl
    have e2 : q i * num * (cl i * ((num + e) * (a - b) + num * (d - a))) = cl i * q i * (num * ((num + e) * (a - b) + num * (d - a))) := by ac_rfl
    rw [e1, e2] at h2
    show _ ≤ cl i * q i * _ + 0 * _ + 0 * _
    omega
  | true =>
    rw [hH] at hF
    have h := qz_two (f := qz_f true (T i) (cl i) (ch i) num e a d) (num := num) (den := num + e) t1 (by omega) t4 had (fun r hr => qz_f_z r hr) (qz_f_early had) (qz_f_late) (d - b) b hb
    rw [hF] at h
    have h2 := Nat.mul_le_mul_left (q i * (num + e)) h
    have e1 : q i * (num + e) * (num * (T i * F)) = num * (num + e) * L * F := by
      rw [← t2]; ac_rfl
    have e2 : q i * (num + e) * (cl i * ((num + e) * (a - b)) + ch i * (num * (d - a))) = cl i * q i * ((num + e) * ((num + e) * (a - b))) + ch i * q i * ((num + e) * (num * (d - a))) := by
      rw [Nat.mul_add]
      have f1 : q i * (num + e) * (cl i * ((num + e) * (a - b))) = cl i * q i * ((num + e) * ((num + e) * (a - b))) := by ac_rfl
      have f2 : q i * (num + e) * (ch i * (num * (d - a))) = ch i * q i * ((num + e) * (num * (d - a))) := by ac_rfl
      rw [f1, f2]
    rw [e1, e2] at h2
    show _ ≤ 0 * _ + cl i * q i * _ + ch i * q i * _
    omega
theorem qz_b2 (hA : qz_adm n num e L H T cl ch q) (a d b i : Nat) (hb : a ≤ b) (hd : b ≤ d) (hi : i < n) :
    (num + e) * L * qz_fu num e H T cl ch a d b i ≤ qz_A H cl q i * (num * (d - b)) + qz_B H cl q i * 0 + qz_D H ch q i * ((num + e) * (d - b)) := by
  obtain ⟨h0, hL, hT, _, _⟩ := hA
  obtain ⟨t1, t2, t3, t4, t5⟩ := hT i hi
  unfold qz_fu qz_A qz_B qz_D
  generalize hF : qz_fs (qz_f (H i) (T i) (cl i) (ch i) num e a d) (d - b) b = F
  cases hH : H i with
  | false =>
    rw [hH] at hF
    have h := qz_lin (f := qz_f false (T i) (cl i) (ch i) num e a d) t1 (fun r hr => qz_f_z r hr) 0 (fun r _ => qz_f_lo r) (d - b) b (Nat.zero_le b)
    rw [hF] at h
    have hV : a * e + num * d - b * (num + e) ≤ num * (d - b) := by
      have k1 : num * d = num * b + num * (d - b) := by rw [← Nat.mul_add]; exact congrArg _ (by omega)
      have k2 : b * (num + e) = num * b + b * e := by rw [Nat.mul_add, Nat.mul_comm b num]
      have k3 : a * e ≤ b * e := Nat.mul_le_mul_right e hb
      omega
    have h1 := Nat.le_trans h (Nat.mul_le_mul_left (cl i) hV)
    have h2 := Nat.mul_le_mul_left (q i) h1
    have e1 : q i * (T i * (num + e) * F) = (num + e) * L * F := by
      rw [← t2]; ac_rfl
    have e2 : q i * (cl i * (num * (d - b))) = cl i * q i * (num * (d - b)) := by ac_rfl
    rw [e1, e2] at h2
    show _ ≤ cl i * q i * _ + 0 * _ + 0 * _
    omega
  | true =>
    rw [hH] at hF
    have h := qz_lin (f := qz_f true (T i) (cl i) (ch i) num e a d) t1 (fun r hr => qz_f_z r hr) a (qz_f_late) (d - b) b hb
    rw [hF, Nat.mul_one, Nat.mul_one] at h
    have h2 := Nat.mul_le_mul_left (q i * (num + e)) h
    have e1 : q i * (num + e) * (T i * F) = (num + e) * L * F := by
      rw [← t2]; ac_rfl
    have e2 : q i * (num + e) * (ch i * (d - b)) = ch i * q i * ((num + e) * (d - b)) := by ac_rfl
    rw [e1, e2] at h2
    show _ ≤ 0 * _ + cl i * q i * 0 + ch i * q i * _
    omega
/-- nothing pending: what is to come fits -/
theorem qz_base (hA : qz_adm n num e L H T cl ch q) (a d b : Nat) (had : a ≤ d) (hd : b ≤ d) :
    qz_sum (qz_fu num e H T cl ch a d b) n ≤ d - b := by
  have hA' := hA
  obtain ⟨h0, hL, _, g1, g2⟩ := hA'
  by_cases hb : b ≤ a
  · have h := qz_sum_3 n (fun i hi => qz_b1 n num e L H T cl ch q hA a d b i had hb hi)
    have e1 : qz_sum (qz_A H cl q) n * (num * ((num + e) * (a - b) + num * (d - a))) + qz_sum (qz_B H cl q) n * ((num + e) * ((num + e) * (a - b))) + qz_sum (qz_D H ch q) n * ((num + e) * (num * (d - a)))
      = (qz_sum (qz_A H cl q) n * num + qz_sum (qz_B H cl q) n * (num + e)) * ((num + e) * (a - b)) + (qz_sum (qz_A H cl q) n * num + qz_sum (qz_D H ch q) n * (num + e)) * (num * (d - a)) := by
      generalize qz_sum (qz_A H cl q) n = A
      generalize qz_sum (qz_B H cl q) n = B
      generalize qz_sum (qz_D H ch q) n = C
      generalize num + e = den
      generalize a - b = x
      generalize d - a = y
      grind
    rw [e1] at h
    have h2 := Nat.mul_le_mul_right ((num + e) * (a - b)) g1
    have h3 := Nat.mul_le_mul_right (num * (d - a)) g2
    have e2 : L * num * ((num + e) * (a - b)) + L * (num + e) * (num * (d - a)) = num * (num + e) * L * (d - b) := by
      rw [show d - b = (a - b) + (d - a) from by omega, Nat.mul_add (num * (num + e) * L)]
      have f1 : L * num * ((num + e) * (a - b)) = num * (num + e) * L * (a - b) := by ac_rfl
      have f2 : L * (num + e) * (num * (d - a)) = num * (num + e) * L * (d - a) := by ac_rfl
      rw [f1, f2]
    have h4 : num * (num + e) * L * qz_sum (qz_fu num e H T cl ch a d b) n ≤ num * (num + e) * L * (d - b) := by
      rw [← e2]; exact Nat.le_trans h (Nat.add_le_add h2 h3)
    exact Nat.le_of_mul_le_mul_left h4 (Nat.mul_pos (Nat.mul_pos h0 (by omega)) hL)
  · have h := qz_sum_3 n (fun i hi => qz_b2 n num e L H T cl ch q hA a d b i (by omega) hd hi)
    have e1 : qz_sum (qz_A H cl q) n * (num * (d - b)) + qz_sum (qz_B H cl q) n * 0 + qz_sum (qz_D H ch q) n * ((num + e) * (d - b))
      = (qz_sum (qz_A H cl q) n * num + qz_sum (qz_D H ch q) n * (num + e)) * (d - b) := by
      generalize qz_sum (qz_A H cl q) n = A
      generalize qz_sum (qz_B H cl q) n = B
      generalize qz_sum (qz_D H ch q) n = C
      generalize num + e = den
      generalize d - b = x
      grind
    rw [e1] at h
    have h3 := Nat.mul_le_mul_right (d - b) g2
    have h4 : (num + e) * L * qz_sum (qz_fu num e H T cl ch a d b) n ≤ (num + e) * L * (d - b) := by
      rw [Nat.mul_comm (num + e) L]
      rw [Nat.mul_comm (num + e) L] at h
      exact Nat.le_trans h h3
    exact Nat.le_of_mul_le_mul_left h4 (Nat.mul_pos (by omega) hL)
end
end
section
/-! the invariant of the state, and why each step keeps it -/
section
variable (n num e L : Nat) (H : Nat → Bool) (T cl ch q : Nat → Nat)
def qz_w (a d : Nat) (P : Nat → Bool) (R U : Nat → Nat) (i : Nat) : Nat := match P i with
  | false => 0
  | true => qz_c (H i) (T i) (cl i) (ch i) num e a d (R i) (U i)
def qz_I (P : Nat → Bool) (R U : Nat → Nat) (t τ : Nat) : Prop := ∀ a d, a ≤ d → t ≤ d → qz_sum (fun i => qz_w num e H T cl ch a d P R U i + qz_fu num e H T cl ch a d τ i) n ≤ d - t
def qz_h (d : Nat) (P : Nat → Bool) (R U : Nat → Nat) (τ i : Nat) : Nat := match H i with
  | false => 0
  | true => qz_w num e H T cl ch 0 d P R U i + qz_fu num e H T cl ch 0 d τ i
def qz_J (P : Nat → Bool) (R U : Nat → Nat) (t τ : Nat) : Prop := ∀ d, t ≤ d → qz_sum (qz_h num e H T cl ch d P R U τ) n ≤ d - t
theorem qz_w_f {a d : Nat} {P : Nat → Bool} {R U : Nat → Nat} {i : Nat} (h : P i = false) : qz_w num e H T cl ch a d P R U i = 0 := by
  unfold qz_w; rw [h]
theorem qz_w_t {a d : Nat} {P : Nat → Bool} {R U : Nat → Nat} {i : Nat} (h : P i = true) : qz_w num e H T cl ch a d P R U i = qz_c (H i) (T i) (cl i) (ch i) num e a d (R i) (U i) := by
  unfold qz_w; rw [h]
theorem qz_h_f {d : Nat} {P : Nat → Bool} {R U : Nat → Nat} {τ i : Nat} (h : H i = false) : qz_h num e H T cl ch d P R U τ i = 0 := by
  unfold qz_h; rw [h]
theorem qz_h_t {d : Nat} {P : Nat → Bool} {R U : Nat → Nat} {τ i : Nat} (h : H i = true) : qz_h num e H T cl ch d P R U τ i = qz_w num e H T cl ch 0 d P R U i + qz_fu num e H T cl ch 0 d τ i := by
  unfold qz_h; rw [h]
theorem qz_c_us (Hi : Bool) (T cl ch num e a d r u : Nat) : ∀ s, qz_c Hi T cl ch num e a d r (u + s) ≤ qz_c Hi T cl ch num e a d r u
  | 0 => Nat.le_refl _
  | s + 1 => Nat.le_trans (qz_c_u Hi T cl ch num e a d r (u + s)) (qz_c_us Hi T cl ch num e a d r u s)
/-- fewer pending jobs, further on -/
theorem qz_w_mono {a d : Nat} {P P' : Nat → Bool} {R R' U U' : Nat → Nat} {i : Nat} (h : P' i = true → P i = true ∧ R' i = R i ∧ U i ≤ U' i) : qz_w num e H T cl ch a d P' R' U' i ≤ qz_w num e H T cl ch a d P R U i := by
  cases hp : P' i with
  | false => rw [qz_w_f num e H T cl ch hp]; exact Nat.zero_le _
  | true =>
    obtain ⟨h1, h2, h3⟩ := h hp
    rw [qz_w_t num e H T cl ch hp, qz_w_t num e H T cl ch h1, h2]
    have h4 := qz_c_us (H i) (T i) (cl i) (ch i) num e a d (R i) (U i) (U' i - U i)
    rw [show U i + (U' i - U i) = U' i from by omega] at h4
    exact h4
theorem qz_I_mono {P P' : Nat → Bool} {R R' U U' : Nat → Nat} {t τ : Nat} (I : qz_I n num e H T cl ch P R U t τ) (h : ∀ i, i < n → P' i = true → P i = true ∧ R' i = R i ∧ U i ≤ U' i) : qz_I n num e H T cl ch P' R' U' t τ := by
  intro a d had htd
  refine Nat.le_trans (qz_sum_le n fun i hi => ?_) (I a d had htd)
  exact Nat.add_le_add_right (qz_w_mono num e H T cl ch (h i hi)) _
theorem qz_J_mono {P P' : Nat → Bool} {R R' U U' : Nat → Nat} {t τ : Nat} (I : qz_J n num e H T cl ch P R U t τ) (h : ∀ i, i < n → H i = true → P' i = true → P i = true ∧ R' i = R i ∧ U i ≤ U' i) : qz_J n num e H T cl ch P' R' U' t τ := by
  intro d htd
  refine Nat.le_trans (qz_sum_le n fun i hi => ?_) (I d htd)
  cases hh : H i with
  | false => rw [qz_h_f num e H T cl ch hh]; exact Nat.zero_le _
  | true =>
    rw [qz_h_t num e H T cl ch hh, qz_h_t num e H T cl ch hh]
    exact Nat.add_le_add_right (qz_w_mono num e H T cl ch (h i hi hh)) _
theorem qz_I_J {P : Nat → Bool} {R U : Nat → Nat} {t τ : Nat} (I : qz_I n num e H T cl ch P R U t τ) : qz_J n num e H T cl ch P R U t τ := by
  intro d htd
  refine Nat.le_trans (qz_sum_le n fun i hi => ?_) (I 0 d (Nat.zero_le d) htd)
  cases hh : H i with
  | false => rw [qz_h_f num e H T cl ch hh]; exact Nat.zero_le _
  | true => rw [qz_h_t num e H T cl ch hh]; exact Nat.le_refl _
theorem qz_idle (hA : qz_adm n num e L H T cl ch q) {P : Nat → Bool} {R U : Nat → Nat} (t : Nat) (hP : ∀ i, i < n → P i = false) : qz_I n num e H T cl ch P R U t t := by
  intro a d had htd
  refine Nat.le_trans (qz_sum_le n fun i hi => ?_) (qz_base n num e L H T cl ch q hA a d t had htd)
  rw [qz_w_f num e H T cl ch (hP i hi), Nat.zero_add]
  exact Nat.le_refl _
/-- a release at τ turns a job to come into a pending one -/
theorem qz_rel1 {a d τ i : Nat} {P P' : Nat → Bool} {R R' U U' : Nat → Nat} (had : a ≤ d) (hd : τ ≤ d) (hT : 1 ≤ T i) (hn : 1 ≤ num)
    (h1 : τ % T i = 0 → P' i = true → R' i = τ ∧ U' i = 0) (h2 : τ % T i ≠ 0 → P' i = true → P i = true ∧ R' i = R i ∧ U' i = U i) :
    qz_w num e H T cl ch a d P' R' U' i + qz_fu num e H T cl ch a d (τ + 1) i ≤ qz_w num e H T cl ch a d P R U i + qz_fu num e H T cl ch a d τ i := by
  by_cases hz : τ % T i = 0
  · cases hp : P' i with
    | false =>
      rw [qz_w_f num e H T cl ch hp, Nat.zero_add]
      refine Nat.le_trans ?_ (Nat.le_add_left _ _)
      unfold qz_fu
      by_cases hl : τ < d
      · rw [show d - τ = (d - (τ + 1)) + 1 from by omega, qz_fs_s]
        exact Nat.le_add_left _ _
      · rw [show d - (τ + 1) = 0 from by omega]
        exact Nat.zero_le _
    | true =>
      obtain ⟨k1, k2⟩ := h1 hz hp
      rw [qz_w_t num e H T cl ch hp, k1, k2]
      refine Nat.le_trans ?_ (Nat.le_add_left _ _)
      unfold qz_fu
      by_cases hl : τ < d
      · rw [show d - τ = (d - (τ + 1)) + 1 from by omega, qz_fs_s]
        refine Nat.add_le_add_right ?_ _
        unfold qz_f
        rw [if_pos hz]
        exact Nat.le_refl _
      · have hd' : τ = d := by omega
        rw [show d - (τ + 1) = 0 from by omega, show d - τ = 0 from by omega]
        show qz_c (H i) (T i) (cl i) (ch i) num e a d τ 0 + 0 ≤ 0
        rw [hd']
        have hV : (d + T i) * (num + e) > a * e + num * d := by
          have k3 : (d + T i) * (num + e) = d * num + d * e + T i * (num + e) := by rw [Nat.add_mul, Nat.mul_add]
          have k4 : a * e ≤ d * e := Nat.mul_le_mul_right e had
          have k5 : 0 < T i * (num + e) := Nat.mul_pos hT (by omega)
          have k6 : num * d = d * num := Nat.mul_comm _ _
          omega
        cases H i with
        | false =>
          simp only [qz_c_f, qz_c_t]
          rw [if_neg (by omega)]
          exact Nat.le_refl _
        | true =>
          simp only [qz_c_f, qz_c_t]
          rw [if_neg (by omega), if_neg (by omega)]
          exact Nat.le_refl _
  · have hf : qz_fu num e H T cl ch a d (τ + 1) i ≤ qz_fu num e H T cl ch a d τ i := by
      unfold qz_fu
      by_cases hl : τ < d
      · rw [show d - τ = (d - (τ + 1)) + 1 from by omega, qz_fs_s]
        exact Nat.le_add_left _ _
      · rw [show d - (τ + 1) = 0 from by omega]
        exact Nat.zero_le _
    refine Nat.add_le_add (qz_w_mono num e H T cl ch fun hp => ?_) hf
    obtain ⟨k1, k2, k3⟩ := h2 hz hp
    exact ⟨k1, k2, by omega⟩
theorem qz_rel (hA : qz_adm n num e L H T cl ch q) {τ : Nat} {P P' : Nat → Bool} {R R' U U' : Nat → Nat} (I : qz_I n num e H T cl ch P R U τ τ)
    (h1 : ∀ i, i < n → τ % T i = 0 → P' i = true → R' i = τ ∧ U' i = 0) (h2 : ∀ i, i < n → τ % T i ≠ 0 → P' i = true → P i = true ∧ R' i = R i ∧ U' i = U i) :
    qz_I n num e H T cl ch P' R' U' τ (τ + 1) := by
  intro a d had htd
  refine Nat.le_trans (qz_sum_le n fun i hi => ?_) (I a d had htd)
  exact qz_rel1 num e H T cl ch had htd (hA.2.2.1 i hi).1 hA.1 (h1 i hi) (h2 i hi)
theorem qz_relJ (hA : qz_adm n num e L H T cl ch q) {τ : Nat} {P P' : Nat → Bool} {R R' U U' : Nat → Nat} (I : qz_J n num e H T cl ch P R U τ τ)
    (h1 : ∀ i, i < n → H i = true → τ % T i = 0 → P' i = true → R' i = τ ∧ U' i = 0) (h2 : ∀ i, i < n → H i = true → τ % T i ≠ 0 → P' i = true → P i = true ∧ R' i = R i ∧ U' i = U i) :
    qz_J n num e H T cl ch P' R' U' τ (τ + 1) := by
  intro d htd
  refine Nat.le_trans (qz_sum_le n fun i hi => ?_) (I d htd)
  cases hh : H i with
  | false => rw [qz_h_f num e H T cl ch hh]; exact Nat.zero_le _
  | true =>
    rw [qz_h_t num e H T cl ch hh, qz_h_t num e H T cl ch hh]
    exact qz_rel1 num e H T cl ch (Nat.zero_le d) htd (hA.2.2.1 i hi).1 hA.1 (h1 i hi hh) (h2 i hi hh)
/-- no job is late -/
theorem qz_intimeL {P : Nat → Bool} {R U : Nat → Nat} {t τ i : Nat} (I : qz_I n num e H T cl ch P R U t τ) (hi : i < n) (hp : P i = true) (h1 : U i < cl i) (h2 : U i < ch i) : t < R i + T i := by
  refine Nat.lt_of_not_le fun z => ?_
  cases hh : H i with
  | false =>
    have h := I t t (Nat.le_refl t) (Nat.le_refl t)
    have h3 := qz_sum_ge (f := fun i => qz_w num e H T cl ch t t P R U i + qz_fu num e H T cl ch t t τ i) n i hi
    have h4 : qz_w num e H T cl ch t t P R U i = cl i - U i := by
      rw [qz_w_t num e H T cl ch hp, hh]
      simp only [qz_c_f, qz_c_t]
      have k : (R i + T i) * (num + e) ≤ t * e + num * t := by
        have k1 := Nat.mul_le_mul_right (num + e) z
        rw [Nat.mul_add t, Nat.mul_comm t num] at k1
        omega
      rw [if_pos k]
    have h5 : qz_w num e H T cl ch t t P R U i + qz_fu num e H T cl ch t t τ i ≤ t - t := Nat.le_trans h3 h
    omega
  | true =>
    have h := I 0 t (Nat.zero_le t) (Nat.le_refl t)
    have h3 := qz_sum_ge (f := fun i => qz_w num e H T cl ch 0 t P R U i + qz_fu num e H T cl ch 0 t τ i) n i hi
    have h4 : qz_w num e H T cl ch 0 t P R U i = ch i - U i := by
      rw [qz_w_t num e H T cl ch hp, hh]
      simp only [qz_c_f, qz_c_t]
      rw [if_neg (Nat.not_lt_zero _), if_pos z]
    have h5 : qz_w num e H T cl ch 0 t P R U i + qz_fu num e H T cl ch 0 t τ i ≤ t - t := Nat.le_trans h3 h
    omega
theorem qz_intimeJ {P : Nat → Bool} {R U : Nat → Nat} {t τ i : Nat} (I : qz_J n num e H T cl ch P R U t τ) (hi : i < n) (hp : P i = true) (hh : H i = true) (h2 : U i < ch i) : t < R i + T i := by
  refine Nat.lt_of_not_le fun z => ?_
  have h := I t (Nat.le_refl t)
  have h3 := qz_sum_ge (f := qz_h num e H T cl ch t P R U τ) n i hi
  have h4 : qz_w num e H T cl ch 0 t P R U i = ch i - U i := by
    rw [qz_w_t num e H T cl ch hp, hh]
    simp only [qz_c_f, qz_c_t]
    rw [if_neg (Nat.not_lt_zero _), if_pos z]
  rw [qz_h_t num e H T cl ch hh] at h3
  omega
/-- the key in LO mode -/
def qz_key (R : Nat → Nat) (i : Nat) : Nat := match H i with
  | false => (R i + T i) * (num + e)
  | true => R i * (num + e) + num * T i
/-- the job that runs has the least key, in LO mode: a counted job falls by one, or no pending one is counted but late HI ones -/
theorem qz_stepL (hA : qz_adm n num e L H T cl ch q) {P P' : Nat → Bool} {R U U' : Nat → Nat} {t j : Nat} (I : qz_I n num e H T cl ch P R U t (t + 1))
    (hj : j < n) (hp : P j = true) (hk : ∀ i, i < n → P i = true → qz_key num e H T R j ≤ qz_key num e H T R i)
    (hR : ∀ i, i < n → P i = true → R i ≤ t) (hU : ∀ i, i < n → P i = true → U i < cl i)
    (hP' : ∀ i, i < n → P' i = true → P i = true) (hUj : U' j = U j + 1) (hUi : ∀ i, i < n → i ≠ j → U' i = U i) :
    qz_I n num e H T cl ch P' R U' (t + 1) (t + 1) := by
  have hmono : ∀ i, i < n → P' i = true → P i = true ∧ R i = R i ∧ U i ≤ U' i := by
    intro i hi h
    refine ⟨hP' i hi h, rfl, ?_⟩
    by_cases w : i = j
    · subst w; omega
    · rw [hUi i hi w]; exact Nat.le_refl _
  have hdec : ∀ a d, a ≤ d → t + 1 ≤ d → 1 ≤ qz_c (H j) (T j) (cl j) (ch j) num e a d (R j) (U j) → qz_sum (fun i => qz_w num e H T cl ch a d P' R U' i + qz_fu num e H T cl ch a d (t + 1) i) n ≤ d - (t + 1) := by
    intro a d had htd h1
    have h2 := qz_sum_dec (f := fun i => qz_w num e H T cl ch a d P' R U' i + qz_fu num e H T cl ch a d (t + 1) i) (g := fun i => qz_w num e H T cl ch a d P R U i + qz_fu num e H T cl ch a d (t + 1) i) n
      (fun i hi => Nat.add_le_add_right (qz_w_mono num e H T cl ch (hmono i hi)) _) j hj ?_
    · have h3 := I a d had (by omega)
      omega
    · have h4 : qz_w num e H T cl ch a d P' R U' j + 1 ≤ qz_w num e H T cl ch a d P R U j := by
        rw [qz_w_t num e H T cl ch hp]
        cases hq : P' j with
        | false => rw [qz_w_f num e H T cl ch hq]; omega
        | true => rw [qz_w_t num e H T cl ch hq, hUj]; exact qz_c_d _ _ _ _ _ _ _ _ _ _ h1
      show qz_w num e H T cl ch a d P' R U' j + qz_fu num e H T cl ch a d (t + 1) j + 1 ≤ qz_w num e H T cl ch a d P R U j + qz_fu num e H T cl ch a d (t + 1) j
      omega
  intro a d had htd
  by_cases hc : 1 ≤ qz_c (H j) (T j) (cl j) (ch j) num e a d (R j) (U j)
  · exact hdec a d had htd hc
  · have hA' := hA
    obtain ⟨n1, _, hT, _, _⟩ := hA'
    have hcl : ∀ i, i < n → P i = true → U i < ch i := fun i hi h => Nat.lt_of_lt_of_le (hU i hi h) (hT i hi).2.2.2.1
    have hVk : a * e + num * d < qz_key num e H T R j := by
      refine Nat.lt_of_not_le fun z => hc ?_
      unfold qz_key at z
      cases hh : H j with
      | false =>
        rw [hh] at z
        simp only [qz_c_f, qz_c_t]
        rw [if_pos z]
        have := hU j hj hp
        omega
      | true =>
        rw [hh] at z
        simp only [qz_c_f, qz_c_t]
        by_cases hra : R j < a
        · rw [if_pos hra, if_pos z]
          have := hU j hj hp
          omega
        · rw [if_neg hra]
          have hrd : R j + T j ≤ d := by
            refine Nat.le_of_not_lt fun w => ?_
            have z' : R j * (num + e) + num * T j ≤ a * e + num * d := z
            have k1 : R j * (num + e) = num * R j + R j * e := by rw [Nat.mul_add, Nat.mul_comm (R j) num]
            have k2 : a * e ≤ R j * e := Nat.mul_le_mul_right e (by omega)
            have k3 : num * R j + num * T j = num * (R j + T j) := (Nat.mul_add _ _ _).symm
            have k4 : num * (d + 1) ≤ num * (R j + T j) := Nat.mul_le_mul_left num (by omega)
            have k5 : num * (d + 1) = num * d + num := Nat.mul_succ num d
            omega
          rw [if_pos hrd]
          have := hcl j hj hp
          omega
    by_cases hx : ∃ i, i < n ∧ P i = true ∧ H i = true ∧ a ≤ R i ∧ R i + T i ≤ d
    · obtain ⟨m, ⟨i1, hi1, hp1, hh1, ha1, hd1, he1⟩, hmin⟩ : ∃ m, (∃ i, i < n ∧ P i = true ∧ H i = true ∧ a ≤ R i ∧ R i + T i ≤ d ∧ R i = m) ∧ ∀ k, k < m → ¬ ∃ i, i < n ∧ P i = true ∧ H i = true ∧ a ≤ R i ∧ R i + T i ≤ d ∧ R i = k := by
        obtain ⟨i, h1, h2, h3, h4, h5⟩ := hx
        exact pk_least (fun m => ∃ i, i < n ∧ P i = true ∧ H i = true ∧ a ≤ R i ∧ R i + T i ≤ d ∧ R i = m) ⟨R i, i, h1, h2, h3, h4, h5, rfl⟩
      have ham : a ≤ m := by omega
      have hmd : m ≤ d := by omega
      have hmt : m ≤ t := by have := hR i1 hi1 hp1; omega
      have hV : a * e + num * d ≤ m * e + num * d := Nat.add_le_add_right (Nat.mul_le_mul_right e ham) _
      have hkj : qz_key num e H T R j ≤ m * e + num * d := by
        refine Nat.le_trans (hk i1 hi1 hp1) ?_
        unfold qz_key
        rw [hh1]
        show R i1 * (num + e) + num * T i1 ≤ _
        rw [he1]
        have k1 : m * (num + e) = num * m + m * e := by rw [Nat.mul_add, Nat.mul_comm m num]
        have k2 : num * m + num * T i1 ≤ num * d := by rw [← Nat.mul_add]; exact Nat.mul_le_mul_left num (by omega)
        omega
      have hcj : 1 ≤ qz_c (H j) (T j) (cl j) (ch j) num e m d (R j) (U j) := by
        have u1 := hU j hj hp
        have u2 := hcl j hj hp
        unfold qz_key at hkj
        cases hh : H j with
        | false =>
          rw [hh] at hkj
          simp only [qz_c_f, qz_c_t]
          rw [if_pos hkj]
          omega
        | true =>
          rw [hh] at hkj
          simp only [qz_c_f, qz_c_t]
          by_cases hra : R j < m
          · rw [if_pos hra, if_pos hkj]
            omega
          · rw [if_neg hra]
            have hrd : R j + T j ≤ d := by
              refine Nat.le_of_not_lt fun w => ?_
              have z' : R j * (num + e) + num * T j ≤ m * e + num * d := hkj
              have k1 : R j * (num + e) = num * R j + R j * e := by rw [Nat.mul_add, Nat.mul_comm (R j) num]
              have k2 : m * e ≤ R j * e := Nat.mul_le_mul_right e (by omega)
              have k3 : num * R j + num * T j = num * (R j + T j) := (Nat.mul_add _ _ _).symm
              have k4 : num * (d + 1) ≤ num * (R j + T j) := Nat.mul_le_mul_left num (by omega)
              have k5 : num * (d + 1) = num * d + num := Nat.mul_succ num d
              omega
            rw [if_pos hrd]
            omega
      refine Nat.le_trans (qz_sum_le n fun i hi => ?_) (hdec m d hmd htd hcj)
      refine Nat.add_le_add ?_ ?_
      · cases hq : P' i with
        | false => rw [qz_w_f num e H T cl ch hq]; exact Nat.zero_le _
        | true =>
          rw [qz_w_t num e H T cl ch hq, qz_w_t num e H T cl ch hq]
          have hpi := hP' i hi hq
          cases hh : H i with
          | false =>
            simp only [qz_c_f, qz_c_t]
            split
            · rw [if_pos (by omega)]; exact Nat.le_refl _
            · exact Nat.zero_le _
          | true =>
            simp only [qz_c_f, qz_c_t]
            by_cases hra : R i < a
            · rw [if_pos hra, if_pos (by omega : R i < m)]
              split
              · rw [if_pos (by omega)]; exact Nat.le_refl _
              · exact Nat.zero_le _
            · rw [if_neg hra]
              by_cases hrd : R i + T i ≤ d
              · have hmi : m ≤ R i := by
                  refine Nat.le_of_not_lt fun w => hmin (R i) w ⟨i, hi, hpi, hh, by omega, hrd, rfl⟩
                rw [if_neg (by omega : ¬ R i < m)]
                exact Nat.le_refl _
              · rw [if_neg hrd]; exact Nat.zero_le _
      · have hf : ∀ K b, t + 1 ≤ b → qz_fs (qz_f (H i) (T i) (cl i) (ch i) num e a d) K b ≤ qz_fs (qz_f (H i) (T i) (cl i) (ch i) num e m d) K b := by
          intro K
          induction K with
          | zero => intro b _; exact Nat.le_refl _
          | succ K ih =>
            intro b hb
            rw [qz_fs_s, qz_fs_s]
            refine Nat.add_le_add ?_ (ih (b + 1) (by omega))
            unfold qz_f
            split
            · cases H i with
              | false =>
                simp only [qz_c_f, qz_c_t]
                split
                · rw [if_pos (by omega)]; exact Nat.le_refl _
                · exact Nat.zero_le _
              | true =>
                simp only [qz_c_f, qz_c_t]
                rw [if_neg (by omega : ¬ b < a), if_neg (by omega : ¬ b < m)]
                exact Nat.le_refl _
            · exact Nat.le_refl _
        exact hf _ _ (Nat.le_refl _)
    · refine Nat.le_trans (qz_sum_le n fun i hi => ?_) (qz_base n num e L H T cl ch q hA a d (t + 1) had htd)
      have hw : qz_w num e H T cl ch a d P' R U' i = 0 := by
        cases hq : P' i with
        | false => exact qz_w_f num e H T cl ch hq
        | true =>
          rw [qz_w_t num e H T cl ch hq]
          have hpi := hP' i hi hq
          have hki := hk i hi hpi
          unfold qz_key at hki
          cases hh : H i with
          | false =>
            rw [hh] at hki
            have hki' : qz_key num e H T R j ≤ (R i + T i) * (num + e) := hki
            simp only [qz_c_f, qz_c_t]
            rw [if_neg (by omega)]
          | true =>
            rw [hh] at hki
            have hki' : qz_key num e H T R j ≤ R i * (num + e) + num * T i := hki
            simp only [qz_c_f, qz_c_t]
            by_cases hra : R i < a
            · rw [if_pos hra, if_neg (by omega)]
            · rw [if_neg hra]
              by_cases hrd : R i + T i ≤ d
              · exact absurd ⟨i, hi, hpi, hh, by omega, hrd⟩ hx
              · rw [if_neg hrd]
      show qz_w num e H T cl ch a d P' R U' i + _ ≤ _
      rw [hw, Nat.zero_add]
      exact Nat.le_refl _
/-- in HI mode -/
theorem qz_stepH (hA : qz_adm n num e L H T cl ch q) {P P' : Nat → Bool} {R U U' : Nat → Nat} {t j : Nat} (I : qz_J n num e H T cl ch P R U t (t + 1))
    (hj : j < n) (hp : P j = true) (hh : H j = true) (hk : ∀ i, i < n → P i = true → R j + T j ≤ R i + T i) (hU : U j < ch j)
    (hP' : ∀ i, i < n → P' i = true → P i = true) (hUj : U' j = U j + 1) (hUi : ∀ i, i < n → i ≠ j → U' i = U i) :
    qz_J n num e H T cl ch P' R U' (t + 1) (t + 1) := by
  have hmono : ∀ i, i < n → P' i = true → P i = true ∧ R i = R i ∧ U i ≤ U' i := by
    intro i hi h
    refine ⟨hP' i hi h, rfl, ?_⟩
    by_cases w : i = j
    · subst w; omega
    · rw [hUi i hi w]; exact Nat.le_refl _
  intro d htd
  by_cases hd : R j + T j ≤ d
  · have hc : 1 ≤ qz_c (H j) (T j) (cl j) (ch j) num e 0 d (R j) (U j) := by
      rw [hh]
      simp only [qz_c_f, qz_c_t]
      rw [if_neg (Nat.not_lt_zero _), if_pos hd]
      omega
    have h2 := qz_sum_dec (f := qz_h num e H T cl ch d P' R U' (t + 1)) (g := qz_h num e H T cl ch d P R U (t + 1)) n ?_ j hj ?_
    · have h3 := I d (by omega)
      omega
    · intro i hi
      cases hi' : H i with
      | false => rw [qz_h_f num e H T cl ch hi']; exact Nat.zero_le _
      | true =>
        rw [qz_h_t num e H T cl ch hi', qz_h_t num e H T cl ch hi']
        exact Nat.add_le_add_right (qz_w_mono num e H T cl ch (hmono i hi)) _
    · rw [qz_h_t num e H T cl ch hh, qz_h_t num e H T cl ch hh]
      have h4 : qz_w num e H T cl ch 0 d P' R U' j + 1 ≤ qz_w num e H T cl ch 0 d P R U j := by
        rw [qz_w_t num e H T cl ch hp]
        cases hq : P' j with
        | false => rw [qz_w_f num e H T cl ch hq]; omega
        | true => rw [qz_w_t num e H T cl ch hq, hUj]; exact qz_c_d _ _ _ _ _ _ _ _ _ _ hc
      omega
  · refine Nat.le_trans (qz_sum_le n fun i hi => ?_) (qz_base n num e L H T cl ch q hA 0 d (t + 1) (Nat.zero_le d) htd)
    cases hi' : H i with
    | false => rw [qz_h_f num e H T cl ch hi']; exact Nat.zero_le _
    | true =>
      rw [qz_h_t num e H T cl ch hi']
      have hw : qz_w num e H T cl ch 0 d P' R U' i = 0 := by
        cases hq : P' i with
        | false => exact qz_w_f num e H T cl ch hq
        | true =>
          rw [qz_w_t num e H T cl ch hq, hi']
          have := hk i hi (hP' i hi hq)
          simp only [qz_c_f, qz_c_t]
          rw [if_neg (Nat.not_lt_zero _), if_neg (by omega)]
      rw [hw, Nat.zero_add]
      exact Nat.le_refl _
end
end
section
/-! places, the end of a job, the release of a job -/
theorem kz_cl {j : Nat} (h : j < 8) : (nI j).toNatClampNeg = j := nI_clamp (by omega)
theorem kz_v8 {j : Nat} (h : j < 8) : vp_in (nI j) 8 := vp_in_nI h (by omega)
theorem kz_xe (k j : Nat) : nI k * 8 + nI j = nI (k * 8 + j) := by
  rw [show (8 : Int32) = nI 8 from rfl, pk_mul, nI_add]
theorem kz_xc {k j : Nat} (hk : k < 6) (hj : j < 8) : (nI k * 8 + nI j).toNatClampNeg = k * 8 + j := by
  rw [kz_xe]; exact nI_clamp (by omega)
theorem kz_xv {k j : Nat} (hk : k < 6) (hj : j < 8) : vp_in (nI k * 8 + nI j) 48 := by
  rw [kz_xe]; exact vp_in_nI (by omega) (by omega)
theorem kz_s0 {j : Nat} (hj : j < 8) : ((0 : Int32) + nI j).toNatClampNeg = 0 * 8 + j := by
  rw [show (0 : Int32) = nI 0 from rfl, nI_add, show 0 + j = 0 * 8 + j from by omega]; exact nI_clamp (by omega)
theorem kz_sv0 {j : Nat} (hj : j < 8) : vp_in ((0 : Int32) + nI j) 48 := by
  rw [show (0 : Int32) = nI 0 from rfl, nI_add]; exact vp_in_nI (by omega) (by omega)
theorem kz_s4 {j : Nat} (hj : j < 8) : ((32 : Int32) + nI j).toNatClampNeg = 4 * 8 + j := by
  rw [show (32 : Int32) = nI 32 from rfl, nI_add, show 32 + j = 4 * 8 + j from by omega]; exact nI_clamp (by omega)
theorem kz_sv4 {j : Nat} (hj : j < 8) : vp_in ((32 : Int32) + nI j) 48 := by
  rw [show (32 : Int32) = nI 32 from rfl, nI_add]; exact vp_in_nI (by omega) (by omega)
theorem kz_nm1 {i : Nat} (h : i < 2 ^ 31) : ¬ nI i = -1 := by
  intro e
  have h1 := nI_pos h
  rw [e] at h1
  exact h1 (by decide)
theorem kz_xej (n t : Nat) (kc ad md la xn xd : Int32) (pe cr lo hi nx : Nat → Int32) (pd dn dm cX st : Nat → Int32) (rX : Nat → Int64) (k j : Nat) (hk : k < 6) (hj : j < 8) (post : St2 → Prop)
    (hp : post (kc, (nI n), ad, (lN t), md, la, xn, xd, pe, cr, lo, hi, nx, upd pd j (0), rX, dn, dm, upd cX (k * 8 + j) (cX (k * 8 + j) + 1), st)) : wpX_endJob post (kc, (nI n), ad, (lN t), md, la, xn, xd, pe, cr, lo, hi, nx, pd, rX, dn, dm, cX, st) (nI j) (nI k) := by
  unfold wpX_endJob
  dsimp only
  rw [kz_cl hj, kz_xc hk hj]
  refine ⟨kz_v8 hj, fun a ea => ⟨kz_xv hk hj, kz_xv hk hj, fun b eb => ?_⟩⟩
  subst ea; subst eb
  exact hp
theorem kz_xrj1 (n t : Nat) (kc ad md la xn xd : Int32) (pe cr lo hi nx : Nat → Int32) (pd dn dm cX st : Nat → Int32) (rX : Nat → Int64) (j : Nat) (hj : j < 8) (h1 : md = 1) (h0 : cr j = 0) (post : St2 → Prop)
    (hp : post (kc, (nI n), ad, (lN t), md, la, xn, xd, pe, cr, lo, hi, nx, pd, rX, dn, dm, upd cX (4 * 8 + j) (cX (4 * 8 + j) + 1), st)) : wpX_releaseJob post (kc, (nI n), ad, (lN t), md, la, xn, xd, pe, cr, lo, hi, nx, pd, rX, dn, dm, cX, st) (nI j) := by
  unfold wpX_releaseJob
  dsimp only
  rw [kz_cl hj, kz_s4 hj]
  refine br_t h1 ⟨kz_v8 hj, br_t h0 ⟨kz_sv4 hj, kz_sv4 hj, fun b eb => ?_⟩⟩
  subst eb
  exact hp
theorem kz_xrj2 (n t : Nat) (kc ad md la xn xd : Int32) (pe cr lo hi nx : Nat → Int32) (pd dn dm cX st : Nat → Int32) (rX : Nat → Int64) (j : Nat) (hj : j < 8) (h : ¬ (md = 1 ∧ cr j = 0)) (post : St2 → Prop)
    (hp : post (kc, (nI n), ad, (lN t), md, la, xn, xd, pe, cr, lo, hi, nx, upd pd j (1), vp_updL rX j (lN t), upd dn j 0, upd dm j (nx j), upd cX (0 * 8 + j) (cX (0 * 8 + j) + 1), st)) : wpX_releaseJob post (kc, (nI n), ad, (lN t), md, la, xn, xd, pe, cr, lo, hi, nx, pd, rX, dn, dm, cX, st) (nI j) := by
  have k : wX_releaseJob_31 post (nI j) kc (nI n) ad (lN t) md la xn xd pe cr lo hi nx pd rX dn dm cX st := by
    unfold wX_releaseJob_31
    rw [kz_cl hj, kz_s0 hj]
    refine ⟨kz_sv0 hj, kz_sv0 hj, fun a1 e1 => ⟨kz_v8 hj, fun a2 e2 => ⟨kz_v8 hj, fun a3 e3 => ⟨kz_v8 hj, fun a4 e4 => ⟨kz_v8 hj, kz_v8 hj, fun a5 e5 => ?_⟩⟩⟩⟩⟩
    subst e1; subst e2; subst e3; subst e4; subst e5
    exact hp
  unfold wpX_releaseJob
  dsimp only
  rw [kz_cl hj]
  by_cases m : md = 1
  · exact br_t m ⟨kz_v8 hj, br_f (fun z => h ⟨m, z⟩) k⟩
  · exact br_f m k
end
section
/-! the loops of the component, with what they change -/
theorem kz_nle {n : Nat} (hn : n ≤ 8) : nI n ≤ nI n := nI_le (Nat.le_refl n) (by omega)
/-- the row of missed jobs is the same -/
def rz_Z (cX cX' : Nat → Int32) : Prop := ∀ j, j < 8 → cX' (5 * 8 + j) = cX (5 * 8 + j)
theorem rz_Z_r (cX : Nat → Int32) : rz_Z cX cX := fun _ _ => rfl
theorem rz_Z_t {a b c : Nat → Int32} (h : rz_Z a b) (g : rz_Z b c) : rz_Z a c := fun j hj => (g j hj).trans (h j hj)
theorem rz_Z_u (cX : Nat → Int32) (k j : Nat) (x : Int32) (hk : k < 5) (hj : j < 8) : rz_Z cX (upd cX (k * 8 + j) x) := fun i hi => pk_un (by omega)
/-- a job of i is released at t -/
def rz_r (t : Nat) (md : Int32) (pe cr : Nat → Int32) (i : Nat) : Prop := t % (pe i).toNatClampNeg = 0 ∧ ¬ (md = 1 ∧ cr i = 0)
def rz_same (pd pd' : Nat → Int32) (rX rX' : Nat → Int64) (dn dn' : Nat → Int32) (i : Nat) : Prop := pd' i = pd i ∧ rX' i = rX i ∧ dn' i = dn i
def rz_new (t : Nat) (pd' : Nat → Int32) (rX' : Nat → Int64) (dn' : Nat → Int32) (i : Nat) : Prop := pd' i = 1 ∧ rX' i = lN t ∧ dn' i = 0
theorem rz_rel (n t : Nat) (kc ad md la xn xd : Int32) (pe cr lo hi nx : Nat → Int32) (st : Nat → Int32) (hT : kz_T n pe lo hi cr) (hn : n ≤ 8) (ht : t < 2 ^ 31) : ∀ d j, j + d = n → ∀ (pd : Nat → Int32) (rX : Nat → Int64) (dn dm cX : Nat → Int32),
    ∃ (pd' : Nat → Int32) (rX' : Nat → Int64) (dn' dm' cX' : Nat → Int32), rz_Z cX cX' ∧ (∀ i, i < j → rz_same pd pd' rX rX' dn dn' i)
      ∧ (∀ i, j ≤ i → i < n → (rz_r t md pe cr i → rz_new t pd' rX' dn' i) ∧ (¬ rz_r t md pe cr i → rz_same pd pd' rX rX' dn dn' i))
      ∧ (∀ post : St2 → Prop, wX_releaseJobs_2 post 1 (nI n) kc (nI n) ad (lN t) md la xn xd pe cr lo hi nx pd' rX' dn' dm' cX' st → wX_releaseJobs_2 post (d + 1) (nI j) kc (nI n) ad (lN t) md la xn xd pe cr lo hi nx pd rX dn dm cX st) := by
  intro d
  induction d with
  | zero =>
    intro j hj pd rX dn dm cX
    have e : j = n := by omega
    rw [e]
    exact ⟨pd, rX, dn, dm, cX, rz_Z_r cX, fun _ _ => ⟨rfl, rfl, rfl⟩, fun i h1 h2 => absurd h2 (by omega), fun _ h => h⟩
  | succ d ih =>
    intro j hj pd rX dn dm cX
    have hj8 : j < 8 := by omega
    have hge : ¬ nI n ≤ nI j := nI_ge (by omega) (by omega)
    have hv := kz_v8 hj8
    have ec := kz_cl hj8
    obtain ⟨p, ep, hp1, hp16⟩ := kz_T_p hT (show j < n by omega)
    have nX : ¬ (pe (nI j).toNatClampNeg).toInt64 = 0 := by
      rw [ec, ep, nI_l (by omega), show (0 : Int64) = lN 0 from rfl, lN_eq (by omega) (by omega)]; omega
    have qX : (lN t - lN t / (pe (nI j).toNatClampNeg).toInt64 * (pe (nI j).toNatClampNeg).toInt64 = 0) ↔ t % (pe j).toNatClampNeg = 0 := by
      have hm := Nat.mod_le t p
      rw [ec, ep, nI_l (by omega), nI_clamp (by omega), pk_lRem (by omega) (by omega) (by omega), show (0 : Int64) = lN 0 from rfl, lN_eq (by omega) (by omega)]
    by_cases z : t % (pe j).toNatClampNeg = 0
    · have zX := qX.mpr z
      by_cases m : md = 1 ∧ cr j = 0
      · obtain ⟨pd', rX', dn', dm', cX', g1, g2, g3, g4⟩ := ih (j + 1) (by omega) pd rX dn dm (upd cX (4 * 8 + j) (cX (4 * 8 + j) + 1))
        refine ⟨pd', rX', dn', dm', cX', rz_Z_t (rz_Z_u cX 4 j _ (by omega) hj8) g1, fun i h1 => g2 i (by omega), fun i h1 h2 => ?_, fun post h => ?_⟩
        · by_cases e : i = j
          · subst e
            exact ⟨fun r => absurd m r.2, fun _ => g2 i (by omega)⟩
          · exact g3 i (by omega) h2
        · refine br_f hge ⟨hv, nX, br_t zX ?_⟩
          exact kz_xrj1 n t kc ad md la xn xd pe cr lo hi nx pd dn dm cX st rX j hj8 m.1 m.2 _ (nm_r (nI_1 j) (g4 post h))
      · obtain ⟨pd', rX', dn', dm', cX', g1, g2, g3, g4⟩ := ih (j + 1) (by omega) (upd pd j 1) (vp_updL rX j (lN t)) (upd dn j 0) (upd dm j (nx j)) (upd cX (0 * 8 + j) (cX (0 * 8 + j) + 1))
        refine ⟨pd', rX', dn', dm', cX', rz_Z_t (rz_Z_u cX 0 j _ (by omega) hj8) g1, fun i h1 => ?_, fun i h1 h2 => ?_, fun post h => ?_⟩
        · obtain ⟨k1, k2, k3⟩ := g2 i (by omega)
          rw [pk_un (by omega)] at k1 k3
          rw [pk_uLn (by omega)] at k2
          exact ⟨k1, k2, k3⟩
        · by_cases e : i = j
          · subst e
            refine ⟨fun _ => ?_, fun r => absurd ⟨z, m⟩ r⟩
            obtain ⟨k1, k2, k3⟩ := g2 i (by omega)
            rw [pk_us] at k1 k3
            rw [pk_uLs] at k2
            exact ⟨k1, k2, k3⟩
          · obtain ⟨k4, k5⟩ := g3 i (by omega) h2
            refine ⟨k4, fun r => ?_⟩
            obtain ⟨k1, k2, k3⟩ := k5 r
            rw [pk_un e] at k1 k3
            rw [pk_uLn e] at k2
            exact ⟨k1, k2, k3⟩
        · refine br_f hge ⟨hv, nX, br_t zX ?_⟩
          exact kz_xrj2 n t kc ad md la xn xd pe cr lo hi nx pd dn dm cX st rX j hj8 m _ (nm_r (nI_1 j) (g4 post h))
    · obtain ⟨pd', rX', dn', dm', cX', g1, g2, g3, g4⟩ := ih (j + 1) (by omega) pd rX dn dm cX
      refine ⟨pd', rX', dn', dm', cX', g1, fun i h1 => g2 i (by omega), fun i h1 h2 => ?_, fun post h => ?_⟩
      · by_cases e : i = j
        · subst e
          exact ⟨fun r => absurd r.1 z, fun _ => g2 i (by omega)⟩
        · exact g3 i (by omega) h2
      · exact br_f hge ⟨hv, nX, br_f (fun q => z (qX.mp q)) (nm_r (nI_1 j) (g4 post h))⟩
theorem rz_release (n t : Nat) (kc ad md la xn xd : Int32) (pe cr lo hi nx : Nat → Int32) (st : Nat → Int32) (hT : kz_T n pe lo hi cr) (hn : n ≤ 8) (ht : t < 2 ^ 31) (pd : Nat → Int32) (rX : Nat → Int64) (dn dm cX : Nat → Int32) :
    ∃ (pd' : Nat → Int32) (rX' : Nat → Int64) (dn' dm' cX' : Nat → Int32), rz_Z cX cX'
      ∧ (∀ i, i < n → (rz_r t md pe cr i → rz_new t pd' rX' dn' i) ∧ (¬ rz_r t md pe cr i → rz_same pd pd' rX rX' dn dn' i))
      ∧ (∀ post : St2 → Prop, post (kc, (nI n), ad, (lN t), md, la, xn, xd, pe, cr, lo, hi, nx, pd', rX', dn', dm', cX', st) → wpX_releaseJobs post (kc, (nI n), ad, (lN t), md, la, xn, xd, pe, cr, lo, hi, nx, pd, rX, dn, dm, cX, st)) := by
  obtain ⟨pd', rX', dn', dm', cX', g1, g2, g3, g4⟩ := rz_rel n t kc ad md la xn xd pe cr lo hi nx st hT hn ht n 0 (by omega) pd rX dn dm cX
  refine ⟨pd', rX', dn', dm', cX', g1, fun i hi' => g3 i (Nat.zero_le i) hi', fun post h => ⟨n + 1, ?_⟩⟩
  exact g4 post (br_t (kz_nle hn) h)
theorem rz_miss (n t : Nat) (kc ad md la xn xd : Int32) (pe cr lo hi nx : Nat → Int32) (pd dn dm cX st : Nat → Int32) (rX : Nat → Int64) (hn : n ≤ 8) (hM : ∀ i, i < n → ¬ pd i = 0 → lN t < rX i + (pe i).toInt64) (post : St2 → Prop) (h : wX_missDeadlines_2 post 1 (nI n) kc (nI n) ad (lN t) md la xn xd pe cr lo hi nx pd rX dn dm cX st) : ∀ d j, j + d = n → wX_missDeadlines_2 post (d + 1) (nI j) kc (nI n) ad (lN t) md la xn xd pe cr lo hi nx pd rX dn dm cX st := by
  intro d
  induction d with
  | zero =>
    intro j hj
    have e : j = n := by omega
    rw [e]
    exact h
  | succ d ih =>
    intro j hj
    have hj8 : j < 8 := by omega
    have hge : ¬ nI n ≤ nI j := nI_ge (by omega) (by omega)
    have hv := kz_v8 hj8
    have ec := kz_cl hj8
    by_cases z : pd j = 0
    · exact br_f hge ⟨hv, br_t (by rw [ec]; exact z) (nm_r (nI_1 j) (ih (j + 1) (by omega)))⟩
    · refine br_f hge ⟨hv, br_f (by rw [ec]; exact z) ⟨hv, hv, br_t ?_ (nm_r (nI_1 j) (ih (j + 1) (by omega)))⟩⟩
      rw [ec]
      exact hM j (by omega) z
theorem rz_any (n t : Nat) (kc ad md la xn xd : Int32) (pe cr lo hi nx : Nat → Int32) (pd dn dm cX st : Nat → Int32) (rX : Nat → Int64) (hn : n ≤ 8) : ∀ d j, j + d = n →
    ((∀ i, j ≤ i → i < n → pd i = 0) ∧ (∀ post : Int32 → Prop, post 0 → wX_anyPending_2 post kc (nI n) ad (lN t) md la xn xd pe cr lo hi nx pd rX dn dm cX st (d + 1) (nI j))) ∨ (∀ post : Int32 → Prop, post 1 → wX_anyPending_2 post kc (nI n) ad (lN t) md la xn xd pe cr lo hi nx pd rX dn dm cX st (d + 1) (nI j)) := by
  intro d
  induction d with
  | zero =>
    intro j hj
    have e : j = n := by omega
    rw [e]
    exact Or.inl ⟨fun i h1 h2 => absurd h2 (by omega), fun post h => br_t (kz_nle hn) h⟩
  | succ d ih =>
    intro j hj
    have hj8 : j < 8 := by omega
    have hge : ¬ nI n ≤ nI j := nI_ge (by omega) (by omega)
    have hv := kz_v8 hj8
    have ec := kz_cl hj8
    by_cases z : pd j = 0
    · have z' : pd (nI j).toNatClampNeg = 0 := by rw [ec]; exact z
      cases ih (j + 1) (by omega) with
      | inl g =>
        refine Or.inl ⟨fun i h1 h2 => ?_, fun post h => br_f hge ⟨hv, br_t z' (nm_r (nI_1 j) (g.2 post h))⟩⟩
        by_cases e : i = j
        · subst e; exact z
        · exact g.1 i (by omega) h2
      | inr g => exact Or.inr (fun post h => br_f hge ⟨hv, br_t z' (nm_r (nI_1 j) (g post h))⟩)
    · exact Or.inr (fun post h => br_f hge ⟨hv, br_f (by rw [ec]; exact z) h⟩)
theorem rz_drop (n t : Nat) (kc ad md la xn xd : Int32) (pe cr lo hi nx : Nat → Int32) (st dn dm : Nat → Int32) (rX : Nat → Int64) (hn : n ≤ 8) : ∀ d j, j + d = n → ∀ (pd cX : Nat → Int32),
    ∃ (pd' cX' : Nat → Int32), rz_Z cX cX' ∧ (∀ i, i < j → pd' i = pd i) ∧ (∀ i, j ≤ i → i < n → (cr i = 0 → pd' i = 0) ∧ (¬ cr i = 0 → pd' i = pd i))
      ∧ (∀ post : St2 → Prop, wX_switchToHi_17 post 1 (nI n) kc (nI n) ad (lN t) md la xn xd pe cr lo hi nx pd' rX dn dm cX' st → wX_switchToHi_17 post (d + 1) (nI j) kc (nI n) ad (lN t) md la xn xd pe cr lo hi nx pd rX dn dm cX st) := by
  intro d
  induction d with
  | zero =>
    intro j hj pd cX
    have e : j = n := by omega
    rw [e]
    exact ⟨pd, cX, rz_Z_r cX, fun _ _ => rfl, fun i h1 h2 => absurd h2 (by omega), fun _ h => h⟩
  | succ d ih =>
    intro j hj pd cX
    have hj8 : j < 8 := by omega
    have hge : ¬ nI n ≤ nI j := nI_ge (by omega) (by omega)
    have hv := kz_v8 hj8
    have ec := kz_cl hj8
    by_cases c : cr j = 0
    · have c' : cr (nI j).toNatClampNeg = 0 := by rw [ec]; exact c
      by_cases z : pd j = 0
      · have z' : pd (nI j).toNatClampNeg = 0 := by rw [ec]; exact z
        obtain ⟨pd', cX', g1, g2, g3, g4⟩ := ih (j + 1) (by omega) pd cX
        refine ⟨pd', cX', g1, fun i h1 => g2 i (by omega), fun i h1 h2 => ?_, fun post h => ?_⟩
        · by_cases e : i = j
          · subst e
            exact ⟨fun _ => (g2 i (by omega)).trans z, fun r => absurd c r⟩
          · exact g3 i (by omega) h2
        · exact br_f hge ⟨hv, br_t c' ⟨hv, br_t z' (nm_r (nI_1 j) (g4 post h))⟩⟩
      · have z' : ¬ pd (nI j).toNatClampNeg = 0 := by rw [ec]; exact z
        obtain ⟨pd', cX', g1, g2, g3, g4⟩ := ih (j + 1) (by omega) (upd pd j 0) (upd cX (3 * 8 + j) (cX (3 * 8 + j) + 1))
        refine ⟨pd', cX', rz_Z_t (rz_Z_u cX 3 j _ (by omega) hj8) g1, fun i h1 => ?_, fun i h1 h2 => ?_, fun post h => ?_⟩
        · exact (g2 i (by omega)).trans (pk_un (by omega))
        · by_cases e : i = j
          · subst e
            exact ⟨fun _ => (g2 i (by omega)).trans pk_us, fun r => absurd c r⟩
          · obtain ⟨k1, k2⟩ := g3 i (by omega) h2
            exact ⟨k1, fun r => (k2 r).trans (pk_un e)⟩
        · refine br_f hge ⟨hv, br_t c' ⟨hv, br_f z' ?_⟩⟩
          exact kz_xej n t kc ad md la xn xd pe cr lo hi nx pd dn dm cX st rX 3 j (by omega) hj8 _ (nm_r (nI_1 j) (g4 post h))
    · have c' : ¬ cr (nI j).toNatClampNeg = 0 := by rw [ec]; exact c
      obtain ⟨pd', cX', g1, g2, g3, g4⟩ := ih (j + 1) (by omega) pd cX
      refine ⟨pd', cX', g1, fun i h1 => g2 i (by omega), fun i h1 h2 => ?_, fun post h => ?_⟩
      · by_cases e : i = j
        · subst e
          exact ⟨fun r => absurd r c, fun _ => g2 i (by omega)⟩
        · exact g3 i (by omega) h2
      · exact br_f hge ⟨hv, br_f c' (nm_r (nI_1 j) (g4 post h))⟩
/-- a job's key, as a number -/
def rz_K (md : Int32) (num e : Nat) (cr : Nat → Int32) (R T : Nat → Nat) (i : Nat) : Nat := if cr i = 1 ∧ md = 0 then R i * (num + e) + num * T i else (R i + T i) * (num + e)
theorem rz_key (n t : Nat) (kc ad md la xn xd : Int32) (pe cr lo hi nx : Nat → Int32) (pd dn dm cX st : Nat → Int32) (rX : Nat → Int64) (num e : Nat) (R T : Nat → Nat) (j : Nat) (hj8 : j < 8) (h1 : rX j = lN (R j)) (h2 : pe j = nI (T j)) (h3 : T j < 2 ^ 31) (h4 : xn = nI num) (h5 : xd = nI (num + e)) (h6 : num + e < 2 ^ 31) (post : Int64 → Prop) (hp : post (lN (rz_K md num e cr R T j))) : wpX_priorityKey post (kc, (nI n), ad, (lN t), md, la, xn, xd, pe, cr, lo, hi, nx, pd, rX, dn, dm, cX, st) (nI j) := by
  have hv := kz_v8 hj8
  have ec := kz_cl hj8
  unfold rz_K at hp
  by_cases c : cr j = 1
  · by_cases m : md = 0
    · rw [if_pos ⟨c, m⟩, ← lN_add, ← lN_mul, ← lN_mul] at hp
      unfold wpX_priorityKey
      dsimp only
      rw [ec, h1, h2, h4, h5, nI_l h3, nI_l h6, nI_l (show num < 2 ^ 31 by omega)]
      exact ⟨hv, br_t c (br_t m ⟨hv, hv, hp⟩)⟩
    · rw [if_neg (fun z => m z.2), ← lN_mul, ← lN_add] at hp
      unfold wpX_priorityKey wX_priorityKey_44
      dsimp only
      rw [ec, h1, h2, h5, nI_l h3, nI_l h6]
      exact ⟨hv, br_t c (br_f m ⟨hv, hv, hp⟩)⟩
  · rw [if_neg (fun z => c z.1), ← lN_mul, ← lN_add] at hp
    unfold wpX_priorityKey wX_priorityKey_44
    dsimp only
    rw [ec, h1, h2, h5, nI_l h3, nI_l h6]
    exact ⟨hv, br_f c ⟨hv, hv, hp⟩⟩
/-- the choice among the first j tasks -/
def rz_ch (pd : Nat → Int32) (K : Nat → Nat) (j : Nat) (c : Int32) (k : Int64) : Prop := (c = -1 ∧ ∀ i, i < j → pd i = 0) ∨ (∃ a, a < j ∧ c = nI a ∧ k = lN (K a) ∧ ¬ pd a = 0 ∧ ∀ i, i < j → ¬ pd i = 0 → K a ≤ K i)
theorem rz_choose (n t : Nat) (kc ad md la xn xd : Int32) (pe cr lo hi nx : Nat → Int32) (pd dn dm cX st : Nat → Int32) (rX : Nat → Int64) (num e : Nat) (R T : Nat → Nat) (hn : n ≤ 8) (h1 : ∀ i, i < n → rX i = lN (R i)) (h2 : ∀ i, i < n → pe i = nI (T i)) (h3 : ∀ i, i < n → T i < 2 ^ 31) (h4 : xn = nI num) (h5 : xd = nI (num + e)) (h6 : num + e < 2 ^ 31) (h7 : ∀ i, i < n → rz_K md num e cr R T i < 2 ^ 63) : ∀ d j, j + d = n → ∀ (c : Int32) (k : Int64), rz_ch pd (rz_K md num e cr R T) j c k →
    ∃ (c' : Int32) (k' : Int64), rz_ch pd (rz_K md num e cr R T) n c' k' ∧ (∀ post : Int32 → Prop, post c' → wX_chooseTask_7 post kc (nI n) ad (lN t) md la xn xd pe cr lo hi nx pd rX dn dm cX st (d + 1) c k (nI j)) := by
  intro d
  induction d with
  | zero =>
    intro j hj c k hc
    have e : j = n := by omega
    rw [e] at hc ⊢
    exact ⟨c, k, hc, fun post h => br_t (kz_nle hn) h⟩
  | succ d ih =>
    intro j hj c k hc
    have hj8 : j < 8 := by omega
    have hjn : j < n := by omega
    have hge : ¬ nI n ≤ nI j := nI_ge (by omega) (by omega)
    have hv := kz_v8 hj8
    have ec := kz_cl hj8
    by_cases z : pd j = 0
    · have z' : pd (nI j).toNatClampNeg = 0 := by rw [ec]; exact z
      have hc' : rz_ch pd (rz_K md num e cr R T) (j + 1) c k := by
        rcases hc with ⟨a1, a2⟩ | ⟨a, a1, a2, a3, a4, a5⟩
        · refine Or.inl ⟨a1, fun i hi' => ?_⟩
          by_cases w : i = j
          · subst w; exact z
          · exact a2 i (by omega)
        · refine Or.inr ⟨a, by omega, a2, a3, a4, fun i hi' hp => ?_⟩
          by_cases w : i = j
          · subst w; exact absurd z hp
          · exact a5 i (by omega) hp
      obtain ⟨c', k', g1, g2⟩ := ih (j + 1) (by omega) c k hc'
      exact ⟨c', k', g1, fun post h => br_f hge ⟨hv, br_t z' (nm_r (nI_1 j) (g2 post h))⟩⟩
    · have z' : ¬ pd (nI j).toNatClampNeg = 0 := by rw [ec]; exact z
      have kX := fun post hp => rz_key n t kc ad md la xn xd pe cr lo hi nx pd dn dm cX st rX num e R T j hj8 (h1 j hjn) (h2 j hjn) (h3 j hjn) h4 h5 h6 post hp
      rcases hc with ⟨a1, a2⟩ | ⟨a, a1, a2, a3, a4, a5⟩
      · subst a1
        obtain ⟨c', k', g1, g2⟩ := ih (j + 1) (by omega) (nI j) (lN (rz_K md num e cr R T j)) (Or.inr ⟨j, by omega, rfl, rfl, z, fun i hi' hp => by
          by_cases w : i = j
          · subst w; exact Nat.le_refl _
          · exact absurd (a2 i (by omega)) hp⟩)
        exact ⟨c', k', g1, fun post h => br_f hge ⟨hv, br_f z' (kX _ (br_t rfl (nm_r (nI_1 j) (g2 post h))))⟩⟩
      · subst a2; subst a3
        have m1 : ¬ nI a = -1 := kz_nm1 (by omega)
        have q : (lN (rz_K md num e cr R T a) ≤ lN (rz_K md num e cr R T j)) ↔ rz_K md num e cr R T a ≤ rz_K md num e cr R T j := pk_lLE (h7 a (by omega)) (h7 j hjn)
        by_cases w : rz_K md num e cr R T a ≤ rz_K md num e cr R T j
        · obtain ⟨c', k', g1, g2⟩ := ih (j + 1) (by omega) (nI a) (lN (rz_K md num e cr R T a)) (Or.inr ⟨a, by omega, rfl, rfl, a4, fun i hi' hp => by
            by_cases y : i = j
            · subst y; exact w
            · exact a5 i (by omega) hp⟩)
          exact ⟨c', k', g1, fun post h => br_f hge ⟨hv, br_f z' (kX _ (br_f m1 (br_t (q.mpr w) (nm_r (nI_1 j) (g2 post h)))))⟩⟩
        · obtain ⟨c', k', g1, g2⟩ := ih (j + 1) (by omega) (nI j) (lN (rz_K md num e cr R T j)) (Or.inr ⟨j, by omega, rfl, rfl, z, fun i hi' hp => by
            by_cases y : i = j
            · subst y; exact Nat.le_refl _
            · have := a5 i (by omega) hp; omega⟩)
          exact ⟨c', k', g1, fun post h => br_f hge ⟨hv, br_f z' (kX _ (br_f m1 (br_f (fun y => w (q.mp y)) (nm_r (nI_1 j) (g2 post h)))))⟩⟩
end
section
/-! a tick keeps the invariant, and misses nothing -/
def rz_H (cr : Nat → Int32) (i : Nat) : Bool := decide (cr i = 1)
def rz_P (pd : Nat → Int32) (i : Nat) : Bool := decide (¬ pd i = 0)
def rz_N (f : Nat → Int32) (i : Nat) : Nat := (f i).toNatClampNeg
def rz_q (pe : Nat → Int32) (i : Nat) : Nat := 720720 / (pe i).toNatClampNeg
def rz_A (n num e : Nat) (pe lo hi cr : Nat → Int32) : Prop := qz_adm n num e 720720 (rz_H cr) (rz_N pe) (rz_N lo) (rz_N hi) (rz_q pe)
def rz_I (n num e : Nat) (pe lo hi cr pd : Nat → Int32) (R U : Nat → Nat) (t τ : Nat) : Prop := qz_I n num e (rz_H cr) (rz_N pe) (rz_N lo) (rz_N hi) (rz_P pd) R U t τ
def rz_J (n num e : Nat) (pe lo hi cr pd : Nat → Int32) (R U : Nat → Nat) (t τ : Nat) : Prop := qz_J n num e (rz_H cr) (rz_N pe) (rz_N lo) (rz_N hi) (rz_P pd) R U t τ
/-- the jobs, as numbers -/
def rz_Jb (n t : Nat) (md : Int32) (lo hi cr pd : Nat → Int32) (rX : Nat → Int64) (dn : Nat → Int32) (R U : Nat → Nat) : Prop := ∀ i, i < n → dn i = nI (U i) ∧ rX i = lN (R i) ∧ R i ≤ t ∧ (¬ pd i = 0 → (md = 0 → U i < rz_N lo i) ∧ U i < rz_N hi i ∧ (md = 1 → cr i = 1))
def rz_Md (n num e : Nat) (md : Int32) (pe lo hi cr pd : Nat → Int32) (R U : Nat → Nat) (t τ : Nat) : Prop := (md = 0 ∧ rz_I n num e pe lo hi cr pd R U t τ) ∨ (md = 1 ∧ rz_J n num e pe lo hi cr pd R U t τ)
theorem rz_Ht {cr : Nat → Int32} {i : Nat} (h : cr i = 1) : rz_H cr i = true := decide_eq_true h
theorem rz_Ht' {cr : Nat → Int32} {i : Nat} (h : rz_H cr i = true) : cr i = 1 := of_decide_eq_true h
theorem rz_Pt {pd : Nat → Int32} {i : Nat} (h : ¬ pd i = 0) : rz_P pd i = true := decide_eq_true h
theorem rz_Pt' {pd : Nat → Int32} {i : Nat} (h : rz_P pd i = true) : ¬ pd i = 0 := of_decide_eq_true h
theorem rz_Pf {pd : Nat → Int32} {i : Nat} (h : pd i = 0) : rz_P pd i = false := decide_eq_false (fun z => z h)
theorem rz_T_n {n i : Nat} {pe lo hi cr : Nat → Int32} (T : kz_T n pe lo hi cr) (h : i < n) : pe i = nI (rz_N pe i) ∧ lo i = nI (rz_N lo i) ∧ hi i = nI (rz_N hi i) ∧ 1 ≤ rz_N lo i ∧ rz_N lo i ≤ rz_N hi i ∧ rz_N hi i ≤ rz_N pe i ∧ rz_N pe i ≤ 16 := by
  obtain ⟨p, a, b, e1, e2, e3, h1, h2, h3, h4, _⟩ := T i h
  unfold rz_N
  rw [e1, e2, e3, nI_clamp (by omega), nI_clamp (by omega), nI_clamp (by omega)]
  exact ⟨rfl, rfl, rfl, h1, h2, h3, h4⟩
/-- the release at τ, in numbers -/
theorem rz_fin {n num e τ : Nat} {md : Int32} {pe lo hi cr pd pd' : Nat → Int32} {rX rX' : Nat → Int64} {dn dn' : Nat → Int32} {R U : Nat → Nat} (hT : kz_T n pe lo hi cr) (hA : rz_A n num e pe lo hi cr)
    (hJ : rz_Jb n τ md lo hi cr pd rX dn R U) (hM : rz_Md n num e md pe lo hi cr pd R U τ τ)
    (h : ∀ i, i < n → (rz_r τ md pe cr i → rz_new τ pd' rX' dn' i) ∧ (¬ rz_r τ md pe cr i → rz_same pd pd' rX rX' dn dn' i)) :
    ∃ R' U' : Nat → Nat, rz_Jb n τ md lo hi cr pd' rX' dn' R' U' ∧ rz_Md n num e md pe lo hi cr pd' R' U' τ (τ + 1) := by
  refine ⟨fun i => if τ % (pe i).toNatClampNeg = 0 ∧ ¬ (md = 1 ∧ cr i = 0) then τ else R i, fun i => if τ % (pe i).toNatClampNeg = 0 ∧ ¬ (md = 1 ∧ cr i = 0) then 0 else U i, ?_, ?_⟩
  · intro i hin
    obtain ⟨_, _, _, t1, t2, t3, t4⟩ := rz_T_n hT hin
    by_cases r : τ % (pe i).toNatClampNeg = 0 ∧ ¬ (md = 1 ∧ cr i = 0)
    · obtain ⟨k1, k2, k3⟩ := (h i hin).1 r
      dsimp only
      rw [if_pos r, if_pos r]
      refine ⟨k3, k2, Nat.le_refl τ, fun _ => ⟨fun _ => by omega, by omega, fun m => ?_⟩⟩
      rcases kz_T_c hT hin with ⟨c, _⟩ | c
      · exact absurd ⟨m, c⟩ r.2
      · exact c
    · obtain ⟨k1, k2, k3⟩ := (h i hin).2 r
      dsimp only
      rw [if_neg r, if_neg r, k1, k2, k3]
      exact hJ i hin
  · rcases hM with ⟨m, I⟩ | ⟨m, I⟩
    · refine Or.inl ⟨m, qz_rel n num e 720720 _ _ _ _ _ hA I (fun i hin z _ => ?_) (fun i hin z hp => ?_)⟩
      · have r : τ % (pe i).toNatClampNeg = 0 ∧ ¬ (md = 1 ∧ cr i = 0) := ⟨z, fun w => absurd (m.symm.trans w.1) (by decide)⟩
        exact ⟨if_pos r, if_pos r⟩
      · have r : ¬ (τ % (pe i).toNatClampNeg = 0 ∧ ¬ (md = 1 ∧ cr i = 0)) := fun w => z w.1
        obtain ⟨k1, k2, k3⟩ := (h i hin).2 r
        refine ⟨rz_Pt ?_, if_neg r, if_neg r⟩
        rw [← k1]
        exact rz_Pt' hp
    · refine Or.inr ⟨m, qz_relJ n num e 720720 _ _ _ _ _ hA I (fun i hin hh z _ => ?_) (fun i hin hh z hp => ?_)⟩
      · have r : τ % (pe i).toNatClampNeg = 0 ∧ ¬ (md = 1 ∧ cr i = 0) := ⟨z, fun w => absurd ((rz_Ht' hh).symm.trans w.2) (by decide)⟩
        exact ⟨if_pos r, if_pos r⟩
      · have r : ¬ (τ % (pe i).toNatClampNeg = 0 ∧ ¬ (md = 1 ∧ cr i = 0)) := fun w => z w.1
        obtain ⟨k1, k2, k3⟩ := (h i hin).2 r
        refine ⟨rz_Pt ?_, if_neg r, if_neg r⟩
        rw [← k1]
        exact rz_Pt' hp
/-- what follows step A: no job is late -/
theorem rz_rest (n t : Nat) (kc ad md la xn xd : Int32) (pe cr lo hi nx : Nat → Int32) (st pd dn dm cX : Nat → Int32) (rX : Nat → Int64) (num e : Nat) (R U : Nat → Nat) (hT : kz_T n pe lo hi cr) (hn : n ≤ 8) (ht : t + 17 < 2 ^ 31) (hA : rz_A n num e pe lo hi cr)
    (hJ : rz_Jb n t md lo hi cr pd rX dn R U) (hM : rz_Md n num e md pe lo hi cr pd R U (t + 1) (t + 1)) :
    ∃ (md' : Int32) (pd' : Nat → Int32) (rX' : Nat → Int64) (dn' dm' cX' st' : Nat → Int32) (R' U' : Nat → Nat), rz_Z cX cX' ∧ rz_Jb n (t + 1) md' lo hi cr pd' rX' dn' R' U' ∧ rz_Md n num e md' pe lo hi cr pd' R' U' (t + 1) (t + 1 + 1)
      ∧ (∀ post : St2 → Prop, post (kc, (nI n), ad, lN (t + 1), md', la, xn, xd, pe, cr, lo, hi, nx, pd', rX', dn', dm', cX', st') → wX_tick_47 post kc (nI n) ad (lN t) md la xn xd pe cr lo hi nx pd rX dn dm cX st) := by
  have hlate : ∀ i, i < n → ¬ pd i = 0 → t + 1 < R i + rz_N pe i := by
    intro i hin hp
    obtain ⟨_, _, _, u⟩ := hJ i hin
    obtain ⟨u1, u2, u3⟩ := u hp
    rcases hM with ⟨m, I⟩ | ⟨m, I⟩
    · exact qz_intimeL n num e _ _ _ _ I hin (rz_Pt hp) (u1 m) u2
    · exact qz_intimeJ n num e _ _ _ _ I hin (rz_Pt hp) (rz_Ht (u3 m)) u2
  have hlX : ∀ i, i < n → ¬ pd i = 0 → lN (t + 1) < rX i + (pe i).toInt64 := by
    intro i hin hp
    have h1 := hlate i hin hp
    obtain ⟨_, r1, r2, _⟩ := hJ i hin
    obtain ⟨t0, _, _, _, _, _, t4⟩ := rz_T_n hT hin
    rw [r1, t0, nI_l (by omega), lN_add, lN_lt (by omega) (by omega)]
    exact h1
  have hJ1 : rz_Jb n (t + 1) md lo hi cr pd rX dn R U := by
    intro i hin
    obtain ⟨a1, a2, a3, a4⟩ := hJ i hin
    exact ⟨a1, a2, by omega, a4⟩
  have walk : ∀ (md' : Int32) (st' : Nat → Int32), rz_Jb n (t + 1) md' lo hi cr pd rX dn R U → rz_Md n num e md' pe lo hi cr pd R U (t + 1) (t + 1) → (∀ post : St2 → Prop, post (kc, (nI n), ad, lN (t + 1), md', la, xn, xd, pe, cr, lo, hi, nx, pd, rX, dn, dm, cX, st') → wpX_resetMode post (kc, (nI n), ad, lN (t + 1), md, la, xn, xd, pe, cr, lo, hi, nx, pd, rX, dn, dm, cX, st)) →
      ∃ (md' : Int32) (pd' : Nat → Int32) (rX' : Nat → Int64) (dn' dm' cX' st' : Nat → Int32) (R' U' : Nat → Nat), rz_Z cX cX' ∧ rz_Jb n (t + 1) md' lo hi cr pd' rX' dn' R' U' ∧ rz_Md n num e md' pe lo hi cr pd' R' U' (t + 1) (t + 1 + 1)
      ∧ (∀ post : St2 → Prop, post (kc, (nI n), ad, lN (t + 1), md', la, xn, xd, pe, cr, lo, hi, nx, pd', rX', dn', dm', cX', st') → wX_tick_47 post kc (nI n) ad (lN t) md la xn xd pe cr lo hi nx pd rX dn dm cX st) := by
    intro md' st' h1 h2 h3
    obtain ⟨pd', rX', dn', dm', cX', b1, b2, b3⟩ := rz_release n (t + 1) kc ad md' la xn xd pe cr lo hi nx st' hT hn (by omega) pd rX dn dm cX
    obtain ⟨R', U', f1, f2⟩ := rz_fin hT hA h1 h2 b2
    refine ⟨md', pd', rX', dn', dm', cX', st', R', U', b1, f1, f2, fun post h => ?_⟩
    refine nm_r (lN_1 t) ⟨n + 1, rz_miss n (t + 1) kc ad md la xn xd pe cr lo hi nx pd dn dm cX st rX hn hlX _ (br_t (kz_nle hn) ?_) n 0 (by omega)⟩
    exact h3 _ (b3 _ h)
  by_cases m : md = 1
  · cases rz_any n (t + 1) kc ad md la xn xd pe cr lo hi nx pd dn dm cX st rX hn n 0 (by omega) with
    | inl g =>
      refine walk 0 (upd st 1 (st 1 + 1)) ?_ (Or.inl ⟨rfl, qz_idle n num e 720720 _ _ _ _ _ hA (t + 1) (fun i hin => rz_Pf (g.1 i (Nat.zero_le i) hin))⟩) (fun post h => br_t m ⟨n + 1, g.2 _ (br_t rfl (nm_e h))⟩)
      intro i hin
      obtain ⟨a1, a2, a3, a4⟩ := hJ1 i hin
      exact ⟨a1, a2, a3, fun hp => absurd (g.1 i (Nat.zero_le i) hin) hp⟩
    | inr g => exact walk md st hJ1 hM (fun post h => br_t m ⟨n + 1, g _ (br_f (by decide) h)⟩)
  · exact walk md st hJ1 hM (fun post h => br_f m h)
theorem rz_65 (n t : Nat) (kc ad md la xn xd : Int32) (pe cr lo hi nx : Nat → Int32) (st pd dn dm cX : Nat → Int32) (rX : Nat → Int64) (u : Int32) (i : Nat) (hi8 : i < 8) :
    ∃ (pd' cX' : Nat → Int32), rz_Z cX cX' ∧ (∀ a, a ≠ i → pd' a = pd a) ∧ (pd' i = 0 ∨ (pd' i = pd i ∧ ¬ u = hi i))
      ∧ (∀ post : St2 → Prop, post (kc, (nI n), ad, (lN t), md, la, xn, xd, pe, cr, lo, hi, nx, pd', rX, dn, dm, cX', st) → wX_execute_65 post (nI i) u kc (nI n) ad (lN t) md la xn xd pe cr lo hi nx pd rX dn dm cX st) := by
  have hv := kz_v8 hi8
  have ec := kz_cl hi8
  by_cases w : u = hi i
  · have w' : u = hi (nI i).toNatClampNeg := by rw [ec]; exact w
    refine ⟨upd pd i 0, upd cX (2 * 8 + i) (cX (2 * 8 + i) + 1), rz_Z_u cX 2 i _ (by omega) hi8, fun a ha => pk_un ha, Or.inl pk_us, fun post h => ⟨hv, br_t w' ?_⟩⟩
    exact kz_xej n t kc ad md la xn xd pe cr lo hi nx pd dn dm cX st rX 2 i (by omega) hi8 _ h
  · have w' : ¬ u = hi (nI i).toNatClampNeg := by rw [ec]; exact w
    exact ⟨pd, cX, rz_Z_r cX, fun _ _ => rfl, Or.inr ⟨rfl, w⟩, fun post h => ⟨hv, br_f w' h⟩⟩
theorem rz_exec (n t : Nat) (kc ad md la xn xd : Int32) (pe cr lo hi nx : Nat → Int32) (st pd dn dm cX : Nat → Int32) (rX : Nat → Int64) (hT : kz_T n pe lo hi cr) (hn : n ≤ 8) (i : Nat) (hin : i < n) :
    ∃ (md' : Int32) (pd' cX' st' : Nat → Int32), rz_Z cX cX'
      ∧ ((md' = md ∧ (∀ a, a < n → a ≠ i → pd' a = pd a) ∧ (pd' i = 0 ∨ (pd' i = pd i ∧ ¬ dn i + 1 = hi i ∧ (md = 0 → ¬ dn i + 1 = lo i))))
        ∨ (md = 0 ∧ md' = 1 ∧ cr i = 1 ∧ (∀ a, a < n → a ≠ i → (cr a = 0 → pd' a = 0) ∧ (¬ cr a = 0 → pd' a = pd a)) ∧ (pd' i = 0 ∨ (pd' i = pd i ∧ ¬ dn i + 1 = hi i))))
      ∧ (∀ post : St2 → Prop, post (kc, (nI n), ad, (lN t), md', nI i, xn, xd, pe, cr, lo, hi, nx, pd', rX, upd dn i (dn i + 1), dm, cX', st') → wpX_execute post (kc, (nI n), ad, (lN t), md, nI i, xn, xd, pe, cr, lo, hi, nx, pd, rX, dn, dm, cX, upd st 3 (st 3 + 1)) (nI i)) := by
  have hi8 : i < 8 := by omega
  have hv := kz_v8 hi8
  have ec := kz_cl hi8
  have eu : upd dn i (dn i + 1) i = dn i + 1 := pk_us
  by_cases a : dn i + 1 = dm i
  · refine ⟨md, upd pd i 0, upd cX (1 * 8 + i) (cX (1 * 8 + i) + 1), upd st 3 (st 3 + 1), rz_Z_u cX 1 i _ (by omega) hi8, Or.inl ⟨rfl, fun b _ hb => pk_un hb, Or.inl pk_us⟩, fun post h => ?_⟩
    unfold wpX_execute
    dsimp only
    rw [ec]
    refine ⟨hv, hv, nm_e ⟨hv, nm_r eu ⟨hv, br_t a ?_⟩⟩⟩
    exact kz_xej n t kc ad md (nI i) xn xd pe cr lo hi nx pd (upd dn i (dn i + 1)) dm cX (upd st 3 (st 3 + 1)) rX 1 i (by omega) hi8 _ h
  · rcases kz_T_c hT hin with ⟨c, el⟩ | c
    · have c1 : ¬ cr i = 1 := by rw [c]; decide
      obtain ⟨pd', cX', g1, g2, g3, g4⟩ := rz_65 n t kc ad md (nI i) xn xd pe cr lo hi nx (upd st 3 (st 3 + 1)) pd (upd dn i (dn i + 1)) dm cX rX (dn i + 1) i hi8
      refine ⟨md, pd', cX', upd st 3 (st 3 + 1), g1, Or.inl ⟨rfl, fun b _ hb => g2 b hb, ?_⟩, fun post h => ?_⟩
      · rcases g3 with g3 | ⟨k1, k2⟩
        · exact Or.inl g3
        · exact Or.inr ⟨k1, k2, fun _ => by rw [← el]; exact k2⟩
      · unfold wpX_execute
        dsimp only
        rw [ec]
        exact ⟨hv, hv, nm_e ⟨hv, nm_r eu ⟨hv, br_f a ⟨hv, br_f c1 (g4 _ h)⟩⟩⟩⟩
    · by_cases m : md = 0
      · by_cases w : dn i + 1 = lo i
        · obtain ⟨pd1, cX1, f1, f2, f3, f4⟩ := rz_drop n t kc ad 1 (nI i) xn xd pe cr lo hi nx (upd (upd st 3 (st 3 + 1)) 0 (upd st 3 (st 3 + 1) 0 + 1)) (upd dn i (dn i + 1)) dm rX hn n 0 (by omega) pd cX
          obtain ⟨pd', cX', g1, g2, g3, g4⟩ := rz_65 n t kc ad 1 (nI i) xn xd pe cr lo hi nx (upd (upd st 3 (st 3 + 1)) 0 (upd st 3 (st 3 + 1) 0 + 1)) pd1 (upd dn i (dn i + 1)) dm cX1 rX (dn i + 1) i hi8
          refine ⟨1, pd', cX', upd (upd st 3 (st 3 + 1)) 0 (upd st 3 (st 3 + 1) 0 + 1), rz_Z_t f1 g1, Or.inr ⟨m, rfl, c, fun b hb hbi => ?_, ?_⟩, fun post h => ?_⟩
          · obtain ⟨k1, k2⟩ := f3 b (Nat.zero_le b) hb
            rw [g2 b hbi]
            exact ⟨k1, k2⟩
          · rcases g3 with g3 | ⟨k1, k2⟩
            · exact Or.inl g3
            · refine Or.inr ⟨?_, k2⟩
              rw [k1]
              exact (f3 i (Nat.zero_le i) hin).2 (by rw [c]; decide)
          · unfold wpX_execute
            dsimp only
            rw [ec]
            refine ⟨hv, hv, nm_e ⟨hv, nm_r eu ⟨hv, br_f a ⟨hv, br_t c (br_t m ⟨hv, br_t w ?_⟩)⟩⟩⟩⟩
            exact nm_e ⟨n + 1, f4 _ (br_t (kz_nle hn) (g4 _ h))⟩
        · obtain ⟨pd', cX', g1, g2, g3, g4⟩ := rz_65 n t kc ad md (nI i) xn xd pe cr lo hi nx (upd st 3 (st 3 + 1)) pd (upd dn i (dn i + 1)) dm cX rX (dn i + 1) i hi8
          refine ⟨md, pd', cX', upd st 3 (st 3 + 1), g1, Or.inl ⟨rfl, fun b _ hb => g2 b hb, ?_⟩, fun post h => ?_⟩
          · rcases g3 with g3 | ⟨k1, k2⟩
            · exact Or.inl g3
            · exact Or.inr ⟨k1, k2, fun _ => w⟩
          · unfold wpX_execute
            dsimp only
            rw [ec]
            exact ⟨hv, hv, nm_e ⟨hv, nm_r eu ⟨hv, br_f a ⟨hv, br_t c (br_t m ⟨hv, br_f w (g4 _ h)⟩)⟩⟩⟩⟩
      · obtain ⟨pd', cX', g1, g2, g3, g4⟩ := rz_65 n t kc ad md (nI i) xn xd pe cr lo hi nx (upd st 3 (st 3 + 1)) pd (upd dn i (dn i + 1)) dm cX rX (dn i + 1) i hi8
        refine ⟨md, pd', cX', upd st 3 (st 3 + 1), g1, Or.inl ⟨rfl, fun b _ hb => g2 b hb, ?_⟩, fun post h => ?_⟩
        · rcases g3 with g3 | ⟨k1, k2⟩
          · exact Or.inl g3
          · exact Or.inr ⟨k1, k2, fun z => absurd z m⟩
        · unfold wpX_execute
          dsimp only
          rw [ec]
          exact ⟨hv, hv, nm_e ⟨hv, nm_r eu ⟨hv, br_f a ⟨hv, br_t c (br_f m (g4 _ h))⟩⟩⟩⟩
end
section
/-! ticks in a row -/
theorem rz_K0 {num e : Nat} {md : Int32} {cr pe : Nat → Int32} {R : Nat → Nat} (m : md = 0) (i : Nat) : rz_K md num e cr R (rz_N pe) i = qz_key num e (rz_H cr) (rz_N pe) R i := by
  unfold rz_K qz_key
  by_cases c : cr i = 1
  · rw [if_pos ⟨c, m⟩, rz_Ht c]
  · have hf : rz_H cr i = false := decide_eq_false c
    rw [if_neg (fun z => c z.1), hf]
theorem rz_K1 {num e : Nat} {md : Int32} {cr pe : Nat → Int32} {R : Nat → Nat} (m : md = 1) (i : Nat) : rz_K md num e cr R (rz_N pe) i = (R i + rz_N pe i) * (num + e) := by
  unfold rz_K
  rw [if_neg (fun z => absurd (m.symm.trans z.2) (by decide))]
theorem rz_Kb {n t num e : Nat} {md : Int32} {cr pe lo hi : Nat → Int32} {R : Nat → Nat} (hT : kz_T n pe lo hi cr) (ht : t ≤ 1000000) (he : num + e ≤ 720720) (i : Nat) (hin : i < n) (hR : R i ≤ t) : rz_K md num e cr R (rz_N pe) i < 2 ^ 63 := by
  obtain ⟨_, _, _, _, _, _, t4⟩ := rz_T_n hT hin
  have k1 : R i * (num + e) ≤ 1000000 * 720720 := Nat.mul_le_mul (by omega) he
  have k2 : num * rz_N pe i ≤ 720720 * 16 := Nat.mul_le_mul (by omega) t4
  have k3 : (R i + rz_N pe i) * (num + e) ≤ 1000016 * 720720 := Nat.mul_le_mul (by omega) he
  unfold rz_K
  split <;> omega
/-- step A with job i, in numbers -/
theorem rz_stepA {n t num e : Nat} {md md' : Int32} {pe lo hi cr pd pd' dn : Nat → Int32} {rX : Nat → Int64} {R U : Nat → Nat} (hT : kz_T n pe lo hi cr) (hA : rz_A n num e pe lo hi cr)
    (hJ : rz_Jb n t md lo hi cr pd rX dn R U) (hM : rz_Md n num e md pe lo hi cr pd R U t (t + 1)) (i : Nat) (hin : i < n) (hp : ¬ pd i = 0)
    (hk : ∀ a, a < n → ¬ pd a = 0 → rz_K md num e cr R (rz_N pe) i ≤ rz_K md num e cr R (rz_N pe) a)
    (h : (md' = md ∧ (∀ a, a < n → a ≠ i → pd' a = pd a) ∧ (pd' i = 0 ∨ (pd' i = pd i ∧ ¬ dn i + 1 = hi i ∧ (md = 0 → ¬ dn i + 1 = lo i))))
        ∨ (md = 0 ∧ md' = 1 ∧ cr i = 1 ∧ (∀ a, a < n → a ≠ i → (cr a = 0 → pd' a = 0) ∧ (¬ cr a = 0 → pd' a = pd a)) ∧ (pd' i = 0 ∨ (pd' i = pd i ∧ ¬ dn i + 1 = hi i)))) :
    rz_Jb n t md' lo hi cr pd' rX (upd dn i (dn i + 1)) R (fun a => if a = i then U i + 1 else U a) ∧ rz_Md n num e md' pe lo hi cr pd' R (fun a => if a = i then U i + 1 else U a) (t + 1) (t + 1) := by
  obtain ⟨i1, i2, i3, i4⟩ := hJ i hin
  obtain ⟨j1, j2, j3⟩ := i4 hp
  obtain ⟨t1, t2, t3, t4, t5, t6, t7⟩ := rz_T_n hT hin
  have ed : dn i + 1 = nI (U i + 1) := by rw [i1, nI_1]
  have ehi : (¬ dn i + 1 = hi i) → U i + 1 < rz_N hi i := by
    intro z
    have : U i + 1 ≠ rz_N hi i := fun w => z (by rw [ed, t3, w])
    omega
  have elo : md = 0 → (¬ dn i + 1 = lo i) → U i + 1 < rz_N lo i := by
    intro m z
    have : U i + 1 ≠ rz_N lo i := fun w => z (by rw [ed, t2, w])
    have := j1 m
    omega
  have hPP : ∀ a, a < n → rz_P pd' a = true → rz_P pd a = true := by
    intro a ha z
    have z' := rz_Pt' z
    refine rz_Pt fun w => z' ?_
    by_cases e : a = i
    · subst e; exact absurd w hp
    · rcases h with ⟨_, h2, _⟩ | ⟨_, _, _, h4, _⟩
      · rw [h2 a ha e]; exact w
      · by_cases c : cr a = 0
        · exact (h4 a ha e).1 c
        · rw [(h4 a ha e).2 c]; exact w
  have hUj : (fun a => if a = i then U i + 1 else U a) i = U i + 1 := if_pos rfl
  have hUi : ∀ a, a < n → a ≠ i → (fun a => if a = i then U i + 1 else U a) a = U a := fun a _ ha => if_neg ha
  have hR : ∀ a, a < n → rz_P pd a = true → R a ≤ t := fun a ha _ => (hJ a ha).2.2.1
  refine ⟨fun a ha => ?_, ?_⟩
  · by_cases e : a = i
    · subst e
      dsimp only
      rw [pk_us, if_pos rfl]
      refine ⟨ed, i2, i3, fun z => ?_⟩
      rcases h with ⟨h1, _, h3⟩ | ⟨_, h2, h3, _, h5⟩
      · rcases h3 with h3 | ⟨_, h4, h5⟩
        · exact absurd h3 z
        · rw [h1]
          exact ⟨fun m => elo m (h5 m), ehi h4, j3⟩
      · rcases h5 with h5 | ⟨_, h6⟩
        · exact absurd h5 z
        · exact ⟨fun m => absurd (h2.symm.trans m) (by decide), ehi h6, fun _ => h3⟩
    · obtain ⟨a1, a2, a3, a4⟩ := hJ a ha
      dsimp only
      rw [pk_un e, if_neg e]
      refine ⟨a1, a2, a3, fun z => ?_⟩
      rcases h with ⟨h1, h2, _⟩ | ⟨h1, h2, _, h4, _⟩
      · rw [h2 a ha e] at z
        rw [h1]
        exact a4 z
      · have c : ¬ cr a = 0 := fun c => z ((h4 a ha e).1 c)
        rw [(h4 a ha e).2 c] at z
        refine ⟨fun m => absurd (h2.symm.trans m) (by decide), (a4 z).2.1, fun _ => ?_⟩
        rcases kz_T_c hT ha with ⟨c', _⟩ | c'
        · exact absurd c' c
        · exact c'
  · rcases hM with ⟨m, I⟩ | ⟨m, I⟩
    · have S : rz_I n num e pe lo hi cr pd' R (fun a => if a = i then U i + 1 else U a) (t + 1) (t + 1) := by
        refine qz_stepL n num e 720720 _ _ _ _ _ hA I hin (rz_Pt hp) (fun a ha hpa => ?_) hR (fun a ha hpa => ?_) hPP hUj hUi
        · rw [← rz_K0 m, ← rz_K0 m]
          exact hk a ha (rz_Pt' hpa)
        · exact ((hJ a ha).2.2.2 (rz_Pt' hpa)).1 m
      rcases h with ⟨h1, _⟩ | ⟨_, h2, _⟩
      · exact Or.inl ⟨h1.trans m, S⟩
      · exact Or.inr ⟨h2, qz_I_J n num e _ _ _ _ S⟩
    · rcases h with ⟨h1, _⟩ | ⟨h1, _⟩
      · refine Or.inr ⟨h1.trans m, ?_⟩
        refine qz_stepH n num e 720720 _ _ _ _ _ hA I hin (rz_Pt hp) (rz_Ht (j3 m)) (fun a ha hpa => ?_) j2 hPP hUj hUi
        have k := hk a ha (rz_Pt' hpa)
        rw [rz_K1 m, rz_K1 m] at k
        exact Nat.le_of_mul_le_mul_right k (by have := hA.1; omega)
      · exact absurd (m.symm.trans h1) (by decide)
theorem rz_tick (n t : Nat) (kc ad md la xn xd : Int32) (pe cr lo hi nx : Nat → Int32) (st pd dn dm cX : Nat → Int32) (rX : Nat → Int64) (num e : Nat) (R U : Nat → Nat) (hT : kz_T n pe lo hi cr) (hn : n ≤ 8) (ht : t ≤ 1000000) (hA : rz_A n num e pe lo hi cr) (hx : xn = nI num) (hd : xd = nI (num + e)) (he : num + e ≤ 720720)
    (hJ : rz_Jb n t md lo hi cr pd rX dn R U) (hM : rz_Md n num e md pe lo hi cr pd R U t (t + 1)) :
    ∃ (md' la' : Int32) (pd' : Nat → Int32) (rX' : Nat → Int64) (dn' dm' cX' st' : Nat → Int32) (R' U' : Nat → Nat), rz_Z cX cX' ∧ rz_Jb n (t + 1) md' lo hi cr pd' rX' dn' R' U' ∧ rz_Md n num e md' pe lo hi cr pd' R' U' (t + 1) (t + 1 + 1)
      ∧ (∀ post : St2 → Prop, post (kc, (nI n), ad, lN (t + 1), md', la', xn, xd, pe, cr, lo, hi, nx, pd', rX', dn', dm', cX', st') → wpX_tick post (kc, (nI n), ad, (lN t), md, la, xn, xd, pe, cr, lo, hi, nx, pd, rX, dn, dm, cX, st)) := by
  obtain ⟨c, k, hc, pX⟩ := rz_choose n t kc ad md la xn xd pe cr lo hi nx pd dn dm cX st rX num e R (rz_N pe) hn (fun i hin => (hJ i hin).2.1) (fun i hin => (rz_T_n hT hin).1) (fun i hin => by have := (rz_T_n hT hin).2.2.2.2.2.2; omega) hx hd (by omega) (fun i hin => rz_Kb hT ht he i hin (hJ i hin).2.2.1) n 0 (by omega) (-1) 0 (Or.inl ⟨rfl, fun i hi' => absurd hi' (Nat.not_lt_zero i)⟩)
  rcases hc with ⟨hc, hall⟩ | ⟨i, hin, hc, _, hp, hmin⟩
  · subst hc
    have I := qz_idle n num e 720720 (rz_H cr) (rz_N pe) (rz_N lo) (rz_N hi) (rz_q pe) hA (P := rz_P pd) (R := R) (U := U) (t + 1) (fun i hin => rz_Pf (hall i hin))
    have hM1 : rz_Md n num e md pe lo hi cr pd R U (t + 1) (t + 1) := by
      rcases hM with ⟨m, _⟩ | ⟨m, _⟩
      · exact Or.inl ⟨m, I⟩
      · exact Or.inr ⟨m, qz_I_J n num e _ _ _ _ I⟩
    obtain ⟨md', pd', rX', dn', dm', cX', st', R', U', g1, g2, g3, g4⟩ := rz_rest n t kc ad md (-1) xn xd pe cr lo hi nx (upd st 2 (st 2 + 1)) pd dn dm cX rX num e R U hT hn (by omega) hA hJ hM1
    exact ⟨md', -1, pd', rX', dn', dm', cX', st', R', U', g1, g2, g3, fun post h => ⟨n + 1, pX _ (br_t rfl (nm_e (g4 _ h)))⟩⟩
  · subst hc
    obtain ⟨md1, pd1, cX1, st1, f1, f2, f3⟩ := rz_exec n t kc ad md la xn xd pe cr lo hi nx st pd dn dm cX rX hT hn i hin
    obtain ⟨hJ1, hM1⟩ := rz_stepA hT hA hJ hM i hin hp (fun a ha hpa => hmin a ha hpa) f2
    obtain ⟨md', pd', rX', dn', dm', cX', st', R', U', g1, g2, g3, g4⟩ := rz_rest n t kc ad md1 (nI i) xn xd pe cr lo hi nx st1 pd1 (upd dn i (dn i + 1)) dm cX1 rX num e R _ hT hn (by omega) hA hJ1 hM1
    have m1 : ¬ nI i = -1 := kz_nm1 (by omega)
    exact ⟨md', nI i, pd', rX', dn', dm', cX', st', R', U', rz_Z_t f1 g1, g2, g3, fun post h => ⟨n + 1, pX _ (br_f m1 (nm_e (f3 _ (g4 _ h))))⟩⟩
theorem rz_run (n : Nat) (kc ad xn xd : Int32) (pe cr lo hi nx : Nat → Int32) (num e : Nat) (s : Nat) (hs : s ≤ 1000) (hT : kz_T n pe lo hi cr) (hn : n ≤ 8) (hA : rz_A n num e pe lo hi cr) (hx : xn = nI num) (hd : xd = nI (num + e)) (he : num + e ≤ 720720) : ∀ d j, j + d = s → ∀ (t : Nat) (b md la : Int32) (st pd dn dm cX : Nat → Int32) (rX : Nat → Int64) (R U : Nat → Nat), t + d ≤ 1000000 →
    rz_Jb n t md lo hi cr pd rX dn R U → rz_Md n num e md pe lo hi cr pd R U t (t + 1) →
    ∃ (b' md' la' : Int32) (pd' : Nat → Int32) (rX' : Nat → Int64) (dn' dm' cX' st' : Nat → Int32) (R' U' : Nat → Nat), rz_Z cX cX' ∧ rz_Jb n (t + d) md' lo hi cr pd' rX' dn' R' U' ∧ rz_Md n num e md' pe lo hi cr pd' R' U' (t + d) (t + d + 1)
      ∧ (∀ post : Int32 → St2 → Prop, post b' (kc, (nI n), ad, lN (t + d), md', la', xn, xd, pe, cr, lo, hi, nx, pd', rX', dn', dm', cX', st') → wX_run_25 post (nI s) (d + 1) b (nI j) kc (nI n) ad (lN t) md la xn xd pe cr lo hi nx pd rX dn dm cX st) := by
  intro d
  induction d with
  | zero =>
    intro j hj t b md la st pd dn dm cX rX R U ht hJ hM
    have hle : nI s ≤ nI j := nI_le (by omega) (by omega)
    exact ⟨b, md, la, pd, rX, dn, dm, cX, st, R, U, rz_Z_r cX, hJ, hM, fun post h => br_t hle h⟩
  | succ d ih =>
    intro j hj t b md la st pd dn dm cX rX R U ht hJ hM
    have hge : ¬ nI s ≤ nI j := nI_ge (by omega) (by omega)
    obtain ⟨md1, la1, pd1, rX1, dn1, dm1, cX1, st1, R1, U1, f1, f2, f3, f4⟩ := rz_tick n t kc ad md la xn xd pe cr lo hi nx st pd dn dm cX rX num e R U hT hn (by omega) hA hx hd he hJ hM
    have et : t + 1 + d = t + (d + 1) := by omega
    by_cases e1 : la1 = -1
    · obtain ⟨b', md', la', pd', rX', dn', dm', cX', st', R', U', g1, g2, g3, g4⟩ := ih (j + 1) (by omega) (t + 1) b md1 la1 st1 pd1 dn1 dm1 cX1 rX1 R1 U1 (by omega) f2 f3
      rw [et] at g2 g3 g4
      exact ⟨b', md', la', pd', rX', dn', dm', cX', st', R', U', rz_Z_t f1 g1, g2, g3, fun post h => br_f hge (f4 _ (br_t e1 (nm_r (nI_1 j) (g4 post h))))⟩
    · obtain ⟨b', md', la', pd', rX', dn', dm', cX', st', R', U', g1, g2, g3, g4⟩ := ih (j + 1) (by omega) (t + 1) (b + 1) md1 la1 st1 pd1 dn1 dm1 cX1 rX1 R1 U1 (by omega) f2 f3
      rw [et] at g2 g3 g4
      exact ⟨b', md', la', pd', rX', dn', dm', cX', st', R', U', rz_Z_t f1 g1, g2, g3, fun post h => br_f hge (f4 _ (br_f e1 (nm_e (nm_r (nI_1 j) (g4 post h)))))⟩
end
section
/-! sums, the divisor, admission -/
theorem kz_term {n j s : Nat} {c : Int32} {cr A P : Nat → Int32} {a p : Nat} (ea : A j = nI a) (ep : P j = nI p) (h1 : 1 ≤ p) (hp : p ≤ 16) (ha : a ≤ 16) (hc : cr j = c) : nI s + A j * (720720 / P j) = nI (s + kz_u c cr A P j) := by
  unfold kz_u
  rw [if_pos hc, ea, ep, nI_clamp (by omega), nI_clamp (by omega), show (720720 : Int32) = nI 720720 from rfl, pk_div (by omega) (by omega) (by omega), pk_mul, nI_add]
theorem kz_term0 {j s : Nat} {c : Int32} {cr A P : Nat → Int32} (hc : ¬ cr j = c) : s + kz_u c cr A P j = s := by
  unfold kz_u
  rw [if_neg hc, Nat.add_zero]
theorem kz_T_lo {n i : Nat} {pe lo hi cr : Nat → Int32} (T : kz_T n pe lo hi cr) (h : i < n) : ∃ a, lo i = nI a ∧ a ≤ 16 := by
  obtain ⟨p, a, b, _, e, _, h1, h2, h3, h4, _⟩ := T i h
  exact ⟨a, e, by omega⟩
theorem kz_T_hi {n i : Nat} {pe lo hi cr : Nat → Int32} (T : kz_T n pe lo hi cr) (h : i < n) : ∃ a, hi i = nI a ∧ a ≤ 16 := by
  obtain ⟨p, a, b, _, _, e, h1, h2, h3, h4, _⟩ := T i h
  exact ⟨b, e, by omega⟩
theorem kz_xlo (n t : Nat) (kc ad md la xn xd : Int32) (pe cr lo hi nx : Nat → Int32) (pd dn dm cX st : Nat → Int32) (rX : Nat → Int64) (hT : kz_T n pe lo hi cr) (hn : n ≤ 8) (c : Int32) (post : Int32 → Prop) (hp : post (nI (kz_sum (kz_u c cr lo pe) n))) : ∀ d j, j + d = n → wX_utilSum_5 post c kc (nI n) ad (lN t) md la xn xd pe cr lo hi nx pd rX dn dm cX st (d + 1) (nI (kz_sum (kz_u c cr lo pe) j)) (nI j) := by
  intro d
  induction d with
  | zero =>
    intro j hj
    have e : j = n := by omega
    rw [e]
    exact br_t (nI_le (Nat.le_refl n) (by omega)) hp
  | succ d ih =>
    intro j hj
    have hj8 : j < 8 := by omega
    have hge : ¬ nI n ≤ nI j := nI_ge (by omega) (by omega)
    have hv := kz_v8 hj8
    have ec := kz_cl hj8
    obtain ⟨p, ep, hp1, hp16⟩ := kz_T_p hT (show j < n by omega)
    obtain ⟨a, ea, ha⟩ := kz_T_lo hT (show j < n by omega)
    have ih1 := ih (j + 1) (by omega)
    have es : kz_sum (kz_u c cr lo pe) (j + 1) = kz_sum (kz_u c cr lo pe) j + kz_u c cr lo pe j := rfl
    rw [es] at ih1
    have nY : ¬ pe (nI j).toNatClampNeg = 0 := by rw [ec, ep]; exact nI_ne0 (by omega) (by omega)
    by_cases z : cr j = c
    · have z' : cr (nI j).toNatClampNeg = c := by rw [ec]; exact z
      refine br_f hge ⟨hv, br_t z' ⟨hv, hv, nY, nm_r ?_ (nm_r (nI_1 j) ih1)⟩⟩
      rw [ec]
      exact kz_term (n := n) ea ep hp1 hp16 ha z
    · have z' : ¬ cr (nI j).toNatClampNeg = c := by rw [ec]; exact z
      rw [kz_term0 z] at ih1
      exact br_f hge ⟨hv, br_f z' (nm_r (nI_1 j) ih1)⟩
theorem kz_Xlo (n t : Nat) (kc ad md la xn xd : Int32) (pe cr lo hi nx : Nat → Int32) (pd dn dm cX st : Nat → Int32) (rX : Nat → Int64) (hT : kz_T n pe lo hi cr) (hn : n ≤ 8) (c : Int32) (post : Int32 → Prop) (hp : post (nI (kz_sum (kz_u c cr lo pe) n))) : wpX_utilSum post (kc, (nI n), ad, (lN t), md, la, xn, xd, pe, cr, lo, hi, nx, pd, rX, dn, dm, cX, st) c :=
  ⟨n + 1, kz_xlo n t kc ad md la xn xd pe cr lo hi nx pd dn dm cX st rX hT hn c post hp n 0 (by omega)⟩
theorem kz_xhi (n t : Nat) (kc ad md la xn xd : Int32) (pe cr lo hi nx : Nat → Int32) (pd dn dm cX st : Nat → Int32) (rX : Nat → Int64) (hT : kz_T n pe lo hi cr) (hn : n ≤ 8) (c : Int32) (post : Int32 → Prop) (hp : post (nI (kz_sum (kz_u c cr hi pe) n))) : ∀ d j, j + d = n → wX_utilSum_2_5 post c kc (nI n) ad (lN t) md la xn xd pe cr lo hi nx pd rX dn dm cX st (d + 1) (nI (kz_sum (kz_u c cr hi pe) j)) (nI j) := by
  intro d
  induction d with
  | zero =>
    intro j hj
    have e : j = n := by omega
    rw [e]
    exact br_t (nI_le (Nat.le_refl n) (by omega)) hp
  | succ d ih =>
    intro j hj
    have hj8 : j < 8 := by omega
    have hge : ¬ nI n ≤ nI j := nI_ge (by omega) (by omega)
    have hv := kz_v8 hj8
    have ec := kz_cl hj8
    obtain ⟨p, ep, hp1, hp16⟩ := kz_T_p hT (show j < n by omega)
    obtain ⟨a, ea, ha⟩ := kz_T_hi hT (show j < n by omega)
    have ih1 := ih (j + 1) (by omega)
    have es : kz_sum (kz_u c cr hi pe) (j + 1) = kz_sum (kz_u c cr hi pe) j + kz_u c cr hi pe j := rfl
    rw [es] at ih1
    have nY : ¬ pe (nI j).toNatClampNeg = 0 := by rw [ec, ep]; exact nI_ne0 (by omega) (by omega)
    by_cases z : cr j = c
    · have z' : cr (nI j).toNatClampNeg = c := by rw [ec]; exact z
      refine br_f hge ⟨hv, br_t z' ⟨hv, hv, nY, nm_r ?_ (nm_r (nI_1 j) ih1)⟩⟩
      rw [ec]
      exact kz_term (n := n) ea ep hp1 hp16 ha z
    · have z' : ¬ cr (nI j).toNatClampNeg = c := by rw [ec]; exact z
      rw [kz_term0 z] at ih1
      exact br_f hge ⟨hv, br_f z' (nm_r (nI_1 j) ih1)⟩
theorem kz_Xhi (n t : Nat) (kc ad md la xn xd : Int32) (pe cr lo hi nx : Nat → Int32) (pd dn dm cX st : Nat → Int32) (rX : Nat → Int64) (hT : kz_T n pe lo hi cr) (hn : n ≤ 8) (c : Int32) (post : Int32 → Prop) (hp : post (nI (kz_sum (kz_u c cr hi pe) n))) : wpX_utilSum_2 post (kc, (nI n), ad, (lN t), md, la, xn, xd, pe, cr, lo, hi, nx, pd, rX, dn, dm, cX, st) c :=
  ⟨n + 1, kz_xhi n t kc ad md la xn xd pe cr lo hi nx pd dn dm cX st rX hT hn c post hp n 0 (by omega)⟩
theorem kz_l0 {b : Nat} (h : b < 2 ^ 31) (h0 : ¬ b = 0) : ¬ lN b = 0 := by
  rw [show (0 : Int64) = lN 0 from rfl, lN_eq h (by omega)]; exact h0
theorem kz_euc (post : Int64 → Prop) : ∀ m a b r : Nat, b < 2 ^ m → a < 2 ^ 31 → b < 2 ^ 31 → r + 2 * m ≤ 1000 → post (lN (Nat.gcd a b)) → ∀ fu, 2 * m + 1 ≤ fu → wX_commonDivisor_9 post fu (lN a) (lN b) (nI r) := by
  have fin : ∀ (a r fu : Nat), post (lN a) → 1 ≤ fu → wX_commonDivisor_9 post fu (lN a) (lN 0) (nI r) := by
    intro a r fu h hf
    obtain ⟨f, rfl⟩ : ∃ f, fu = f + 1 := ⟨fu - 1, by omega⟩
    exact br_c (fun _ => h) (fun _ => br_t rfl h)
  intro m
  induction m with
  | zero =>
    intro a b r hb ha hb2 hr h fu hf
    have e : b = 0 := by omega
    subst e
    rw [Nat.gcd_zero_right] at h
    exact fin a r fu h (by omega)
  | succ m ih =>
    intro a b r hb ha hb2 hr h fu hf
    by_cases z : b = 0
    · subst z
      rw [Nat.gcd_zero_right] at h
      exact fin a r fu h (by omega)
    · obtain ⟨f, rfl⟩ : ∃ f, fu = f + 2 := ⟨fu - 2, by omega⟩
      have g1 : ¬ (1000 : Int32) ≤ nI r := nI_ge (b := 1000) (by omega) (by decide)
      refine br_f g1 (br_f (kz_l0 hb2 z) ⟨kz_l0 hb2 z, nm_r (pk_lRem (by omega) (by omega) (by omega)) (nm_r (nI_1 r) ?_)⟩)
      rw [kz_gstep] at h
      have l1 := Nat.mod_lt a (show 0 < b by omega)
      by_cases w : a % b = 0
      · rw [w] at h ⊢
        rw [Nat.gcd_zero_right] at h
        exact fin b (r + 1) (f + 1) h (by omega)
      · have g2 : ¬ (1000 : Int32) ≤ nI (r + 1) := nI_ge (b := 1000) (by omega) (by decide)
        have w2 : a % b < 2 ^ 31 := by omega
        refine br_f g2 (br_f (kz_l0 w2 w) ⟨kz_l0 w2 w, nm_r (pk_lRem (by omega) (by omega) (by omega)) (nm_r (nI_1 (r + 1)) ?_)⟩)
        have l2 := kz_half (show 0 < a % b by omega) l1
        have l3 := Nat.mod_lt b (show 0 < a % b by omega)
        rw [kz_gstep] at h
        have hb' : b < 2 * 2 ^ m := by rw [Nat.pow_succ] at hb; omega
        exact ih (a % b) (b % (a % b)) (r + 2) (by omega) w2 (by omega) (by omega) h f (by omega)
theorem kz_gcd {a b : Nat} (ha : a ≤ 720720) (hb : b ≤ 720720) (post : Int64 → Prop) (h : post (lN (Nat.gcd a b))) : wpX_commonDivisor post () (lN a) (lN b) :=
  ⟨41, kz_euc post 20 a b 0 (by omega) (by omega) (by omega) (by omega) h 41 (by omega)⟩

theorem rz_div : ∀ p, p < 17 → 1 ≤ p → p * (720720 / p) = 720720 := by decide
theorem rz_sumeq {f g : Nat → Nat} : ∀ n, (∀ i, i < n → f i = g i) → qz_sum f n = kz_sum g n
  | 0, _ => rfl
  | n + 1, h => by
    show qz_sum f n + f n = kz_sum g n + g n
    rw [rz_sumeq n (fun i hi => h i (by omega)), h n (by omega)]
theorem rz_eA {n : Nat} {pe lo hi cr : Nat → Int32} (hT : kz_T n pe lo hi cr) : qz_sum (qz_A (rz_H cr) (rz_N lo) (rz_q pe)) n = kz_sum (kz_u 0 cr lo pe) n := by
  refine rz_sumeq n fun i hin => ?_
  unfold qz_A kz_u
  rcases kz_T_c hT hin with ⟨c, _⟩ | c
  · have hf : rz_H cr i = false := decide_eq_false (by rw [c]; decide)
    rw [hf, if_pos c]
    rfl
  · rw [rz_Ht c, if_neg (by rw [c]; decide)]
theorem rz_eB {n : Nat} {pe lo hi cr : Nat → Int32} (hT : kz_T n pe lo hi cr) : qz_sum (qz_B (rz_H cr) (rz_N lo) (rz_q pe)) n = kz_sum (kz_u 1 cr lo pe) n := by
  refine rz_sumeq n fun i hin => ?_
  unfold qz_B kz_u
  rcases kz_T_c hT hin with ⟨c, _⟩ | c
  · have hf : rz_H cr i = false := decide_eq_false (by rw [c]; decide)
    rw [hf, if_neg (by rw [c]; decide)]
  · rw [rz_Ht c, if_pos c]
    rfl
theorem rz_eC {n : Nat} {pe lo hi cr : Nat → Int32} (hT : kz_T n pe lo hi cr) : qz_sum (qz_D (rz_H cr) (rz_N hi) (rz_q pe)) n = kz_sum (kz_u 1 cr hi pe) n := by
  refine rz_sumeq n fun i hin => ?_
  unfold qz_D kz_u
  rcases kz_T_c hT hin with ⟨c, _⟩ | c
  · have hf : rz_H cr i = false := decide_eq_false (by rw [c]; decide)
    rw [hf, if_neg (by rw [c]; decide)]
  · rw [rz_Ht c, if_pos c]
    rfl
theorem rz_adm {n num e : Nat} {pe lo hi cr : Nat → Int32} (hT : kz_T n pe lo hi cr) (h0 : 1 ≤ num)
    (h1 : kz_sum (kz_u 0 cr lo pe) n * num + kz_sum (kz_u 1 cr lo pe) n * (num + e) ≤ 720720 * num)
    (h2 : kz_sum (kz_u 0 cr lo pe) n * num + kz_sum (kz_u 1 cr hi pe) n * (num + e) ≤ 720720 * (num + e)) : rz_A n num e pe lo hi cr := by
  refine ⟨h0, by omega, fun i hin => ?_, ?_, ?_⟩
  · obtain ⟨_, _, _, t1, t2, t3, t4⟩ := rz_T_n hT hin
    exact ⟨by omega, rz_div _ (by omega) (by omega), t1, t2, t3⟩
  · rw [rz_eA hT, rz_eB hT]; exact h1
  · rw [rz_eA hT, rz_eC hT]; exact h2
/-- rule 3, in naturals -/
theorem rz_vd {A B C : Nat} (hA : A < 720720) (hB : B ≤ 5765760) (hC : C ≤ 5765760) (h : ¬ (720720 - lN C) * (720720 - lN A) < lN B * lN A) : A * B + C * (720720 - A) ≤ 720720 * (720720 - A) := by
  have eL : (720720 : Int64) = lN 720720 := rfl
  have b1 : B * A ≤ 5765760 * 720720 := Nat.mul_le_mul hB (by omega)
  have bAB : A * B = B * A := Nat.mul_comm A B
  rw [eL, lN_sub (a := 720720) (b := A) (by omega), lN_mul B A] at h
  by_cases c : C ≤ 720720
  · have b2 : (720720 - C) * (720720 - A) ≤ 720720 * 720720 := Nat.mul_le_mul (by omega) (by omega)
    rw [lN_sub c, lN_mul, pk_lLT (by omega) (by omega)] at h
    have e2 : (720720 - C) * (720720 - A) + C * (720720 - A) = 720720 * (720720 - A) := by
      rw [← Nat.add_mul, show 720720 - C + C = 720720 from by omega]
    omega
  · exfalso
    have b2 : (C - 720720) * (720720 - A) ≤ 5765760 * 720720 := Nat.mul_le_mul (by omega) (by omega)
    have b3 : 0 < (C - 720720) * (720720 - A) := Nat.mul_pos (by omega) (by omega)
    have e1 : lN C = lN 720720 + lN (C - 720720) := by rw [lN_add]; exact congrArg lN (by omega)
    have e2 : (lN 720720 - lN C) * lN (720720 - A) = -(lN ((C - 720720) * (720720 - A))) := by
      rw [e1, ← lN_mul]
      generalize lN 720720 = a
      generalize lN (C - 720720) = b
      generalize lN (720720 - A) = c
      grind
    rw [e2] at h
    apply h
    generalize (C - 720720) * (720720 - A) = k at *
    generalize B * A = m at *
    rw [Int64.lt_iff_toInt_lt, Int64.toInt_neg, pk_lT (by omega), pk_lT (by omega)]
    have e3 : (-(k : Int)).bmod (2 ^ 64) = -(k : Int) := Int.bmod_eq_of_le (by omega) (by omega)
    rw [e3]
    omega
/-- an admitted kernel at time t: all is kept, and no job was ever late -/
def rz_Good (t : Nat) (u : St2) : Prop := ∃ (n : Nat) (kc md la xn xd : Int32) (pe cr lo hi nx pd : Nat → Int32) (rX : Nat → Int64) (dn dm cX st : Nat → Int32) (num e : Nat) (R U : Nat → Nat),
  u = (kc, (nI n), 1, (lN t), md, la, xn, xd, pe, cr, lo, hi, nx, pd, rX, dn, dm, cX, st) ∧ n ≤ 8 ∧ kz_T n pe lo hi cr ∧ rz_A n num e pe lo hi cr ∧ xn = nI num ∧ xd = nI (num + e) ∧ num + e ≤ 720720 ∧ rz_Jb n t md lo hi cr pd rX dn R U ∧ rz_Md n num e md pe lo hi cr pd R U t (t + 1) ∧ (∀ j, j < 8 → cX (5 * 8 + j) = 0)
theorem rz_start (n : Nat) (kc la xn xd : Int32) (pe cr lo hi nx st : Nat → Int32) (hT : kz_T n pe lo hi cr) (hn : n ≤ 8) (p q : Nat) (hp : 1 ≤ p) (hpq : p ≤ q) (hq2 : q ≤ 720720)
    (hA : ∀ num e g, 0 < g → 1 ≤ num → num * g = p → (num + e) * g = q → rz_A n num e pe lo hi cr) (post : St2 → Prop) (h : ∀ u', rz_Good 0 u' → post u') :
    wpX_start post (kc, (nI n), 0, lN 0, 0, la, xn, xd, pe, cr, lo, hi, nx, (fun _ => 0), (fun _ => 0), (fun _ => 0), (fun _ => 0), (fun _ => 0), st) (lN p) (lN q) := by
  have hg := kz_gpos (b := q) (show 0 < p by omega)
  have hgl := kz_gle (show 0 < p by omega) (show 0 < q by omega)
  have d1 := Nat.div_mul_cancel (Nat.gcd_dvd_left p q)
  have d2 := Nat.div_mul_cancel (Nat.gcd_dvd_right p q)
  have hle : p / Nat.gcd p q ≤ q / Nat.gcd p q := Nat.div_le_div_right hpq
  have hq3 : q / Nat.gcd p q ≤ q := Nat.div_le_self _ _
  have hnum : 1 ≤ p / Nat.gcd p q := Nat.div_pos hgl.1 hg
  have esum : p / Nat.gcd p q + (q / Nat.gcd p q - p / Nat.gcd p q) = q / Nat.gcd p q := by omega
  have A1 := hA (p / Nat.gcd p q) (q / Nat.gcd p q - p / Nat.gcd p q) (Nat.gcd p q) hg hnum d1 (by rw [esum]; exact d2)
  obtain ⟨pd', rX', dn', dm', cX', b1, b2, b3⟩ := rz_release n 0 kc 1 0 la (nI (p / Nat.gcd p q)) (nI (q / Nat.gcd p q)) pe cr lo hi nx st hT hn (by omega) (fun _ => 0) (fun _ => 0) (fun _ => 0) (fun _ => 0) (fun _ => 0)
  have J0 : rz_Jb n 0 0 lo hi cr (fun _ => 0) (fun _ => 0) (fun _ => 0) (fun _ => 0) (fun _ => 0) := fun i _ => ⟨rfl, rfl, Nat.le_refl 0, fun z => absurd rfl z⟩
  have M0 : rz_Md n (p / Nat.gcd p q) (q / Nat.gcd p q - p / Nat.gcd p q) 0 pe lo hi cr (fun _ => 0) (fun _ => 0) (fun _ => 0) 0 0 := Or.inl ⟨rfl, qz_idle n _ _ 720720 _ _ _ _ _ A1 0 (fun i _ => rz_Pf rfl)⟩
  obtain ⟨R', U', f1, f2⟩ := rz_fin hT A1 J0 M0 b2
  have g0 : ¬ lN (Nat.gcd p q) = 0 := kz_l0 (by omega) (by omega)
  have e1 : (lN p / lN (Nat.gcd p q)).toInt32 = nI (p / Nat.gcd p q) := by rw [pk_lDiv (by omega) hg (by omega), lN_i]
  have e2 : (lN q / lN (Nat.gcd p q)).toInt32 = nI (q / Nat.gcd p q) := by rw [pk_lDiv (by omega) hg (by omega), lN_i]
  refine kz_gcd (by omega) hq2 _ ⟨g0, nm_r e1 ⟨g0, nm_r e2 (b3 _ (h _ ?_))⟩⟩
  exact ⟨n, kc, 0, la, _, _, pe, cr, lo, hi, nx, pd', rX', dn', dm', cX', st, p / Nat.gcd p q, q / Nat.gcd p q - p / Nat.gcd p q, R', U', rfl, hn, hT, A1, rfl, by rw [esum], by omega, f1, f2, fun j hj => b1 j hj⟩
theorem rz_admit (n : Nat) (kc la xn xd : Int32) (pe cr lo hi nx st : Nat → Int32) (hT : kz_T n pe lo hi cr) (hn : n ≤ 8) (post : Int32 → St2 → Prop)
    (h0 : ∀ r, ¬ r = 1 → ¬ r = 2 → post r (kc, (nI n), 0, lN 0, 0, la, xn, xd, pe, cr, lo, hi, nx, (fun _ => 0), (fun _ => 0), (fun _ => 0), (fun _ => 0), (fun _ => 0), st))
    (h1 : ∀ r u', (r = 1 ∨ r = 2) → rz_Good 0 u' → post r u') :
    wpX_admit post (kc, (nI n), 0, lN 0, 0, la, xn, xd, pe, cr, lo, hi, nx, (fun _ => 0), (fun _ => 0), (fun _ => 0), (fun _ => 0), (fun _ => 0), st) := by
  by_cases e : n = 0
  · subst e
    exact br_t rfl (br_t rfl (h0 _ (by decide) (by decide)))
  · have en : ¬ nI n = 0 := nI_ne0 (by omega) (by omega)
    have bA := kz_S_lo (c := 0) hT hn
    have bB := kz_S_lo (c := 1) hT hn
    have bC := kz_S_hi (c := 1) hT hn
    have zz := kz_S_z (c := 1) hT
    have hadm := fun num e => rz_adm (num := num) (e := e) hT
    refine br_t rfl (br_f en (kz_Xlo n 0 kc 0 0 la xn xd pe cr lo hi nx (fun _ => 0) (fun _ => 0) (fun _ => 0) (fun _ => 0) st (fun _ => 0) hT hn 0 _ (kz_Xlo n 0 kc 0 0 la xn xd pe cr lo hi nx (fun _ => 0) (fun _ => 0) (fun _ => 0) (fun _ => 0) st (fun _ => 0) hT hn 1 _ (kz_Xhi n 0 kc 0 0 la xn xd pe cr lo hi nx (fun _ => 0) (fun _ => 0) (fun _ => 0) (fun _ => 0) st (fun _ => 0) hT hn 1 _ ?_))))
    generalize kz_sum (kz_u 0 cr lo pe) n = A at *
    generalize kz_sum (kz_u 1 cr lo pe) n = B at *
    generalize kz_sum (kz_u 1 cr hi pe) n = C at *
    have eA := nI_l (n := A) (by omega)
    have eB := nI_l (n := B) (by omega)
    have eC := nI_l (n := C) (by omega)
    by_cases q1 : (nI A).toInt64 + (nI B).toInt64 ≤ 720720
    · have r1 := q1
      rw [eA, eB, lN_add, show (720720 : Int64) = lN 720720 from rfl, lN_le (by omega) (by omega)] at r1
      by_cases q2 : 720720 < (nI A).toInt64 + (nI C).toInt64
      · by_cases q3 : (720720 - (nI C).toInt64) * (720720 - (nI A).toInt64) < (nI B).toInt64 * (nI A).toInt64
        · exact br_t q1 (br_t q2 (br_t q3 (br_f (by decide) (br_f (by decide) (h0 _ (by decide) (by decide))))))
        · have r2 := q2
          rw [eA, eC, lN_add, show (720720 : Int64) = lN 720720 from rfl, lN_lt (by omega) (by omega)] at r2
          have r3 := q3
          rw [eA, eB, eC] at r3
          have hB : 1 ≤ B := by
            by_cases z : B = 0
            · have := zz z; omega
            · omega
          have vd := rz_vd (show A < 720720 by omega) bB bC r3
          have e2 : 720720 - (nI A).toInt64 = lN (720720 - A) := by rw [eA, show (720720 : Int64) = lN 720720 from rfl, lN_sub (by omega)]
          refine br_t q1 (br_t q2 (br_f q3 (br_f (by decide) (br_t rfl ?_))))
          rw [e2, eB]
          refine rz_start n kc la xn xd pe cr lo hi nx st hT hn B (720720 - A) hB (by omega) (by omega) (fun num e g hg hnum g1 g2 => hadm num e hnum ?_ ?_) _ (fun u' hu => h1 2 u' (Or.inr rfl) hu)
          · refine Nat.le_of_mul_le_mul_right (c := g) ?_ hg
            rw [Nat.add_mul, Nat.mul_assoc, Nat.mul_assoc, Nat.mul_assoc, g1, g2]
            have f1 : B * (720720 - A) + B * A = B * 720720 := by rw [← Nat.mul_add]; exact congrArg _ (by omega)
            have f2 : A * B = B * A := Nat.mul_comm A B
            omega
          · refine Nat.le_of_mul_le_mul_right (c := g) ?_ hg
            rw [Nat.add_mul, Nat.mul_assoc, Nat.mul_assoc, Nat.mul_assoc, g1, g2]
            exact vd
      · have r2 := q2
        rw [eA, eC, lN_add, show (720720 : Int64) = lN 720720 from rfl, lN_lt (by omega) (by omega)] at r2
        refine br_t q1 (br_f q2 (br_t rfl ?_))
        refine rz_start n kc la xn xd pe cr lo hi nx st hT hn 1 1 (by omega) (by omega) (by omega) (fun num e g hg hnum g1 g2 => ?_) _ (fun u' hu => h1 1 u' (Or.inl rfl) hu)
        have hg1 : g = 1 := by
          have := Nat.mul_le_mul_right g hnum
          omega
        subst hg1
        have e1 : num = 1 := by omega
        have e0 : e = 0 := by omega
        subst e1; subst e0
        exact hadm 1 0 (by omega) (by omega) (by omega)
    · exact br_f q1 (br_f (by decide) (br_f (by decide) (h0 _ (by decide) (by decide))))
end
section
/-! the calls of the law: addTask on a fresh kernel; setExec, run, counter on an admitted one -/
def rz_Fresh (u : St2) : Prop := ∃ (n : Nat) (la xn xd : Int32) (pe cr lo hi nx st : Nat → Int32),
  u = (nI 8, (nI n), 0, lN 0, 0, la, xn, xd, pe, cr, lo, hi, nx, (fun _ => 0), (fun _ => 0), (fun _ => 0), (fun _ => 0), (fun _ => 0), st) ∧ n ≤ 8 ∧ kz_T n pe lo hi cr
theorem kz_num {x : Int32} (h : ¬ x < 1) : ∃ p : Nat, p < 2 ^ 31 ∧ x = nI p ∧ 1 ≤ p := by
  obtain ⟨p, hp, e⟩ := nI_of (x := x) (fun z => h (Int32.lt_trans z (by decide)))
  refine ⟨p, hp, e, ?_⟩
  by_cases z : p = 0
  · subst z; subst e; exact absurd (by decide) h
  · omega
theorem rz_it (v1 v2 v3 v4 : Int32) :
    (∀ post : Int32 → Prop, post 0 → wpX_isTask post () v1 v2 v3 v4)
    ∨ ((∀ post : Int32 → Prop, post 1 → wpX_isTask post () v1 v2 v3 v4) ∧ ((v4 = 1 ∧ kz_T1 v1 v2 v3 v4) ∨ (¬ v4 = 1 ∧ kz_T1 v1 v2 v2 v4))) := by
  by_cases h0 : v4 = 0
  · have h01 : ¬ v4 = 1 := by rw [h0]; decide
    by_cases a1 : v1 < 1
    · exact Or.inl (fun post h => br_t h0 (br_t a1 h))
    · by_cases a2 : 16 < v1
      · exact Or.inl (fun post h => br_t h0 (br_f a1 (br_t a2 h)))
      · have a2' : v1 ≤ 16 := Int32.not_lt.mp a2
        by_cases a3 : v2 < 1
        · exact Or.inl (fun post h => br_t h0 (br_f a1 (br_f a2 (br_t a3 h))))
        · by_cases a4 : v2 ≤ v1
          · refine Or.inr ⟨fun post h => br_t h0 (br_f a1 (br_f a2 (br_f a3 (br_t a4 (br_t h0 h))))), Or.inr ⟨h01, ?_⟩⟩
            obtain ⟨p, p1, p2, p3⟩ := kz_num a1
            obtain ⟨q, q1, q2, q3⟩ := kz_num a3
            rw [p2, q2, nI_leI q1 p1] at a4
            rw [p2, show (16 : Int32) = nI 16 from rfl, nI_leI p1 (by omega)] at a2'
            exact ⟨p, q, q, p2, q2, q2, q3, Nat.le_refl q, a4, a2', Or.inl ⟨h0, rfl⟩⟩
          · exact Or.inl (fun post h => br_t h0 (br_f a1 (br_f a2 (br_f a3 (br_f a4 h)))))
  · by_cases h1 : v4 = 1
    · by_cases a1 : v1 < 1
      · exact Or.inl (fun post h => br_f h0 (br_t h1 (br_t a1 h)))
      · by_cases a2 : 16 < v1
        · exact Or.inl (fun post h => br_f h0 (br_t h1 (br_f a1 (br_t a2 h))))
        · have a2' : v1 ≤ 16 := Int32.not_lt.mp a2
          by_cases a3 : v2 < 1
          · exact Or.inl (fun post h => br_f h0 (br_t h1 (br_f a1 (br_f a2 (br_t a3 h)))))
          · by_cases a4 : v2 ≤ v1
            · by_cases a5 : v3 < v2
              · exact Or.inl (fun post h => br_f h0 (br_t h1 (br_f a1 (br_f a2 (br_f a3 (br_t a4 (br_f h0 (br_t a5 h))))))))
              · by_cases a6 : v1 < v3
                · exact Or.inl (fun post h => br_f h0 (br_t h1 (br_f a1 (br_f a2 (br_f a3 (br_t a4 (br_f h0 (br_f a5 (br_t a6 h)))))))))
                · have a6' : v3 ≤ v1 := Int32.not_lt.mp a6
                  refine Or.inr ⟨fun post h => br_f h0 (br_t h1 (br_f a1 (br_f a2 (br_f a3 (br_t a4 (br_f h0 (br_f a5 (br_f a6 h)))))))), Or.inl ⟨h1, ?_⟩⟩
                  obtain ⟨p, p1, p2, p3⟩ := kz_num a1
                  obtain ⟨q, q1, q2, q3⟩ := kz_num a3
                  have a5' : v2 ≤ v3 := Int32.not_lt.mp a5
                  obtain ⟨s, s1, s2, s3⟩ := kz_num (x := v3) (fun z => a3 (Int32.lt_of_le_of_lt a5' z))
                  rw [q2, s2, nI_leI q1 s1] at a5'
                  rw [p2, s2, nI_leI s1 p1] at a6'
                  rw [p2, show (16 : Int32) = nI 16 from rfl, nI_leI p1 (by omega)] at a2'
                  exact ⟨p, q, s, p2, q2, s2, q3, a5', a6', a2', Or.inr h1⟩
            · exact Or.inl (fun post h => br_f h0 (br_t h1 (br_f a1 (br_f a2 (br_f a3 (br_f a4 h))))))
    · exact Or.inl (fun post h => br_f h0 (br_f h1 h))
theorem rz_add {u : St2} (F : rz_Fresh u) (v1 v2 v3 v4 : Int32) (post : Int32 → St2 → Prop) (h : ∀ r u', rz_Fresh u' → post r u') : wpX_addTask post u v1 v2 v3 v4 := by
  have F' := F
  obtain ⟨n, la, xn, xd, pe, cr, lo, hi, nx, st, rfl, hn, hT⟩ := F
  by_cases e : n = 8
  · subst e
    exact br_t rfl (br_t (by decide) (h _ _ F'))
  · have hge : ¬ nI 8 ≤ nI n := nI_ge (by omega) (by omega)
    have hn8 : n < 8 := by omega
    have hv := kz_v8 hn8
    have ec := kz_cl hn8
    refine br_t rfl (br_f hge ?_)
    rcases rz_it v1 v2 v3 v4 with g1 | ⟨g1, g3⟩
    · exact g1 _ (br_t rfl (h _ _ F'))
    · refine g1 _ (br_f (by decide) ⟨hv, ?_⟩)
      rw [ec]
      refine nm_e ⟨hv, nm_e ⟨hv, nm_e ?_⟩⟩
      rcases g3 with ⟨w, hT1⟩ | ⟨w, hT1⟩
      · refine br_t w ⟨hv, ?_⟩
        rw [ec]
        refine nm_e ⟨hv, nm_e (nm_r (nI_1 n) (h _ _ ?_))⟩
        exact ⟨n + 1, la, xn, xd, _, _, _, _, _, st, rfl, by omega, kz_T_s hT hT1⟩
      · refine br_f w ⟨hv, ?_⟩
        rw [ec]
        refine nm_e ⟨hv, nm_e (nm_r (nI_1 n) (h _ _ ?_))⟩
        exact ⟨n + 1, la, xn, xd, _, _, _, _, _, st, rfl, by omega, kz_T_s hT hT1⟩
theorem rz_set {t : Nat} {u : St2} (G : rz_Good t u) (v1 v2 : Int32) (post : Int32 → St2 → Prop) (h : ∀ r u', rz_Good t u' → post r u') : wpX_setExec post u v1 v2 := by
  have G' := G
  obtain ⟨n, kc, md, la, xn, xd, pe, cr, lo, hi, nx, pd, rX, dn, dm, cX, st, num, e, R, U, rfl, hn, hT, hA, hx, hd, he, hJ, hM, hZ⟩ := G
  rcases pk_ix v1 (n := n) (by omega) with a | a | ⟨j, hj, ej⟩
  · exact br_t a (br_t rfl (h _ _ G'))
  · have b : ¬ v1 < 0 := Int32.not_lt.mpr (Int32.le_trans (nI_pos' (by omega)) a)
    exact br_f b (br_t a (br_t rfl (h _ _ G')))
  · subst ej
    have hj8 : j < 8 := by omega
    have b : ¬ nI j < 0 := nI_pos (by omega)
    have b2 : ¬ nI n ≤ nI j := nI_ge (by omega) (by omega)
    have hv := kz_v8 hj8
    refine br_f b (br_f b2 (br_f (by decide) ?_))
    by_cases w1 : v2 < 1
    · exact br_t w1 (h _ _ G')
    · by_cases w2 : v2 ≤ 32
      · refine br_f w1 (br_t w2 ⟨hv, nm_e (h _ _ ?_)⟩)
        exact ⟨n, kc, md, la, xn, xd, pe, cr, lo, hi, _, pd, rX, dn, dm, cX, st, num, e, R, U, rfl, hn, hT, hA, hx, hd, he, hJ, hM, hZ⟩
      · exact br_f w1 (br_f w2 (h _ _ G'))
theorem rz_runs {t : Nat} {u : St2} (G : rz_Good t u) (s : Nat) (h1 : 1 ≤ s) (h2 : s ≤ 1000) (ht : t + s ≤ 1000000) (post : Int32 → St2 → Prop) (h : ∀ r u', rz_Good (t + s) u' → post r u') : wpX_run post u (nI s) := by
  obtain ⟨n, kc, md, la, xn, xd, pe, cr, lo, hi, nx, pd, rX, dn, dm, cX, st, num, e, R, U, rfl, hn, hT, hA, hx, hd, he, hJ, hM, hZ⟩ := G
  obtain ⟨b', md', la', pd', rX', dn', dm', cX', st', R', U', g1, g2, g3, g4⟩ := rz_run n kc 1 xn xd pe cr lo hi nx num e s h2 hT hn hA hx hd he s 0 (by omega) t 0 md la st pd dn dm cX rX R U ht hJ hM
  have w1 : ¬ nI s < 1 := nI_nlt (b := 1) (by omega) (by omega)
  have w2 : nI s ≤ 1000 := nI_le (b := 1000) (by omega) (by decide)
  refine br_f (by decide) (br_f w1 (br_t w2 ⟨s + 1, g4 _ (h _ _ ?_)⟩))
  exact ⟨n, kc, md', la', xn, xd, pe, cr, lo, hi, nx, pd', rX', dn', dm', cX', st', num, e, R', U', rfl, hn, hT, hA, hx, hd, he, g2, g3, fun j hj => (g1 j hj).trans (hZ j hj)⟩
theorem rz_cs (n t : Nat) (kc ad md la xn xd : Int32) (pe cr lo hi nx : Nat → Int32) (pd dn dm cX st : Nat → Int32) (rX : Nat → Int64) (hn : n ≤ 8) (hZ : ∀ j, j < 8 → cX (5 * 8 + j) = 0) (post : Int32 → Prop) (h : post 0) : ∀ d j, j + d = n → wX_counterSum_4 post (nI 5) kc (nI n) ad (lN t) md la xn xd pe cr lo hi nx pd rX dn dm cX st (d + 1) 0 (nI j) := by
  intro d
  induction d with
  | zero =>
    intro j hj
    have e : j = n := by omega
    rw [e]
    exact br_t (kz_nle hn) h
  | succ d ih =>
    intro j hj
    have hj8 : j < 8 := by omega
    have hge : ¬ nI n ≤ nI j := nI_ge (by omega) (by omega)
    refine br_f hge ⟨kz_xv (k := 5) (by omega) hj8, nm_r ?_ (nm_r (nI_1 j) (ih (j + 1) (by omega)))⟩
    rw [kz_xc (k := 5) (by omega) hj8, hZ j hj8]
    decide
theorem rz_cnt {t : Nat} {u : St2} (G : rz_Good t u) (post : Int32 → Prop) (h : post 0) : wpX_counter post u (-1) 5 := by
  obtain ⟨n, kc, md, la, xn, xd, pe, cr, lo, hi, nx, pd, rX, dn, dm, cX, st, num, e, R, U, rfl, hn, hT, hA, hx, hd, he, hJ, hM, hZ⟩ := G
  exact br_f (by decide) (br_t (by decide) (br_t rfl ⟨n + 1, rz_cs n t kc 1 md la xn xd pe cr lo hi nx pd dn dm cX st rX hn hZ post h n 0 (by omega)⟩))
end
section
/-! the law -/
def rz_W197 (post : Int32 → Prop) (L : Nat) (xs : Nat → Int32) (x1 : Int32) (kc ks fu : Nat) (x6 : Int32) (u : St2) : Prop := wL_law_197 post L xs x1 kc ks fu x6 u.1 u.2.1 u.2.2.1 u.2.2.2.1 u.2.2.2.2.1 u.2.2.2.2.2.1 u.2.2.2.2.2.2.1 u.2.2.2.2.2.2.2.1 u.2.2.2.2.2.2.2.2.1 u.2.2.2.2.2.2.2.2.2.1 u.2.2.2.2.2.2.2.2.2.2.1 u.2.2.2.2.2.2.2.2.2.2.2.1 u.2.2.2.2.2.2.2.2.2.2.2.2.1 u.2.2.2.2.2.2.2.2.2.2.2.2.2.1 u.2.2.2.2.2.2.2.2.2.2.2.2.2.2.1 u.2.2.2.2.2.2.2.2.2.2.2.2.2.2.2.1 u.2.2.2.2.2.2.2.2.2.2.2.2.2.2.2.2.1 u.2.2.2.2.2.2.2.2.2.2.2.2.2.2.2.2.2.1 u.2.2.2.2.2.2.2.2.2.2.2.2.2.2.2.2.2.2
def rz_W178 (post : Int32 → Prop) (L : Nat) (xs : Nat → Int32) (x1 : Int32) (kc ks : Nat) (u : St2) : Prop := wL_law_178 post L xs x1 kc ks u.1 u.2.1 u.2.2.1 u.2.2.2.1 u.2.2.2.2.1 u.2.2.2.2.2.1 u.2.2.2.2.2.2.1 u.2.2.2.2.2.2.2.1 u.2.2.2.2.2.2.2.2.1 u.2.2.2.2.2.2.2.2.2.1 u.2.2.2.2.2.2.2.2.2.2.1 u.2.2.2.2.2.2.2.2.2.2.2.1 u.2.2.2.2.2.2.2.2.2.2.2.2.1 u.2.2.2.2.2.2.2.2.2.2.2.2.2.1 u.2.2.2.2.2.2.2.2.2.2.2.2.2.2.1 u.2.2.2.2.2.2.2.2.2.2.2.2.2.2.2.1 u.2.2.2.2.2.2.2.2.2.2.2.2.2.2.2.2.1 u.2.2.2.2.2.2.2.2.2.2.2.2.2.2.2.2.2.1 u.2.2.2.2.2.2.2.2.2.2.2.2.2.2.2.2.2.2
def rz_W34 (post : Int32 → Prop) (L : Nat) (xs : Nat → Int32) (x1 : Int32) (kc ks fu : Nat) (x4 : Int32) (u v : St2) : Prop := wL_law_34 post L xs x1 kc ks fu x4 u.1 u.2.1 u.2.2.1 u.2.2.2.1 u.2.2.2.2.1 u.2.2.2.2.2.1 u.2.2.2.2.2.2.1 u.2.2.2.2.2.2.2.1 u.2.2.2.2.2.2.2.2.1 u.2.2.2.2.2.2.2.2.2.1 u.2.2.2.2.2.2.2.2.2.2.1 u.2.2.2.2.2.2.2.2.2.2.2.1 u.2.2.2.2.2.2.2.2.2.2.2.2.1 u.2.2.2.2.2.2.2.2.2.2.2.2.2.1 u.2.2.2.2.2.2.2.2.2.2.2.2.2.2.1 u.2.2.2.2.2.2.2.2.2.2.2.2.2.2.2.1 u.2.2.2.2.2.2.2.2.2.2.2.2.2.2.2.2.1 u.2.2.2.2.2.2.2.2.2.2.2.2.2.2.2.2.2.1 u.2.2.2.2.2.2.2.2.2.2.2.2.2.2.2.2.2.2 v.1 v.2.1 v.2.2.1 v.2.2.2.1 v.2.2.2.2.1 v.2.2.2.2.2.1 v.2.2.2.2.2.2.1 v.2.2.2.2.2.2.2.1 v.2.2.2.2.2.2.2.2.1 v.2.2.2.2.2.2.2.2.2.1 v.2.2.2.2.2.2.2.2.2.2.1 v.2.2.2.2.2.2.2.2.2.2.2.1 v.2.2.2.2.2.2.2.2.2.2.2.2.1 v.2.2.2.2.2.2.2.2.2.2.2.2.2.1 v.2.2.2.2.2.2.2.2.2.2.2.2.2.2.1 v.2.2.2.2.2.2.2.2.2.2.2.2.2.2.2.1 v.2.2.2.2.2.2.2.2.2.2.2.2.2.2.2.2.1 v.2.2.2.2.2.2.2.2.2.2.2.2.2.2.2.2.2.1 v.2.2.2.2.2.2.2.2.2.2.2.2.2.2.2.2.2.2
theorem rz_197 (post : Int32 → Prop) (hp : post 1) (L : Nat) (hL : L ≤ 260) (xs : Nat → Int32) (m kc ks : Nat) (h1 : 1 ≤ m) (h8 : m ≤ 8) : ∀ d j, j ≤ 300 → L ≤ j + d → ∀ (t : Nat) (u : St2), t ≤ 40 * j → rz_Good t u → rz_W197 post L xs (nI m) kc ks (d + 1) (nI j) u := by
  intro d
  induction d with
  | zero =>
    intro j hj hd t u ht G
    exact br_t (nI_le (a := L) (b := j) (by omega) (by omega)) hp
  | succ d ih =>
    intro j hj hd t u ht G
    by_cases x : L ≤ j
    · exact br_t (nI_le (a := L) (b := j) x (by omega)) hp
    · have hge : ¬ nI L ≤ nI j := nI_ge (by omega) (by omega)
      have hv : vp_in (nI j) L := vp_in_nI (by omega) (by omega)
      have next : ∀ (t' : Nat) (u' : St2), t' ≤ t + 40 → rz_Good t' u' → wL_law_265 post L xs (wL_law_197 post L xs (nI m) kc ks (d + 1)) (nI m) (nI j) kc ks u'.1 u'.2.1 u'.2.2.1 u'.2.2.2.1 u'.2.2.2.2.1 u'.2.2.2.2.2.1 u'.2.2.2.2.2.2.1 u'.2.2.2.2.2.2.2.1 u'.2.2.2.2.2.2.2.2.1 u'.2.2.2.2.2.2.2.2.2.1 u'.2.2.2.2.2.2.2.2.2.2.1 u'.2.2.2.2.2.2.2.2.2.2.2.1 u'.2.2.2.2.2.2.2.2.2.2.2.2.1 u'.2.2.2.2.2.2.2.2.2.2.2.2.2.1 u'.2.2.2.2.2.2.2.2.2.2.2.2.2.2.1 u'.2.2.2.2.2.2.2.2.2.2.2.2.2.2.2.1 u'.2.2.2.2.2.2.2.2.2.2.2.2.2.2.2.2.1 u'.2.2.2.2.2.2.2.2.2.2.2.2.2.2.2.2.2.1 u'.2.2.2.2.2.2.2.2.2.2.2.2.2.2.2.2.2.2 := by
        intro t' u' ht' G'
        have k := ih (j + 1) (by omega) (by omega) t' u' (by omega) G'
        unfold wL_law_265
        exact rz_cnt G' _ (br_t rfl (nm_r (nI_1 j) k))
      have G2 := G
      obtain ⟨n, kc, md, la, xn, xd, pe, cr, lo, hi, nx, pd, rX, dn, dm, cX, st, num, e, R, U, rfl, hn, hT, hA, hx, hd, he, hJ, hM, hZ⟩ := G2
      refine br_f hge ⟨hv, nm_e (nm_e (fun x9 e9 => ?_))⟩
      obtain ⟨w, hw, ew⟩ := pk_andE (((xs (nI j).toNatClampNeg).toUInt32 >>> ((2 : Int32).toUInt32 &&& Int32.toUInt32 31)).toInt32) (m := 65535) 16 (by decide)
      refine br_c (fun _ => ⟨nI_ne0 (by omega) (by omega), by decide, ?_⟩) (fun _ => ⟨by decide, ?_⟩)
      · refine rz_set G _ _ _ (fun r u' G' => ?_)
        exact next t u' (by omega) G'
      · have es : 1 + (x9 - x9 / 40 * 40) = nI (1 + w % 40) := by
          rw [e9, ew, show (40 : Int32) = nI 40 from rfl, pk_rem (by omega) (by omega) (by omega), show (1 : Int32) = nI 1 from rfl, nI_add]
        rw [es]
        have hw40 := Nat.mod_lt w (show 0 < 40 by omega)
        refine rz_runs G (1 + w % 40) (by omega) (by omega) (by omega) _ (fun r u' G' => ?_)
        exact next (t + (1 + w % 40)) u' (by omega) G'
theorem rz_178 (post : Int32 → Prop) (hp : post 1) (L : Nat) (hL : L ≤ 260) (xs : Nat → Int32) (m kc ks : Nat) (h1 : 1 ≤ m) (h8 : m ≤ 8) (u : St2) (G : rz_Good 0 u) : rz_W178 post L xs (nI m) kc ks u := by
  unfold rz_W178 wL_law_178
  exact rz_cnt G _ (br_t rfl (nm_r (nI_1 m) ⟨L + 1, rz_197 post hp L hL xs m kc ks h1 h8 L (m + 1) (by omega) (by omega) 0 u (by omega) G⟩))
end
section
theorem rz_cell (L : Nat) (hL : L ≤ 260) (xs : Nat → Int32) (post : Int32 → Prop) (j : Nat) (hj : j ≤ 300) (h : ∀ r, post r) : wpL_cell post L xs () (nI j) := by
  refine br_c (fun _ => h _) (fun z => ⟨?_, h _⟩)
  refine vp_in_nI ?_ (by omega)
  refine Nat.lt_of_not_le fun w => z ?_
  exact nI_le (a := L) (b := j) w (by omega)
theorem rz_ok1 {post : Int32 → Prop} {r : Int32} (hr : r = 1 ∨ r = 2) (h : post 1) : wpL_ok post () r := by
  rcases hr with e | e
  · subst e; exact br_t rfl h
  · subst e; exact br_f (by decide) (br_t rfl h)
theorem rz_ok0 {post : Int32 → Prop} {r : Int32} (h1 : ¬ r = 1) (h2 : ¬ r = 2) (h : post 0) : wpL_ok post () r := br_f h1 (br_f h2 h)
theorem rz_34 (post : Int32 → Prop) (hp : post 1) (L : Nat) (hL : L ≤ 260) (xs : Nat → Int32) (m kc ks : Nat) (h1 : 1 ≤ m) (h8 : m ≤ 8) : ∀ d j, j + d = m → ∀ (u v : St2), rz_Fresh u → rz_Fresh v → rz_W34 post L xs (nI m) kc ks (d + 1) (nI j) u v := by
  intro d
  induction d with
  | zero =>
    intro j hj u v Fu Fv
    have e : j = m := by omega
    subst e
    obtain ⟨n, la, xn, xd, pe, cr, lo, hi, nx, st, rfl, hn, hT⟩ := Fu
    obtain ⟨n2, la2, xn2, xd2, pe2, cr2, lo2, hi2, nx2, st2, rfl, hn2, hT2⟩ := Fv
    refine br_t (nI_le (Nat.le_refl j) (by omega)) ?_
    refine rz_admit n (nI 8) la xn xd pe cr lo hi nx st hT hn _ (fun r r1 r2 => rz_ok0 r1 r2 (br_t rfl ?_)) (fun r u' hr G => rz_ok1 hr (br_f (by decide) (br_f (by decide) ?_)))
    · refine rz_admit n2 (nI 8) la2 xn2 xd2 pe2 cr2 lo2 hi2 nx2 st2 hT2 hn2 _ (fun r r1 r2 => rz_ok0 r1 r2 (br_t rfl hp)) (fun r u' hr G => rz_ok1 hr (br_f (by decide) (br_t rfl ?_)))
      exact rz_178 post hp L hL xs j kc ks h1 h8 u' G
    · exact rz_178 post hp L hL xs j kc ks h1 h8 u' G
  | succ d ih =>
    intro j hj u v Fu Fv
    have hge : ¬ nI m ≤ nI j := nI_ge (by omega) (by omega)
    refine br_f hge ?_
    have e1 : (1 : Int32) + nI j = nI (1 + j) := by rw [show (1 : Int32) = nI 1 from rfl, nI_add]
    rw [e1]
    refine rz_cell L hL xs _ (1 + j) (by omega) (fun r => ?_)
    obtain ⟨a, ha, ea⟩ := pk_andE r (m := 15) 4 (by decide)
    obtain ⟨b, hb, eb⟩ := pk_andE ((r.toUInt32 >>> ((4 : Int32).toUInt32 &&& Int32.toUInt32 31)).toInt32) (m := 15) 4 (by decide)
    have e17 : (17 : Int32) - nI m = nI (17 - m) := by rw [show (17 : Int32) = nI 17 from rfl, pk_sub (by omega)]
    have ha2 := Nat.mod_lt a (show 0 < 17 - m by omega)
    have e6 : nI m + ((r &&& 15) - (r &&& 15) / (17 - nI m) * (17 - nI m)) = nI (m + a % (17 - m)) := by
      rw [ea, e17, pk_rem (by omega) (by omega) (by omega), nI_add]
    have e7 : nI (m + a % (17 - m)) / nI m = nI ((m + a % (17 - m)) / m) := pk_div (by omega) (by omega) (by omega)
    have hq1 : 0 < (m + a % (17 - m)) / m := Nat.div_pos (by omega) (by omega)
    have hq2 : (m + a % (17 - m)) / m ≤ m + a % (17 - m) := Nat.div_le_self _ _
    have hb2 := Nat.mod_lt b hq1
    have n0 : ¬ nI m = 0 := nI_ne0 (by omega) (by omega)
    refine ⟨by rw [e17]; exact nI_ne0 (by omega) (by omega), nm_r e6 ⟨n0, by rw [e7]; exact nI_ne0 hq1 (by omega), fun x7 h7 => ?_⟩⟩
    have e8 : x7 = nI (1 + b % ((m + a % (17 - m)) / m)) := by
      rw [h7, e7, eb, pk_rem (by omega) hq1 (by omega), show (1 : Int32) = nI 1 from rfl, nI_add]
    refine ⟨?_, fun x8 h8' => fun x9 h9 => ?_⟩
    · rw [e8, pk_sub (by omega), nI_1]
      exact nI_ne0 (by omega) (by omega)
    · refine rz_add Fu _ _ _ _ _ (fun r1 u' Fu' => ?_)
      refine rz_add Fv _ _ _ _ _ (fun r2 v' Fv' => ?_)
      exact nm_r (nI_1 j) (ih (j + 1) (by omega) u' v' Fu' Fv')
theorem rz_new0 : rz_Fresh (8, 0, 0, 0, 0, (-1), 0, 0, (fun _ => 0), (fun _ => 0), (fun _ => 0), (fun _ => 0), (fun _ => 0), (fun _ => 0), (fun _ => 0), (fun _ => 0), (fun _ => 0), (fun _ => 0), (fun _ => 0)) :=
  ⟨0, -1, 0, 0, (fun _ => 0), (fun _ => 0), (fun _ => 0), (fun _ => 0), (fun _ => 0), (fun _ => 0), rfl, Nat.zero_le 8, kz_T_0⟩
theorem rz_init (post : St2 → Prop) (h : ∀ u, rz_Fresh u → post u) : wpX_init post 11 124 (0, 0, 0, 0, 0, 0, 0, 0) 8 := by
  unfold wpX_init
  dsimp only
  refine ⟨by omega, by omega, by omega, by omega, by omega, by omega, by omega, by omega, by omega, by omega, by omega, by omega, by omega, by omega, by omega, by omega, by omega, by omega, by omega, by omega, by omega, by omega, ?_⟩
  exact br_t (by decide) (br_t (by decide) (h _ rz_new0))
end
section
theorem i_vc (xs : Nat → Int32) (L : Nat) (hL : L ≤ 260) : wpL_law (fun r => r = 1) L xs := by
  refine rz_cell L hL xs _ 0 (by omega) (fun r => ?_)
  obtain ⟨j, hj, ej⟩ := pk_andE r (m := 7) 3 (by decide)
  have e1 : 1 + (r &&& 7) = nI (1 + j) := by rw [ej, show (1 : Int32) = nI 1 from rfl, nI_add]
  refine nm_r e1 ⟨11, 124, by omega, by omega, rz_init _ (fun u Fu => ⟨by omega, by omega, 11, 124, by omega, by omega, rz_init _ (fun v Fv => ⟨1 + j + 1, ?_⟩)⟩)⟩
  exact rz_34 (fun r => r = 1) rfl L hL xs (1 + j) _ _ (by omega) (by omega) (1 + j) 0 (by omega) u v Fu Fv
end
