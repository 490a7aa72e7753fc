/-! sums over the tasks, and the bound for jobs to come -/
def qz_sum (f : Nat → Nat) : Nat → Nat
  | 0 => 0
  | n + 1 => qz_sum f n + f n
theorem qz_sum_s (f : Nat → Nat) (n : Nat) : qz_sum f (n + 1) = qz_sum f n + f n := rfl
theorem qz_sum_le {f g : Nat → Nat} : ∀ n, (∀ i, i < n → f i ≤ g i) → qz_sum f n ≤ qz_sum g n
  | 0, _ => Nat.le_refl _
  | n + 1, h => Nat.add_le_add (qz_sum_le n (fun i hi => h i (by omega))) (h n (by omega))
theorem qz_sum_dec {f g : Nat → Nat} : ∀ n, (∀ i, i < n → f i ≤ g i) → ∀ j, j < n → f j + 1 ≤ g j → qz_sum f n + 1 ≤ qz_sum g n
  | 0, _, j, hj, _ => absurd hj (Nat.not_lt_zero j)
  | n + 1, h, j, hj, hd => by
    rw [qz_sum_s, qz_sum_s]
    by_cases e : j = n
    · subst e
      have h1 := qz_sum_le j (fun i hi => h i (by omega))
      omega
    · have h1 := qz_sum_dec n (fun i hi => h i (by omega)) j (by omega) hd
      have h2 := h n (by omega)
      omega
theorem qz_sum_ge {f : Nat → Nat} : ∀ n j, j < n → f j ≤ qz_sum f n
  | 0, j, hj => absurd hj (Nat.not_lt_zero j)
  | n + 1, j, hj => by
    rw [qz_sum_s]
    by_cases e : j = n
    · subst e; omega
    · have h1 := qz_sum_ge (f := f) n j (by omega)
      omega
theorem qz_sum_3 {f A B C : Nat → Nat} {k p q r : Nat} : ∀ n, (∀ i, i < n → k * f i ≤ A i * p + B i * q + C i * r) → k * qz_sum f n ≤ qz_sum A n * p + qz_sum B n * q + qz_sum C n * r
  | 0, _ => by rw [show qz_sum f 0 = 0 from rfl, Nat.mul_zero]; exact Nat.zero_le _
  | n + 1, h => by
    have h1 := qz_sum_3 n (fun i hi => h i (by omega))
    have h2 := h n (by omega)
    rw [qz_sum_s, qz_sum_s, qz_sum_s, qz_sum_s, Nat.mul_add, Nat.add_mul, Nat.add_mul, Nat.add_mul]
    omega
/-- what a job of a task counts for, released at r, u done; x = num / (num + e); a parts early from late HI jobs, d is the end -/
def qz_c (H : Bool) (T cl ch num e a d r u : Nat) : Nat :=
  match H with
  | false => if (r + T) * (num + e) ≤ a * e + num * d then cl - u else 0
  | true => if r < a then (if r * (num + e) + num * T ≤ a * e + num * d then cl - u else 0) else (if r + T ≤ d then ch - u else 0)
theorem qz_c_f (T cl ch num e a d r u : Nat) : qz_c false T cl ch num e a d r u = if (r + T) * (num + e) ≤ a * e + num * d then cl - u else 0 := rfl
theorem qz_c_t (T cl ch num e a d r u : Nat) : qz_c true T cl ch num e a d r u = if r < a then (if r * (num + e) + num * T ≤ a * e + num * d then cl - u else 0) else (if r + T ≤ d then ch - u else 0) := rfl
theorem qz_c_u (H : Bool) (T cl ch num e a d r u : Nat) : qz_c H T cl ch num e a d r (u + 1) ≤ qz_c H T cl ch num e a d r u := by
  cases H
  · simp only [qz_c_f, qz_c_t]
    split <;> omega
  · simp only [qz_c_f, qz_c_t]
    split
    · split <;> omega
    · split <;> omega
theorem qz_c_d (H : Bool) (T cl ch num e a d r u : Nat) (h : 1 ≤ qz_c H T cl ch num e a d r u) : qz_c H T cl ch num e a d r (u + 1) + 1 ≤ qz_c H T cl ch num e a d r u := by
  cases H
  · revert h
    simp only [qz_c_f, qz_c_t]
    split
    · intro h; omega
    · intro h; omega
  · revert h
    simp only [qz_c_f, qz_c_t]
    split
    · split
      · intro h; omega
      · intro h; omega
    · split
      · intro h; omega
      · intro h; omega
/-- the same at a release r, if there is one -/
def qz_f (H : Bool) (T cl ch num e a d : Nat) (r : Nat) : Nat := if r % T = 0 then qz_c H T cl ch num e a d r 0 else 0
theorem qz_f_z {H : Bool} {T cl ch num e a d : Nat} (r : Nat) (h : r % T ≠ 0) : qz_f H T cl ch num e a d r = 0 := if_neg h
theorem qz_f_le {H : Bool} {T cl ch num e a d : Nat} (r : Nat) : qz_f H T cl ch num e a d r = 0 ∨ qz_f H T cl ch num e a d r = qz_c H T cl ch num e a d r 0 := by
  unfold qz_f
  split
  · exact Or.inr rfl
  · exact Or.inl rfl
theorem qz_f_lo {T cl ch num e a d : Nat} (r : Nat) : qz_f false T cl ch num e a d r = 0 ∨ (qz_f false T cl ch num e a d r ≤ cl ∧ (r + T) * (num + e) ≤ a * e + num * d) := by
  unfold qz_f
  split
  · simp only [qz_c_f, qz_c_t]
    split
    · exact Or.inr ⟨by omega, by assumption⟩
    · exact Or.inl rfl
  · exact Or.inl rfl
theorem qz_f_early {T cl ch num e a d : Nat} (had : a ≤ d) (r : Nat) (h : r < a) : qz_f true T cl ch num e a d r = 0 ∨ (qz_f true T cl ch num e a d r ≤ cl ∧ r * (num + e) + num * T ≤ a * (num + e) + num * (d - a)) := by
  have hV : a * (num + e) + num * (d - a) = a * e + num * d := by
    have k1 : num * d = num * a + num * (d - a) := by rw [← Nat.mul_add]; exact congrArg _ (by omega)
    rw [k1, Nat.mul_add, Nat.mul_comm a num]; omega
  rw [hV]
  unfold qz_f
  split
  · simp only [qz_c_f, qz_c_t]
    rw [if_pos h]
    split
    · exact Or.inr ⟨by omega, by assumption⟩
    · exact Or.inl rfl
  · exact Or.inl rfl
theorem qz_f_late {T cl ch num e a d : Nat} (r : Nat) (h : a ≤ r) : qz_f true T cl ch num e a d r = 0 ∨ (qz_f true T cl ch num e a d r ≤ ch ∧ (r + T) * 1 ≤ d) := by
  unfold qz_f
  split
  · simp only [qz_c_f, qz_c_t]
    rw [if_neg (by omega)]
    split
    · exact Or.inr ⟨by omega, by omega⟩
    · exact Or.inl rfl
  · exact Or.inl rfl
section
variable (n num e L : Nat) (H : Nat → Bool) (T cl ch q : Nat → Nat)
def qz_A (i : Nat) : Nat := match H i with
  | false => cl i * q i
  | true => 0
def qz_B (i : Nat) : Nat := match H i with
  | false => 0
  | true => cl i * q i
def qz_D (i : Nat) : Nat := match H i with
  | false => 0
  | true => ch i * q i
/-- the rules of admission, as they are used -/
def qz_adm : Prop := 1 ≤ num ∧ 1 ≤ L ∧ (∀ i, i < n → 1 ≤ T i ∧ T i * q i = L ∧ 1 ≤ cl i ∧ cl i ≤ ch i ∧ ch i ≤ T i)
  ∧ qz_sum (qz_A H cl q) n * num + qz_sum (qz_B H cl q) n * (num + e) ≤ L * num
  ∧ qz_sum (qz_A H cl q) n * num + qz_sum (qz_D H ch q) n * (num + e) ≤ L * (num + e)
def qz_fu (a d τ i : Nat) : Nat := qz_fs (qz_f (H i) (T i) (cl i) (ch i) num e a d) (d - τ) τ
theorem qz_b1 (hA : qz_adm n num e L H T cl ch q) (a d b i : Nat) (had : a ≤ d) (hb : b ≤ a) (hi : i < n) :
    num * (num + e) * L * qz_fu num e H T cl ch a d b i ≤ qz_A H cl q i * (num * ((num + e) * (a - b) + num * (d - a))) + qz_B H cl q i * ((num + e) * ((num + e) * (a - b))) + qz_D H ch q i * ((num + e) * (num * (d - a))) := by
  obtain ⟨h0, hL, hT, _, _⟩ := hA
  obtain ⟨t1, t2, t3, t4, t5⟩ := hT i hi
  unfold qz_fu qz_A qz_B qz_D
  generalize hF : qz_fs (qz_f (H i) (T i) (cl i) (ch i) num e a d) (d - b) b = F
  cases hH : H i with
  | false =>
    rw [hH] at hF
    have h := qz_lin (f := qz_f false (T i) (cl i) (ch i) num e a d) t1 (fun r hr => qz_f_z r hr) 0 (fun r _ => qz_f_lo r) (d - b) b (Nat.zero_le b)
    rw [hF] at h
    have hV : a * e + num * d - b * (num + e) = (num + e) * (a - b) + num * (d - a) := by
      have k1 : num * d = num * a + num * (d - a) := by rw [← Nat.mul_add]; exact congrArg _ (by omega)
      have k2 : (num + e) * (a - b) + b * (num + e) = num * a + a * e := by
        rw [Nat.mul_comm b, ← Nat.mul_add, show a - b + b = a from by omega, Nat.add_mul, Nat.mul_comm e a]
      omega
    rw [hV] at h
    have h2 := Nat.mul_le_mul_left (q i * num) h
    have e1 : q i * num * (T i * (num + e) * F) = num * (num + e) * L * F := by
      rw [← t2]; ac_rfl
    have e2 : q i * num * (cl i * ((num + e) * (a - b) + num * (d - a))) = cl i * q i * (num * ((num + e) * (a - b) + num * (d - a))) := by ac_rfl
    rw [e1, e2] at h2
    show _ ≤ cl i * q i * _ + 0 * _ + 0 * _
    omega
  | true =>
    rw [hH] at hF
    have h := qz_two (f := qz_f true (T i) (cl i) (ch i) num e a d) (num := num) (den := num + e) t1 (by omega) t4 had (fun r hr => qz_f_z r hr) (qz_f_early had) (qz_f_late) (d - b) b hb
    rw [hF] at h
    have h2 := Nat.mul_le_mul_left (q i * (num + e)) h
    have e1 : q i * (num + e) * (num * (T i * F)) = num * (num + e) * L * F := by
      rw [← t2]; ac_rfl
    have e2 : q i * (num + e) * (cl i * ((num + e) * (a - b)) + ch i * (num * (d - a))) = cl i * q i * ((num + e) * ((num + e) * (a - b))) + ch i * q i * ((num + e) * (num * (d - a))) := by
      rw [Nat.mul_add]
      have f1 : q i * (num + e) * (cl i * ((num + e) * (a - b))) = cl i * q i * ((num + e) * ((num + e) * (a - b))) := by ac_rfl
      have f2 : q i * (num + e) * (ch i * (num * (d - a))) = ch i * q i * ((num + e) * (num * (d - a))) := by ac_rfl
      rw [f1, f2]
    rw [e1, e2] at h2
    show _ ≤ 0 * _ + cl i * q i * _ + ch i * q i * _
    omega
theorem qz_b2 (hA : qz_adm n num e L H T cl ch q) (a d b i : Nat) (hb : a ≤ b) (hd : b ≤ d) (hi : i < n) :
    (num + e) * L * qz_fu num e H T cl ch a d b i ≤ qz_A H cl q i * (num * (d - b)) + qz_B H cl q i * 0 + qz_D H ch q i * ((num + e) * (d - b)) := by
  obtain ⟨h0, hL, hT, _, _⟩ := hA
  obtain ⟨t1, t2, t3, t4, t5⟩ := hT i hi
  unfold qz_fu qz_A qz_B qz_D
  generalize hF : qz_fs (qz_f (H i) (T i) (cl i) (ch i) num e a d) (d - b) b = F
  cases hH : H i with
  | false =>
    rw [hH] at hF
    have h := qz_lin (f := qz_f false (T i) (cl i) (ch i) num e a d) t1 (fun r hr => qz_f_z r hr) 0 (fun r _ => qz_f_lo r) (d - b) b (Nat.zero_le b)
    rw [hF] at h
    have hV : a * e + num * d - b * (num + e) ≤ num * (d - b) := by
      have k1 : num * d = num * b + num * (d - b) := by rw [← Nat.mul_add]; exact congrArg _ (by omega)
      have k2 : b * (num + e) = num * b + b * e := by rw [Nat.mul_add, Nat.mul_comm b num]
      have k3 : a * e ≤ b * e := Nat.mul_le_mul_right e hb
      omega
    have h1 := Nat.le_trans h (Nat.mul_le_mul_left (cl i) hV)
    have h2 := Nat.mul_le_mul_left (q i) h1
    have e1 : q i * (T i * (num + e) * F) = (num + e) * L * F := by
      rw [← t2]; ac_rfl
    have e2 : q i * (cl i * (num * (d - b))) = cl i * q i * (num * (d - b)) := by ac_rfl
    rw [e1, e2] at h2
    show _ ≤ cl i * q i * _ + 0 * _ + 0 * _
    omega
  | true =>
    rw [hH] at hF
    have h := qz_lin (f := qz_f true (T i) (cl i) (ch i) num e a d) t1 (fun r hr => qz_f_z r hr) a (qz_f_late) (d - b) b hb
    rw [hF, Nat.mul_one, Nat.mul_one] at h
    have h2 := Nat.mul_le_mul_left (q i * (num + e)) h
    have e1 : q i * (num + e) * (T i * F) = (num + e) * L * F := by
      rw [← t2]; ac_rfl
    have e2 : q i * (num + e) * (ch i * (d - b)) = ch i * q i * ((num + e) * (d - b)) := by ac_rfl
    rw [e1, e2] at h2
    show _ ≤ 0 * _ + cl i * q i * 0 + ch i * q i * _
    omega
/-- nothing pending: what is to come fits -/
theorem qz_base (hA : qz_adm n num e L H T cl ch q) (a d b : Nat) (had : a ≤ d) (hd : b ≤ d) :
    qz_sum (qz_fu num e H T cl ch a d b) n ≤ d - b := by
  have hA' := hA
  obtain ⟨h0, hL, _, g1, g2⟩ := hA'
  by_cases hb : b ≤ a
  · have h := qz_sum_3 n (fun i hi => qz_b1 n num e L H T cl ch q hA a d b i had hb hi)
    have e1 : qz_sum (qz_A H cl q) n * (num * ((num + e) * (a - b) + num * (d - a))) + qz_sum (qz_B H cl q) n * ((num + e) * ((num + e) * (a - b))) + qz_sum (qz_D H ch q) n * ((num + e) * (num * (d - a)))
      = (qz_sum (qz_A H cl q) n * num + qz_sum (qz_B H cl q) n * (num + e)) * ((num + e) * (a - b)) + (qz_sum (qz_A H cl q) n * num + qz_sum (qz_D H ch q) n * (num + e)) * (num * (d - a)) := by
      generalize qz_sum (qz_A H cl q) n = A
      generalize qz_sum (qz_B H cl q) n = B
      generalize qz_sum (qz_D H ch q) n = C
      generalize num + e = den
      generalize a - b = x
      generalize d - a = y
      grind
    rw [e1] at h
    have h2 := Nat.mul_le_mul_right ((num + e) * (a - b)) g1
    have h3 := Nat.mul_le_mul_right (num * (d - a)) g2
    have e2 : L * num * ((num + e) * (a - b)) + L * (num + e) * (num * (d - a)) = num * (num + e) * L * (d - b) := by
      rw [show d - b = (a - b) + (d - a) from by omega, Nat.mul_add (num * (num + e) * L)]
      have f1 : L * num * ((num + e) * (a - b)) = num * (num + e) * L * (a - b) := by ac_rfl
      have f2 : L * (num + e) * (num * (d - a)) = num * (num + e) * L * (d - a) := by ac_rfl
      rw [f1, f2]
    have h4 : num * (num + e) * L * qz_sum (qz_fu num e H T cl ch a d b) n ≤ num * (num + e) * L * (d - b) := by
      rw [← e2]; exact Nat.le_trans h (Nat.add_le_add h2 h3)
    exact Nat.le_of_mul_le_mul_left h4 (Nat.mul_pos (Nat.mul_pos h0 (by omega)) hL)
  · have h := qz_sum_3 n (fun i hi => qz_b2 n num e L H T cl ch q hA a d b i (by omega) hd hi)
    have e1 : qz_sum (qz_A H cl q) n * (num * (d - b)) + qz_sum (qz_B H cl q) n * 0 + qz_sum (qz_D H ch q) n * ((num + e) * (d - b))
      = (qz_sum (qz_A H cl q) n * num + qz_sum (qz_D H ch q) n * (num + e)) * (d - b) := by
      generalize qz_sum (qz_A H cl q) n = A
      generalize qz_sum (qz_B H cl q) n = B
      generalize qz_sum (qz_D H ch q) n = C
      generalize num + e = den
      generalize d - b = x
      grind
    rw [e1] at h
    have h3 := Nat.mul_le_mul_right (d - b) g2
    have h4 : (num + e) * L * qz_sum (qz_fu num e H T cl ch a d b) n ≤ (num + e) * L * (d - b) := by
      rw [Nat.mul_comm (num + e) L]
      rw [Nat.mul_comm (num + e) L] at h
      exact Nat.le_trans h h3
    exact Nat.le_of_mul_le_mul_left h4 (Nat.mul_pos (by omega) hL)
end
