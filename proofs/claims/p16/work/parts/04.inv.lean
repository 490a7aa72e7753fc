/-! the invariant of the state, and why each step keeps it -/
section
variable (n num e L : Nat) (H : Nat → Bool) (T cl ch q : Nat → Nat)
def qz_w (a d : Nat) (P : Nat → Bool) (R U : Nat → Nat) (i : Nat) : Nat := match P i with
  | false => 0
  | true => qz_c (H i) (T i) (cl i) (ch i) num e a d (R i) (U i)
def qz_I (P : Nat → Bool) (R U : Nat → Nat) (t τ : Nat) : Prop := ∀ a d, a ≤ d → t ≤ d → qz_sum (fun i => qz_w num e H T cl ch a d P R U i + qz_fu num e H T cl ch a d τ i) n ≤ d - t
def qz_h (d : Nat) (P : Nat → Bool) (R U : Nat → Nat) (τ i : Nat) : Nat := match H i with
  | false => 0
  | true => qz_w num e H T cl ch 0 d P R U i + qz_fu num e H T cl ch 0 d τ i
def qz_J (P : Nat → Bool) (R U : Nat → Nat) (t τ : Nat) : Prop := ∀ d, t ≤ d → qz_sum (qz_h num e H T cl ch d P R U τ) n ≤ d - t
theorem qz_w_f {a d : Nat} {P : Nat → Bool} {R U : Nat → Nat} {i : Nat} (h : P i = false) : qz_w num e H T cl ch a d P R U i = 0 := by
  unfold qz_w; rw [h]
theorem qz_w_t {a d : Nat} {P : Nat → Bool} {R U : Nat → Nat} {i : Nat} (h : P i = true) : qz_w num e H T cl ch a d P R U i = qz_c (H i) (T i) (cl i) (ch i) num e a d (R i) (U i) := by
  unfold qz_w; rw [h]
theorem qz_h_f {d : Nat} {P : Nat → Bool} {R U : Nat → Nat} {τ i : Nat} (h : H i = false) : qz_h num e H T cl ch d P R U τ i = 0 := by
  unfold qz_h; rw [h]
theorem qz_h_t {d : Nat} {P : Nat → Bool} {R U : Nat → Nat} {τ i : Nat} (h : H i = true) : qz_h num e H T cl ch d P R U τ i = qz_w num e H T cl ch 0 d P R U i + qz_fu num e H T cl ch 0 d τ i := by
  unfold qz_h; rw [h]
theorem qz_c_us (Hi : Bool) (T cl ch num e a d r u : Nat) : ∀ s, qz_c Hi T cl ch num e a d r (u + s) ≤ qz_c Hi T cl ch num e a d r u
  | 0 => Nat.le_refl _
  | s + 1 => Nat.le_trans (qz_c_u Hi T cl ch num e a d r (u + s)) (qz_c_us Hi T cl ch num e a d r u s)
/-- fewer pending jobs, further on -/
theorem qz_w_mono {a d : Nat} {P P' : Nat → Bool} {R R' U U' : Nat → Nat} {i : Nat} (h : P' i = true → P i = true ∧ R' i = R i ∧ U i ≤ U' i) : qz_w num e H T cl ch a d P' R' U' i ≤ qz_w num e H T cl ch a d P R U i := by
  cases hp : P' i with
  | false => rw [qz_w_f num e H T cl ch hp]; exact Nat.zero_le _
  | true =>
    obtain ⟨h1, h2, h3⟩ := h hp
    rw [qz_w_t num e H T cl ch hp, qz_w_t num e H T cl ch h1, h2]
    have h4 := qz_c_us (H i) (T i) (cl i) (ch i) num e a d (R i) (U i) (U' i - U i)
    rw [show U i + (U' i - U i) = U' i from by omega] at h4
    exact h4
theorem qz_I_mono {P P' : Nat → Bool} {R R' U U' : Nat → Nat} {t τ : Nat} (I : qz_I n num e H T cl ch P R U t τ) (h : ∀ i, i < n → P' i = true → P i = true ∧ R' i = R i ∧ U i ≤ U' i) : qz_I n num e H T cl ch P' R' U' t τ := by
  intro a d had htd
  refine Nat.le_trans (qz_sum_le n fun i hi => ?_) (I a d had htd)
  exact Nat.add_le_add_right (qz_w_mono num e H T cl ch (h i hi)) _
theorem qz_J_mono {P P' : Nat → Bool} {R R' U U' : Nat → Nat} {t τ : Nat} (I : qz_J n num e H T cl ch P R U t τ) (h : ∀ i, i < n → H i = true → P' i = true → P i = true ∧ R' i = R i ∧ U i ≤ U' i) : qz_J n num e H T cl ch P' R' U' t τ := by
  intro d htd
  refine Nat.le_trans (qz_sum_le n fun i hi => ?_) (I d htd)
  cases hh : H i with
  | false => rw [qz_h_f num e H T cl ch hh]; exact Nat.zero_le _
  | true =>
    rw [qz_h_t num e H T cl ch hh, qz_h_t num e H T cl ch hh]
    exact Nat.add_le_add_right (qz_w_mono num e H T cl ch (h i hi hh)) _
theorem qz_I_J {P : Nat → Bool} {R U : Nat → Nat} {t τ : Nat} (I : qz_I n num e H T cl ch P R U t τ) : qz_J n num e H T cl ch P R U t τ := by
  intro d htd
  refine Nat.le_trans (qz_sum_le n fun i hi => ?_) (I 0 d (Nat.zero_le d) htd)
  cases hh : H i with
  | false => rw [qz_h_f num e H T cl ch hh]; exact Nat.zero_le _
  | true => rw [qz_h_t num e H T cl ch hh]; exact Nat.le_refl _
theorem qz_idle (hA : qz_adm n num e L H T cl ch q) {P : Nat → Bool} {R U : Nat → Nat} (t : Nat) (hP : ∀ i, i < n → P i = false) : qz_I n num e H T cl ch P R U t t := by
  intro a d had htd
  refine Nat.le_trans (qz_sum_le n fun i hi => ?_) (qz_base n num e L H T cl ch q hA a d t had htd)
  rw [qz_w_f num e H T cl ch (hP i hi), Nat.zero_add]
  exact Nat.le_refl _
/-- a release at τ turns a job to come into a pending one -/
theorem qz_rel1 {a d τ i : Nat} {P P' : Nat → Bool} {R R' U U' : Nat → Nat} (had : a ≤ d) (hd : τ ≤ d) (hT : 1 ≤ T i) (hn : 1 ≤ num)
    (h1 : τ % T i = 0 → P' i = true → R' i = τ ∧ U' i = 0) (h2 : τ % T i ≠ 0 → P' i = true → P i = true ∧ R' i = R i ∧ U' i = U i) :
    qz_w num e H T cl ch a d P' R' U' i + qz_fu num e H T cl ch a d (τ + 1) i ≤ qz_w num e H T cl ch a d P R U i + qz_fu num e H T cl ch a d τ i := by
  by_cases hz : τ % T i = 0
  · cases hp : P' i with
    | false =>
      rw [qz_w_f num e H T cl ch hp, Nat.zero_add]
      refine Nat.le_trans ?_ (Nat.le_add_left _ _)
      unfold qz_fu
      by_cases hl : τ < d
      · rw [show d - τ = (d - (τ + 1)) + 1 from by omega, qz_fs_s]
        exact Nat.le_add_left _ _
      · rw [show d - (τ + 1) = 0 from by omega]
        exact Nat.zero_le _
    | true =>
      obtain ⟨k1, k2⟩ := h1 hz hp
      rw [qz_w_t num e H T cl ch hp, k1, k2]
      refine Nat.le_trans ?_ (Nat.le_add_left _ _)
      unfold qz_fu
      by_cases hl : τ < d
      · rw [show d - τ = (d - (τ + 1)) + 1 from by omega, qz_fs_s]
        refine Nat.add_le_add_right ?_ _
        unfold qz_f
        rw [if_pos hz]
        exact Nat.le_refl _
      · have hd' : τ = d := by omega
        rw [show d - (τ + 1) = 0 from by omega, show d - τ = 0 from by omega]
        show qz_c (H i) (T i) (cl i) (ch i) num e a d τ 0 + 0 ≤ 0
        rw [hd']
        have hV : (d + T i) * (num + e) > a * e + num * d := by
          have k3 : (d + T i) * (num + e) = d * num + d * e + T i * (num + e) := by rw [Nat.add_mul, Nat.mul_add]
          have k4 : a * e ≤ d * e := Nat.mul_le_mul_right e had
          have k5 : 0 < T i * (num + e) := Nat.mul_pos hT (by omega)
          have k6 : num * d = d * num := Nat.mul_comm _ _
          omega
        cases H i with
        | false =>
          simp only [qz_c_f, qz_c_t]
          rw [if_neg (by omega)]
          exact Nat.le_refl _
        | true =>
          simp only [qz_c_f, qz_c_t]
          rw [if_neg (by omega), if_neg (by omega)]
          exact Nat.le_refl _
  · have hf : qz_fu num e H T cl ch a d (τ + 1) i ≤ qz_fu num e H T cl ch a d τ i := by
      unfold qz_fu
      by_cases hl : τ < d
      · rw [show d - τ = (d - (τ + 1)) + 1 from by omega, qz_fs_s]
        exact Nat.le_add_left _ _
      · rw [show d - (τ + 1) = 0 from by omega]
        exact Nat.zero_le _
    refine Nat.add_le_add (qz_w_mono num e H T cl ch fun hp => ?_) hf
    obtain ⟨k1, k2, k3⟩ := h2 hz hp
    exact ⟨k1, k2, by omega⟩
theorem qz_rel (hA : qz_adm n num e L H T cl ch q) {τ : Nat} {P P' : Nat → Bool} {R R' U U' : Nat → Nat} (I : qz_I n num e H T cl ch P R U τ τ)
    (h1 : ∀ i, i < n → τ % T i = 0 → P' i = true → R' i = τ ∧ U' i = 0) (h2 : ∀ i, i < n → τ % T i ≠ 0 → P' i = true → P i = true ∧ R' i = R i ∧ U' i = U i) :
    qz_I n num e H T cl ch P' R' U' τ (τ + 1) := by
  intro a d had htd
  refine Nat.le_trans (qz_sum_le n fun i hi => ?_) (I a d had htd)
  exact qz_rel1 num e H T cl ch had htd (hA.2.2.1 i hi).1 hA.1 (h1 i hi) (h2 i hi)
theorem qz_relJ (hA : qz_adm n num e L H T cl ch q) {τ : Nat} {P P' : Nat → Bool} {R R' U U' : Nat → Nat} (I : qz_J n num e H T cl ch P R U τ τ)
    (h1 : ∀ i, i < n → H i = true → τ % T i = 0 → P' i = true → R' i = τ ∧ U' i = 0) (h2 : ∀ i, i < n → H i = true → τ % T i ≠ 0 → P' i = true → P i = true ∧ R' i = R i ∧ U' i = U i) :
    qz_J n num e H T cl ch P' R' U' τ (τ + 1) := by
  intro d htd
  refine Nat.le_trans (qz_sum_le n fun i hi => ?_) (I d htd)
  cases hh : H i with
  | false => rw [qz_h_f num e H T cl ch hh]; exact Nat.zero_le _
  | true =>
    rw [qz_h_t num e H T cl ch hh, qz_h_t num e H T cl ch hh]
    exact qz_rel1 num e H T cl ch (Nat.zero_le d) htd (hA.2.2.1 i hi).1 hA.1 (h1 i hi hh) (h2 i hi hh)
/-- no job is late -/
theorem qz_intimeL {P : Nat → Bool} {R U : Nat → Nat} {t τ i : Nat} (I : qz_I n num e H T cl ch P R U t τ) (hi : i < n) (hp : P i = true) (h1 : U i < cl i) (h2 : U i < ch i) : t < R i + T i := by
  refine Nat.lt_of_not_le fun z => ?_
  cases hh : H i with
  | false =>
    have h := I t t (Nat.le_refl t) (Nat.le_refl t)
    have h3 := qz_sum_ge (f := fun i => qz_w num e H T cl ch t t P R U i + qz_fu num e H T cl ch t t τ i) n i hi
    have h4 : qz_w num e H T cl ch t t P R U i = cl i - U i := by
      rw [qz_w_t num e H T cl ch hp, hh]
      simp only [qz_c_f, qz_c_t]
      have k : (R i + T i) * (num + e) ≤ t * e + num * t := by
        have k1 := Nat.mul_le_mul_right (num + e) z
        rw [Nat.mul_add t, Nat.mul_comm t num] at k1
        omega
      rw [if_pos k]
    have h5 : qz_w num e H T cl ch t t P R U i + qz_fu num e H T cl ch t t τ i ≤ t - t := Nat.le_trans h3 h
    omega
  | true =>
    have h := I 0 t (Nat.zero_le t) (Nat.le_refl t)
    have h3 := qz_sum_ge (f := fun i => qz_w num e H T cl ch 0 t P R U i + qz_fu num e H T cl ch 0 t τ i) n i hi
    have h4 : qz_w num e H T cl ch 0 t P R U i = ch i - U i := by
      rw [qz_w_t num e H T cl ch hp, hh]
      simp only [qz_c_f, qz_c_t]
      rw [if_neg (Nat.not_lt_zero _), if_pos z]
    have h5 : qz_w num e H T cl ch 0 t P R U i + qz_fu num e H T cl ch 0 t τ i ≤ t - t := Nat.le_trans h3 h
    omega
theorem qz_intimeJ {P : Nat → Bool} {R U : Nat → Nat} {t τ i : Nat} (I : qz_J n num e H T cl ch P R U t τ) (hi : i < n) (hp : P i = true) (hh : H i = true) (h2 : U i < ch i) : t < R i + T i := by
  refine Nat.lt_of_not_le fun z => ?_
  have h := I t (Nat.le_refl t)
  have h3 := qz_sum_ge (f := qz_h num e H T cl ch t P R U τ) n i hi
  have h4 : qz_w num e H T cl ch 0 t P R U i = ch i - U i := by
    rw [qz_w_t num e H T cl ch hp, hh]
    simp only [qz_c_f, qz_c_t]
    rw [if_neg (Nat.not_lt_zero _), if_pos z]
  rw [qz_h_t num e H T cl ch hh] at h3
  omega
/-- the key in LO mode -/
def qz_key (R : Nat → Nat) (i : Nat) : Nat := match H i with
  | false => (R i + T i) * (num + e)
  | true => R i * (num + e) + num * T i
/-- the job that runs has the least key, in LO mode: a counted job falls by one, or no pending one is counted but late HI ones -/
theorem qz_stepL (hA : qz_adm n num e L H T cl ch q) {P P' : Nat → Bool} {R U U' : Nat → Nat} {t j : Nat} (I : qz_I n num e H T cl ch P R U t (t + 1))
    (hj : j < n) (hp : P j = true) (hk : ∀ i, i < n → P i = true → qz_key num e H T R j ≤ qz_key num e H T R i)
    (hR : ∀ i, i < n → P i = true → R i ≤ t) (hU : ∀ i, i < n → P i = true → U i < cl i)
    (hP' : ∀ i, i < n → P' i = true → P i = true) (hUj : U' j = U j + 1) (hUi : ∀ i, i < n → i ≠ j → U' i = U i) :
    qz_I n num e H T cl ch P' R U' (t + 1) (t + 1) := by
  have hmono : ∀ i, i < n → P' i = true → P i = true ∧ R i = R i ∧ U i ≤ U' i := by
    intro i hi h
    refine ⟨hP' i hi h, rfl, ?_⟩
    by_cases w : i = j
    · subst w; omega
    · rw [hUi i hi w]; exact Nat.le_refl _
  have hdec : ∀ a d, a ≤ d → t + 1 ≤ d → 1 ≤ qz_c (H j) (T j) (cl j) (ch j) num e a d (R j) (U j) → qz_sum (fun i => qz_w num e H T cl ch a d P' R U' i + qz_fu num e H T cl ch a d (t + 1) i) n ≤ d - (t + 1) := by
    intro a d had htd h1
    have h2 := qz_sum_dec (f := fun i => qz_w num e H T cl ch a d P' R U' i + qz_fu num e H T cl ch a d (t + 1) i) (g := fun i => qz_w num e H T cl ch a d P R U i + qz_fu num e H T cl ch a d (t + 1) i) n
      (fun i hi => Nat.add_le_add_right (qz_w_mono num e H T cl ch (hmono i hi)) _) j hj ?_
    · have h3 := I a d had (by omega)
      omega
    · have h4 : qz_w num e H T cl ch a d P' R U' j + 1 ≤ qz_w num e H T cl ch a d P R U j := by
        rw [qz_w_t num e H T cl ch hp]
        cases hq : P' j with
        | false => rw [qz_w_f num e H T cl ch hq]; omega
        | true => rw [qz_w_t num e H T cl ch hq, hUj]; exact qz_c_d _ _ _ _ _ _ _ _ _ _ h1
      show qz_w num e H T cl ch a d P' R U' j + qz_fu num e H T cl ch a d (t + 1) j + 1 ≤ qz_w num e H T cl ch a d P R U j + qz_fu num e H T cl ch a d (t + 1) j
      omega
  intro a d had htd
  by_cases hc : 1 ≤ qz_c (H j) (T j) (cl j) (ch j) num e a d (R j) (U j)
  · exact hdec a d had htd hc
  · have hA' := hA
    obtain ⟨n1, _, hT, _, _⟩ := hA'
    have hcl : ∀ i, i < n → P i = true → U i < ch i := fun i hi h => Nat.lt_of_lt_of_le (hU i hi h) (hT i hi).2.2.2.1
    have hVk : a * e + num * d < qz_key num e H T R j := by
      refine Nat.lt_of_not_le fun z => hc ?_
      unfold qz_key at z
      cases hh : H j with
      | false =>
        rw [hh] at z
        simp only [qz_c_f, qz_c_t]
        rw [if_pos z]
        have := hU j hj hp
        omega
      | true =>
        rw [hh] at z
        simp only [qz_c_f, qz_c_t]
        by_cases hra : R j < a
        · rw [if_pos hra, if_pos z]
          have := hU j hj hp
          omega
        · rw [if_neg hra]
          have hrd : R j + T j ≤ d := by
            refine Nat.le_of_not_lt fun w => ?_
            have z' : R j * (num + e) + num * T j ≤ a * e + num * d := z
            have k1 : R j * (num + e) = num * R j + R j * e := by rw [Nat.mul_add, Nat.mul_comm (R j) num]
            have k2 : a * e ≤ R j * e := Nat.mul_le_mul_right e (by omega)
            have k3 : num * R j + num * T j = num * (R j + T j) := (Nat.mul_add _ _ _).symm
            have k4 : num * (d + 1) ≤ num * (R j + T j) := Nat.mul_le_mul_left num (by omega)
            have k5 : num * (d + 1) = num * d + num := Nat.mul_succ num d
            omega
          rw [if_pos hrd]
          have := hcl j hj hp
          omega
    by_cases hx : ∃ i, i < n ∧ P i = true ∧ H i = true ∧ a ≤ R i ∧ R i + T i ≤ d
    · obtain ⟨m, ⟨i1, hi1, hp1, hh1, ha1, hd1, he1⟩, hmin⟩ : ∃ m, (∃ i, i < n ∧ P i = true ∧ H i = true ∧ a ≤ R i ∧ R i + T i ≤ d ∧ R i = m) ∧ ∀ k, k < m → ¬ ∃ i, i < n ∧ P i = true ∧ H i = true ∧ a ≤ R i ∧ R i + T i ≤ d ∧ R i = k := by
        obtain ⟨i, h1, h2, h3, h4, h5⟩ := hx
        exact pk_least (fun m => ∃ i, i < n ∧ P i = true ∧ H i = true ∧ a ≤ R i ∧ R i + T i ≤ d ∧ R i = m) ⟨R i, i, h1, h2, h3, h4, h5, rfl⟩
      have ham : a ≤ m := by omega
      have hmd : m ≤ d := by omega
      have hmt : m ≤ t := by have := hR i1 hi1 hp1; omega
      have hV : a * e + num * d ≤ m * e + num * d := Nat.add_le_add_right (Nat.mul_le_mul_right e ham) _
      have hkj : qz_key num e H T R j ≤ m * e + num * d := by
        refine Nat.le_trans (hk i1 hi1 hp1) ?_
        unfold qz_key
        rw [hh1]
        show R i1 * (num + e) + num * T i1 ≤ _
        rw [he1]
        have k1 : m * (num + e) = num * m + m * e := by rw [Nat.mul_add, Nat.mul_comm m num]
        have k2 : num * m + num * T i1 ≤ num * d := by rw [← Nat.mul_add]; exact Nat.mul_le_mul_left num (by omega)
        omega
      have hcj : 1 ≤ qz_c (H j) (T j) (cl j) (ch j) num e m d (R j) (U j) := by
        have u1 := hU j hj hp
        have u2 := hcl j hj hp
        unfold qz_key at hkj
        cases hh : H j with
        | false =>
          rw [hh] at hkj
          simp only [qz_c_f, qz_c_t]
          rw [if_pos hkj]
          omega
        | true =>
          rw [hh] at hkj
          simp only [qz_c_f, qz_c_t]
          by_cases hra : R j < m
          · rw [if_pos hra, if_pos hkj]
            omega
          · rw [if_neg hra]
            have hrd : R j + T j ≤ d := by
              refine Nat.le_of_not_lt fun w => ?_
              have z' : R j * (num + e) + num * T j ≤ m * e + num * d := hkj
              have k1 : R j * (num + e) = num * R j + R j * e := by rw [Nat.mul_add, Nat.mul_comm (R j) num]
              have k2 : m * e ≤ R j * e := Nat.mul_le_mul_right e (by omega)
              have k3 : num * R j + num * T j = num * (R j + T j) := (Nat.mul_add _ _ _).symm
              have k4 : num * (d + 1) ≤ num * (R j + T j) := Nat.mul_le_mul_left num (by omega)
              have k5 : num * (d + 1) = num * d + num := Nat.mul_succ num d
              omega
            rw [if_pos hrd]
            omega
      refine Nat.le_trans (qz_sum_le n fun i hi => ?_) (hdec m d hmd htd hcj)
      refine Nat.add_le_add ?_ ?_
      · cases hq : P' i with
        | false => rw [qz_w_f num e H T cl ch hq]; exact Nat.zero_le _
        | true =>
          rw [qz_w_t num e H T cl ch hq, qz_w_t num e H T cl ch hq]
          have hpi := hP' i hi hq
          cases hh : H i with
          | false =>
            simp only [qz_c_f, qz_c_t]
            split
            · rw [if_pos (by omega)]; exact Nat.le_refl _
            · exact Nat.zero_le _
          | true =>
            simp only [qz_c_f, qz_c_t]
            by_cases hra : R i < a
            · rw [if_pos hra, if_pos (by omega : R i < m)]
              split
              · rw [if_pos (by omega)]; exact Nat.le_refl _
              · exact Nat.zero_le _
            · rw [if_neg hra]
              by_cases hrd : R i + T i ≤ d
              · have hmi : m ≤ R i := by
                  refine Nat.le_of_not_lt fun w => hmin (R i) w ⟨i, hi, hpi, hh, by omega, hrd, rfl⟩
                rw [if_neg (by omega : ¬ R i < m)]
                exact Nat.le_refl _
              · rw [if_neg hrd]; exact Nat.zero_le _
      · have hf : ∀ K b, t + 1 ≤ b → qz_fs (qz_f (H i) (T i) (cl i) (ch i) num e a d) K b ≤ qz_fs (qz_f (H i) (T i) (cl i) (ch i) num e m d) K b := by
          intro K
          induction K with
          | zero => intro b _; exact Nat.le_refl _
          | succ K ih =>
            intro b hb
            rw [qz_fs_s, qz_fs_s]
            refine Nat.add_le_add ?_ (ih (b + 1) (by omega))
            unfold qz_f
            split
            · cases H i with
              | false =>
                simp only [qz_c_f, qz_c_t]
                split
                · rw [if_pos (by omega)]; exact Nat.le_refl _
                · exact Nat.zero_le _
              | true =>
                simp only [qz_c_f, qz_c_t]
                rw [if_neg (by omega : ¬ b < a), if_neg (by omega : ¬ b < m)]
                exact Nat.le_refl _
            · exact Nat.le_refl _
        exact hf _ _ (Nat.le_refl _)
    · refine Nat.le_trans (qz_sum_le n fun i hi => ?_) (qz_base n num e L H T cl ch q hA a d (t + 1) had htd)
      have hw : qz_w num e H T cl ch a d P' R U' i = 0 := by
        cases hq : P' i with
        | false => exact qz_w_f num e H T cl ch hq
        | true =>
          rw [qz_w_t num e H T cl ch hq]
          have hpi := hP' i hi hq
          have hki := hk i hi hpi
          unfold qz_key at hki
          cases hh : H i with
          | false =>
            rw [hh] at hki
            have hki' : qz_key num e H T R j ≤ (R i + T i) * (num + e) := hki
            simp only [qz_c_f, qz_c_t]
            rw [if_neg (by omega)]
          | true =>
            rw [hh] at hki
            have hki' : qz_key num e H T R j ≤ R i * (num + e) + num * T i := hki
            simp only [qz_c_f, qz_c_t]
            by_cases hra : R i < a
            · rw [if_pos hra, if_neg (by omega)]
            · rw [if_neg hra]
              by_cases hrd : R i + T i ≤ d
              · exact absurd ⟨i, hi, hpi, hh, by omega, hrd⟩ hx
              · rw [if_neg hrd]
      show qz_w num e H T cl ch a d P' R U' i + _ ≤ _
      rw [hw, Nat.zero_add]
      exact Nat.le_refl _
/-- in HI mode -/
theorem qz_stepH (hA : qz_adm n num e L H T cl ch q) {P P' : Nat → Bool} {R U U' : Nat → Nat} {t j : Nat} (I : qz_J n num e H T cl ch P R U t (t + 1))
    (hj : j < n) (hp : P j = true) (hh : H j = true) (hk : ∀ i, i < n → P i = true → R j + T j ≤ R i + T i) (hU : U j < ch j)
    (hP' : ∀ i, i < n → P' i = true → P i = true) (hUj : U' j = U j + 1) (hUi : ∀ i, i < n → i ≠ j → U' i = U i) :
    qz_J n num e H T cl ch P' R U' (t + 1) (t + 1) := by
  have hmono : ∀ i, i < n → P' i = true → P i = true ∧ R i = R i ∧ U i ≤ U' i := by
    intro i hi h
    refine ⟨hP' i hi h, rfl, ?_⟩
    by_cases w : i = j
    · subst w; omega
    · rw [hUi i hi w]; exact Nat.le_refl _
  intro d htd
  by_cases hd : R j + T j ≤ d
  · have hc : 1 ≤ qz_c (H j) (T j) (cl j) (ch j) num e 0 d (R j) (U j) := by
      rw [hh]
      simp only [qz_c_f, qz_c_t]
      rw [if_neg (Nat.not_lt_zero _), if_pos hd]
      omega
    have h2 := qz_sum_dec (f := qz_h num e H T cl ch d P' R U' (t + 1)) (g := qz_h num e H T cl ch d P R U (t + 1)) n ?_ j hj ?_
    · have h3 := I d (by omega)
      omega
    · intro i hi
      cases hi' : H i with
      | false => rw [qz_h_f num e H T cl ch hi']; exact Nat.zero_le _
      | true =>
        rw [qz_h_t num e H T cl ch hi', qz_h_t num e H T cl ch hi']
        exact Nat.add_le_add_right (qz_w_mono num e H T cl ch (hmono i hi)) _
    · rw [qz_h_t num e H T cl ch hh, qz_h_t num e H T cl ch hh]
      have h4 : qz_w num e H T cl ch 0 d P' R U' j + 1 ≤ qz_w num e H T cl ch 0 d P R U j := by
        rw [qz_w_t num e H T cl ch hp]
        cases hq : P' j with
        | false => rw [qz_w_f num e H T cl ch hq]; omega
        | true => rw [qz_w_t num e H T cl ch hq, hUj]; exact qz_c_d _ _ _ _ _ _ _ _ _ _ hc
      omega
  · refine Nat.le_trans (qz_sum_le n fun i hi => ?_) (qz_base n num e L H T cl ch q hA 0 d (t + 1) (Nat.zero_le d) htd)
    cases hi' : H i with
    | false => rw [qz_h_f num e H T cl ch hi']; exact Nat.zero_le _
    | true =>
      rw [qz_h_t num e H T cl ch hi']
      have hw : qz_w num e H T cl ch 0 d P' R U' i = 0 := by
        cases hq : P' i with
        | false => exact qz_w_f num e H T cl ch hq
        | true =>
          rw [qz_w_t num e H T cl ch hq, hi']
          have := hk i hi (hP' i hi hq)
          simp only [qz_c_f, qz_c_t]
          rw [if_neg (Nat.not_lt_zero _), if_neg (by omega)]
      rw [hw, Nat.zero_add]
      exact Nat.le_refl _
end
