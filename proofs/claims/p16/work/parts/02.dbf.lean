/-! future demand, bounded by lines -/
/-- the sum of f over K places from b -/
def qz_fs (f : Nat → Nat) : Nat → Nat → Nat
  | 0, _ => 0
  | K + 1, b => f b + qz_fs f K (b + 1)
theorem qz_fs_s (f : Nat → Nat) (K b : Nat) : qz_fs f (K + 1) b = f b + qz_fs f K (b + 1) := rfl
theorem qz_mono (f : Nat → Nat) : ∀ K b, qz_fs f K b ≤ qz_fs f (K + 1) b
  | 0, _ => Nat.zero_le _
  | K + 1, b => by
    rw [qz_fs_s, qz_fs_s f (K + 1)]
    exact Nat.add_le_add_left (qz_mono f K (b + 1)) _
theorem qz_skip1 (f : Nat → Nat) (K b : Nat) (h : f b = 0) : qz_fs f K b ≤ qz_fs f K (b + 1) := by
  cases K with
  | zero => exact Nat.zero_le _
  | succ K =>
    rw [qz_fs_s, h, Nat.zero_add]
    exact qz_mono f K (b + 1)
theorem qz_skip (f : Nat → Nat) (K : Nat) : ∀ s b, (∀ r, b ≤ r → r < b + s → f r = 0) → qz_fs f K b ≤ qz_fs f K (b + s)
  | 0, _, _ => Nat.le_refl _
  | s + 1, b, h => by
    have h1 := qz_skip1 f K b (h b (Nat.le_refl b) (by omega))
    have h2 := qz_skip f K s (b + 1) (fun r h3 h4 => h r (by omega) (by omega))
    have e : b + 1 + s = b + (s + 1) := by omega
    rw [e] at h2
    exact Nat.le_trans h1 h2
/-- between two multiples of T there is none -/
theorem qz_gap {T b r : Nat} (hb : b % T = 0) (h1 : b < r) (h2 : r < b + T) : r % T ≠ 0 := by
  intro z
  have e1 := Nat.div_add_mod b T
  have e2 := Nat.div_add_mod r T
  have h3 : T * (b / T) < T * (r / T) := by omega
  have h4 : b / T < r / T := Nat.lt_of_mul_lt_mul_left h3
  have h5 : T * (b / T + 1) ≤ T * (r / T) := Nat.mul_le_mul_left T h4
  have h6 : T * (b / T + 1) = T * (b / T) + T := Nat.mul_succ T (b / T)
  omega
theorem qz_next {f : Nat → Nat} {T b : Nat} (hT : 1 ≤ T) (hz : ∀ r, r % T ≠ 0 → f r = 0) (hb : b % T = 0) (K : Nat) : qz_fs f K (b + 1) ≤ qz_fs f K (b + T) := by
  have h := qz_skip f K (T - 1) (b + 1) (fun r h1 h2 => hz r (qz_gap hb (by omega) (by omega)))
  have e : b + 1 + (T - 1) = b + T := by omega
  rw [e] at h
  exact h
/-- jobs of one kind, counted while their end is within V -/
theorem qz_lin {f : Nat → Nat} {T c D V : Nat} (hT : 1 ≤ T) (hz : ∀ r, r % T ≠ 0 → f r = 0) (b0 : Nat) (hc : ∀ r, b0 ≤ r → f r = 0 ∨ (f r ≤ c ∧ (r + T) * D ≤ V)) : ∀ K b, b0 ≤ b → T * D * qz_fs f K b ≤ c * (V - b * D)
  | 0, b, _ => by rw [show qz_fs f 0 b = 0 from rfl, Nat.mul_zero]; exact Nat.zero_le _
  | K + 1, b, h0 => by
    rw [qz_fs_s]
    by_cases z : f b = 0
    · have ih := qz_lin hT hz b0 hc K (b + 1) (by omega)
      rw [z, Nat.zero_add]
      refine Nat.le_trans ih (Nat.mul_le_mul_left c (Nat.sub_le_sub_left ?_ V))
      exact Nat.mul_le_mul_right D (Nat.le_succ b)
    · have hb : b % T = 0 := by
        by_cases w : b % T = 0
        · exact w
        · exact absurd (hz b w) z
      obtain ⟨h1, h2⟩ := (hc b h0).resolve_left z
      have ih := qz_lin hT hz b0 hc K (b + T) (by omega)
      have h3 := qz_next hT hz hb K
      have h4 : T * D * (f b + qz_fs f K (b + 1)) ≤ T * D * (c + qz_fs f K (b + T)) := Nat.mul_le_mul_left _ (Nat.add_le_add h1 h3)
      have h5 : T * D * (c + qz_fs f K (b + T)) = c * (T * D) + T * D * qz_fs f K (b + T) := by rw [Nat.mul_add, Nat.mul_comm (T * D) c]
      have h6 : V - b * D = T * D + (V - (b + T) * D) := by
        have e : (b + T) * D = b * D + T * D := Nat.add_mul b T D
        omega
      have h7 : c * (V - b * D) = c * (T * D) + c * (V - (b + T) * D) := by rw [h6, Nat.mul_add]
      omega
/-- jobs of a HI task: those released ahead of a at the small budget by the key, later ones at the great budget by the end -/
theorem qz_two {f : Nat → Nat} {T cl ch num den a d : Nat} (hT : 1 ≤ T) (hnd : num ≤ den) (hcc : cl ≤ ch) (had : a ≤ d) (hz : ∀ r, r % T ≠ 0 → f r = 0)
    (h1 : ∀ r, r < a → f r = 0 ∨ (f r ≤ cl ∧ r * den + num * T ≤ a * den + num * (d - a)))
    (h2 : ∀ r, a ≤ r → f r = 0 ∨ (f r ≤ ch ∧ (r + T) * 1 ≤ d)) : ∀ K b, b ≤ a → num * (T * qz_fs f K b) ≤ cl * (den * (a - b)) + ch * (num * (d - a))
  | 0, b, _ => by rw [show qz_fs f 0 b = 0 from rfl, Nat.mul_zero, Nat.mul_zero]; exact Nat.zero_le _
  | K + 1, b, hb => by
    have late : ∀ K b, a ≤ b → num * (T * qz_fs f K b) ≤ ch * (num * (d - b)) := by
      intro K b hab
      have h := qz_lin hT hz a h2 K b hab
      rw [Nat.mul_one, Nat.mul_one] at h
      have h' := Nat.mul_le_mul_left num h
      rw [Nat.mul_left_comm num ch] at h'
      exact h'
    by_cases e : b = a
    · subst e
      have h := late (K + 1) b (Nat.le_refl b)
      omega
    · have hlt : b < a := by omega
      rw [qz_fs_s]
      by_cases z : f b = 0
      · have ih := qz_two hT hnd hcc had hz h1 h2 K (b + 1) (by omega)
        rw [z, Nat.zero_add]
        have h3 : cl * (den * (a - (b + 1))) ≤ cl * (den * (a - b)) := Nat.mul_le_mul_left cl (Nat.mul_le_mul_left den (by omega))
        omega
      · have hm : b % T = 0 := by
          by_cases w : b % T = 0
          · exact w
          · exact absurd (hz b w) z
        obtain ⟨h3, h4⟩ := (h1 b hlt).resolve_left z
        have h5 := qz_next hT hz hm K
        have h6 : num * (T * (f b + qz_fs f K (b + 1))) ≤ num * (T * (cl + qz_fs f K (b + T))) := Nat.mul_le_mul_left _ (Nat.mul_le_mul_left _ (Nat.add_le_add h3 h5))
        have h7 : num * (T * (cl + qz_fs f K (b + T))) = cl * (num * T) + num * (T * qz_fs f K (b + T)) := by
          rw [Nat.mul_add, Nat.mul_add, ← Nat.mul_assoc num T cl, Nat.mul_comm (num * T) cl]
        refine Nat.le_trans h6 ?_
        rw [h7]
        by_cases s : b + T ≤ a
        · have ih := qz_two hT hnd hcc had hz h1 h2 K (b + T) s
          have h8 : den * (a - b) = den * T + den * (a - (b + T)) := by rw [← Nat.mul_add]; exact congrArg _ (by omega)
          have h9 : cl * (num * T) ≤ cl * (den * T) := Nat.mul_le_mul_left cl (Nat.mul_le_mul_right T hnd)
          rw [h8, Nat.mul_add]
          omega
        · have ih := late K (b + T) (by omega)
          by_cases w : b + T ≤ d
          · have g1 : num * (d - a) = num * (d - (b + T)) + num * (b + T - a) := by rw [← Nat.mul_add]; exact congrArg _ (by omega)
            have g2 : num * T = num * (a - b) + num * (b + T - a) := by rw [← Nat.mul_add]; exact congrArg _ (by omega)
            have g3 : cl * (num * (a - b)) ≤ cl * (den * (a - b)) := Nat.mul_le_mul_left cl (Nat.mul_le_mul_right _ hnd)
            have g4 : cl * (num * (b + T - a)) ≤ ch * (num * (b + T - a)) := Nat.mul_le_mul_right _ hcc
            rw [g1, g2, Nat.mul_add, Nat.mul_add]
            omega
          · have g0 : d - (b + T) = 0 := by omega
            rw [g0, Nat.mul_zero, Nat.mul_zero] at ih
            have g1 : num * T ≤ den * (a - b) + num * (d - a) := by
              have k1 : a * den = b * den + den * (a - b) := by
                rw [Nat.mul_comm b den, Nat.mul_comm a den, ← Nat.mul_add]; exact congrArg _ (by omega)
              omega
            have g2 := Nat.mul_le_mul_left cl g1
            rw [Nat.mul_add] at g2
            have g3 : cl * (num * (d - a)) ≤ ch * (num * (d - a)) := Nat.mul_le_mul_right _ hcc
            omega
