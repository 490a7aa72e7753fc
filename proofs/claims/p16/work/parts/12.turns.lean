theorem rz_cell (L : Nat) (hL : L ≤ 260) (xs : Nat → Int32) (post : Int32 → Prop) (j : Nat) (hj : j ≤ 300) (h : ∀ r, post r) : wpL_cell post L xs () (nI j) := by
  refine br_c (fun _ => h _) (fun z => ⟨?_, h _⟩)
  refine vp_in_nI ?_ (by omega)
  refine Nat.lt_of_not_le fun w => z ?_
  exact nI_le (a := L) (b := j) w (by omega)
theorem rz_ok1 {post : Int32 → Prop} {r : Int32} (hr : r = 1 ∨ r = 2) (h : post 1) : wpL_ok post () r := by
  rcases hr with e | e
  · subst e; exact br_t rfl h
  · subst e; exact br_f (by decide) (br_t rfl h)
theorem rz_ok0 {post : Int32 → Prop} {r : Int32} (h1 : ¬ r = 1) (h2 : ¬ r = 2) (h : post 0) : wpL_ok post () r := br_f h1 (br_f h2 h)
theorem rz_34 (post : Int32 → Prop) (hp : post 1) (L : Nat) (hL : L ≤ 260) (xs : Nat → Int32) (m kc ks : Nat) (h1 : 1 ≤ m) (h8 : m ≤ 8) : ∀ d j, j + d = m → ∀ (u v : St2), rz_Fresh u → rz_Fresh v → rz_W34 post L xs (nI m) kc ks (d + 1) (nI j) u v := by
  intro d
  induction d with
  | zero =>
    intro j hj u v Fu Fv
    have e : j = m := by omega
    subst e
    obtain ⟨n, la, xn, xd, pe, cr, lo, hi, nx, st, rfl, hn, hT⟩ := Fu
    obtain ⟨n2, la2, xn2, xd2, pe2, cr2, lo2, hi2, nx2, st2, rfl, hn2, hT2⟩ := Fv
    refine br_t (nI_le (Nat.le_refl j) (by omega)) ?_
    refine rz_admit n (nI 8) la xn xd pe cr lo hi nx st hT hn _ (fun r r1 r2 => rz_ok0 r1 r2 (br_t rfl ?_)) (fun r u' hr G => rz_ok1 hr (br_f (by decide) (br_f (by decide) ?_)))
    · refine rz_admit n2 (nI 8) la2 xn2 xd2 pe2 cr2 lo2 hi2 nx2 st2 hT2 hn2 _ (fun r r1 r2 => rz_ok0 r1 r2 (br_t rfl hp)) (fun r u' hr G => rz_ok1 hr (br_f (by decide) (br_t rfl ?_)))
      exact rz_178 post hp L hL xs j kc ks h1 h8 u' G
    · exact rz_178 post hp L hL xs j kc ks h1 h8 u' G
  | succ d ih =>
    intro j hj u v Fu Fv
    have hge : ¬ nI m ≤ nI j := nI_ge (by omega) (by omega)
    refine br_f hge ?_
    have e1 : (1 : Int32) + nI j = nI (1 + j) := by rw [show (1 : Int32) = nI 1 from rfl, nI_add]
    rw [e1]
    refine rz_cell L hL xs _ (1 + j) (by omega) (fun r => ?_)
    obtain ⟨a, ha, ea⟩ := pk_andE r (m := 15) 4 (by decide)
    obtain ⟨b, hb, eb⟩ := pk_andE ((r.toUInt32 >>> ((4 : Int32).toUInt32 &&& Int32.toUInt32 31)).toInt32) (m := 15) 4 (by decide)
    have e17 : (17 : Int32) - nI m = nI (17 - m) := by rw [show (17 : Int32) = nI 17 from rfl, pk_sub (by omega)]
    have ha2 := Nat.mod_lt a (show 0 < 17 - m by omega)
    have e6 : nI m + ((r &&& 15) - (r &&& 15) / (17 - nI m) * (17 - nI m)) = nI (m + a % (17 - m)) := by
      rw [ea, e17, pk_rem (by omega) (by omega) (by omega), nI_add]
    have e7 : nI (m + a % (17 - m)) / nI m = nI ((m + a % (17 - m)) / m) := pk_div (by omega) (by omega) (by omega)
    have hq1 : 0 < (m + a % (17 - m)) / m := Nat.div_pos (by omega) (by omega)
    have hq2 : (m + a % (17 - m)) / m ≤ m + a % (17 - m) := Nat.div_le_self _ _
    have hb2 := Nat.mod_lt b hq1
    have n0 : ¬ nI m = 0 := nI_ne0 (by omega) (by omega)
    refine ⟨by rw [e17]; exact nI_ne0 (by omega) (by omega), nm_r e6 ⟨n0, by rw [e7]; exact nI_ne0 hq1 (by omega), fun x7 h7 => ?_⟩⟩
    have e8 : x7 = nI (1 + b % ((m + a % (17 - m)) / m)) := by
      rw [h7, e7, eb, pk_rem (by omega) hq1 (by omega), show (1 : Int32) = nI 1 from rfl, nI_add]
    refine ⟨?_, fun x8 h8' => fun x9 h9 => ?_⟩
    · rw [e8, pk_sub (by omega), nI_1]
      exact nI_ne0 (by omega) (by omega)
    · refine rz_add Fu _ _ _ _ _ (fun r1 u' Fu' => ?_)
      refine rz_add Fv _ _ _ _ _ (fun r2 v' Fv' => ?_)
      exact nm_r (nI_1 j) (ih (j + 1) (by omega) u' v' Fu' Fv')
theorem rz_new0 : rz_Fresh (8, 0, 0, 0, 0, (-1), 0, 0, (fun _ => 0), (fun _ => 0), (fun _ => 0), (fun _ => 0), (fun _ => 0), (fun _ => 0), (fun _ => 0), (fun _ => 0), (fun _ => 0), (fun _ => 0), (fun _ => 0)) :=
  ⟨0, -1, 0, 0, (fun _ => 0), (fun _ => 0), (fun _ => 0), (fun _ => 0), (fun _ => 0), (fun _ => 0), rfl, Nat.zero_le 8, kz_T_0⟩
theorem rz_init (post : St2 → Prop) (h : ∀ u, rz_Fresh u → post u) : wpX_init post 11 124 (0, 0, 0, 0, 0, 0, 0, 0) 8 := by
  unfold wpX_init
  dsimp only
  refine ⟨by omega, by omega, by omega, by omega, by omega, by omega, by omega, by omega, by omega, by omega, by omega, by omega, by omega, by omega, by omega, by omega, by omega, by omega, by omega, by omega, by omega, by omega, ?_⟩
  exact br_t (by decide) (br_t (by decide) (h _ rz_new0))
