/-! the law -/
def rz_W197 (post : Int32 → Prop) (L : Nat) (xs : Nat → Int32) (x1 : Int32) (kc ks fu : Nat) (x6 : Int32) (u : St2) : Prop := wL_law_197 post L xs x1 kc ks fu x6 u.1 u.2.1 u.2.2.1 u.2.2.2.1 u.2.2.2.2.1 u.2.2.2.2.2.1 u.2.2.2.2.2.2.1 u.2.2.2.2.2.2.2.1 u.2.2.2.2.2.2.2.2.1 u.2.2.2.2.2.2.2.2.2.1 u.2.2.2.2.2.2.2.2.2.2.1 u.2.2.2.2.2.2.2.2.2.2.2.1 u.2.2.2.2.2.2.2.2.2.2.2.2.1 u.2.2.2.2.2.2.2.2.2.2.2.2.2.1 u.2.2.2.2.2.2.2.2.2.2.2.2.2.2.1 u.2.2.2.2.2.2.2.2.2.2.2.2.2.2.2.1 u.2.2.2.2.2.2.2.2.2.2.2.2.2.2.2.2.1 u.2.2.2.2.2.2.2.2.2.2.2.2.2.2.2.2.2.1 u.2.2.2.2.2.2.2.2.2.2.2.2.2.2.2.2.2.2
def rz_W178 (post : Int32 → Prop) (L : Nat) (xs : Nat → Int32) (x1 : Int32) (kc ks : Nat) (u : St2) : Prop := wL_law_178 post L xs x1 kc ks u.1 u.2.1 u.2.2.1 u.2.2.2.1 u.2.2.2.2.1 u.2.2.2.2.2.1 u.2.2.2.2.2.2.1 u.2.2.2.2.2.2.2.1 u.2.2.2.2.2.2.2.2.1 u.2.2.2.2.2.2.2.2.2.1 u.2.2.2.2.2.2.2.2.2.2.1 u.2.2.2.2.2.2.2.2.2.2.2.1 u.2.2.2.2.2.2.2.2.2.2.2.2.1 u.2.2.2.2.2.2.2.2.2.2.2.2.2.1 u.2.2.2.2.2.2.2.2.2.2.2.2.2.2.1 u.2.2.2.2.2.2.2.2.2.2.2.2.2.2.2.1 u.2.2.2.2.2.2.2.2.2.2.2.2.2.2.2.2.1 u.2.2.2.2.2.2.2.2.2.2.2.2.2.2.2.2.2.1 u.2.2.2.2.2.2.2.2.2.2.2.2.2.2.2.2.2.2
def rz_W34 (post : Int32 → Prop) (L : Nat) (xs : Nat → Int32) (x1 : Int32) (kc ks fu : Nat) (x4 : Int32) (u v : St2) : Prop := wL_law_34 post L xs x1 kc ks fu x4 u.1 u.2.1 u.2.2.1 u.2.2.2.1 u.2.2.2.2.1 u.2.2.2.2.2.1 u.2.2.2.2.2.2.1 u.2.2.2.2.2.2.2.1 u.2.2.2.2.2.2.2.2.1 u.2.2.2.2.2.2.2.2.2.1 u.2.2.2.2.2.2.2.2.2.2.1 u.2.2.2.2.2.2.2.2.2.2.2.1 u.2.2.2.2.2.2.2.2.2.2.2.2.1 u.2.2.2.2.2.2.2.2.2.2.2.2.2.1 u.2.2.2.2.2.2.2.2.2.2.2.2.2.2.1 u.2.2.2.2.2.2.2.2.2.2.2.2.2.2.2.1 u.2.2.2.2.2.2.2.2.2.2.2.2.2.2.2.2.1 u.2.2.2.2.2.2.2.2.2.2.2.2.2.2.2.2.2.1 u.2.2.2.2.2.2.2.2.2.2.2.2.2.2.2.2.2.2 v.1 v.2.1 v.2.2.1 v.2.2.2.1 v.2.2.2.2.1 v.2.2.2.2.2.1 v.2.2.2.2.2.2.1 v.2.2.2.2.2.2.2.1 v.2.2.2.2.2.2.2.2.1 v.2.2.2.2.2.2.2.2.2.1 v.2.2.2.2.2.2.2.2.2.2.1 v.2.2.2.2.2.2.2.2.2.2.2.1 v.2.2.2.2.2.2.2.2.2.2.2.2.1 v.2.2.2.2.2.2.2.2.2.2.2.2.2.1 v.2.2.2.2.2.2.2.2.2.2.2.2.2.2.1 v.2.2.2.2.2.2.2.2.2.2.2.2.2.2.2.1 v.2.2.2.2.2.2.2.2.2.2.2.2.2.2.2.2.1 v.2.2.2.2.2.2.2.2.2.2.2.2.2.2.2.2.2.1 v.2.2.2.2.2.2.2.2.2.2.2.2.2.2.2.2.2.2
theorem rz_197 (post : Int32 → Prop) (hp : post 1) (L : Nat) (hL : L ≤ 260) (xs : Nat → Int32) (m kc ks : Nat) (h1 : 1 ≤ m) (h8 : m ≤ 8) : ∀ d j, j ≤ 300 → L ≤ j + d → ∀ (t : Nat) (u : St2), t ≤ 40 * j → rz_Good t u → rz_W197 post L xs (nI m) kc ks (d + 1) (nI j) u := by
  intro d
  induction d with
  | zero =>
    intro j hj hd t u ht G
    exact br_t (nI_le (a := L) (b := j) (by omega) (by omega)) hp
  | succ d ih =>
    intro j hj hd t u ht G
    by_cases x : L ≤ j
    · exact br_t (nI_le (a := L) (b := j) x (by omega)) hp
    · have hge : ¬ nI L ≤ nI j := nI_ge (by omega) (by omega)
      have hv : vp_in (nI j) L := vp_in_nI (by omega) (by omega)
      have next : ∀ (t' : Nat) (u' : St2), t' ≤ t + 40 → rz_Good t' u' → wL_law_265 post L xs (wL_law_197 post L xs (nI m) kc ks (d + 1)) (nI m) (nI j) kc ks u'.1 u'.2.1 u'.2.2.1 u'.2.2.2.1 u'.2.2.2.2.1 u'.2.2.2.2.2.1 u'.2.2.2.2.2.2.1 u'.2.2.2.2.2.2.2.1 u'.2.2.2.2.2.2.2.2.1 u'.2.2.2.2.2.2.2.2.2.1 u'.2.2.2.2.2.2.2.2.2.2.1 u'.2.2.2.2.2.2.2.2.2.2.2.1 u'.2.2.2.2.2.2.2.2.2.2.2.2.1 u'.2.2.2.2.2.2.2.2.2.2.2.2.2.1 u'.2.2.2.2.2.2.2.2.2.2.2.2.2.2.1 u'.2.2.2.2.2.2.2.2.2.2.2.2.2.2.2.1 u'.2.2.2.2.2.2.2.2.2.2.2.2.2.2.2.2.1 u'.2.2.2.2.2.2.2.2.2.2.2.2.2.2.2.2.2.1 u'.2.2.2.2.2.2.2.2.2.2.2.2.2.2.2.2.2.2 := by
        intro t' u' ht' G'
        have k := ih (j + 1) (by omega) (by omega) t' u' (by omega) G'
        unfold wL_law_265
        exact rz_cnt G' _ (br_t rfl (nm_r (nI_1 j) k))
      have G2 := G
      obtain ⟨n, kc, md, la, xn, xd, pe, cr, lo, hi, nx, pd, rX, dn, dm, cX, st, num, e, R, U, rfl, hn, hT, hA, hx, hd, he, hJ, hM, hZ⟩ := G2
      refine br_f hge ⟨hv, nm_e (nm_e (fun x9 e9 => ?_))⟩
      obtain ⟨w, hw, ew⟩ := pk_andE (((xs (nI j).toNatClampNeg).toUInt32 >>> ((2 : Int32).toUInt32 &&& Int32.toUInt32 31)).toInt32) (m := 65535) 16 (by decide)
      refine br_c (fun _ => ⟨nI_ne0 (by omega) (by omega), by decide, ?_⟩) (fun _ => ⟨by decide, ?_⟩)
      · refine rz_set G _ _ _ (fun r u' G' => ?_)
        exact next t u' (by omega) G'
      · have es : 1 + (x9 - x9 / 40 * 40) = nI (1 + w % 40) := by
          rw [e9, ew, show (40 : Int32) = nI 40 from rfl, pk_rem (by omega) (by omega) (by omega), show (1 : Int32) = nI 1 from rfl, nI_add]
        rw [es]
        have hw40 := Nat.mod_lt w (show 0 < 40 by omega)
        refine rz_runs G (1 + w % 40) (by omega) (by omega) (by omega) _ (fun r u' G' => ?_)
        exact next (t + (1 + w % 40)) u' (by omega) G'
theorem rz_178 (post : Int32 → Prop) (hp : post 1) (L : Nat) (hL : L ≤ 260) (xs : Nat → Int32) (m kc ks : Nat) (h1 : 1 ≤ m) (h8 : m ≤ 8) (u : St2) (G : rz_Good 0 u) : rz_W178 post L xs (nI m) kc ks u := by
  unfold rz_W178 wL_law_178
  exact rz_cnt G _ (br_t rfl (nm_r (nI_1 m) ⟨L + 1, rz_197 post hp L hL xs m kc ks h1 h8 L (m + 1) (by omega) (by omega) 0 u (by omega) G⟩))
