theorem i_vc (xs : Nat → Int32) (L : Nat) (hL : L ≤ 260) : wpL_law (fun r => r = 1) L xs := by
  refine rz_cell L hL xs _ 0 (by omega) (fun r => ?_)
  obtain ⟨j, hj, ej⟩ := pk_andE r (m := 7) 3 (by decide)
  have e1 : 1 + (r &&& 7) = nI (1 + j) := by rw [ej, show (1 : Int32) = nI 1 from rfl, nI_add]
  refine nm_r e1 ⟨11, 124, by omega, by omega, rz_init _ (fun u Fu => ⟨by omega, by omega, 11, 124, by omega, by omega, rz_init _ (fun v Fv => ⟨1 + j + 1, ?_⟩)⟩)⟩
  exact rz_34 (fun r => r = 1) rfl L hL xs (1 + j) _ _ (by omega) (by omega) (1 + j) 0 (by omega) u v Fu Fv
