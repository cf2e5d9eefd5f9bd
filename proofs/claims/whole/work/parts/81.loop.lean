/-! THE LAW: its loop -/
theorem lw_sub6 {L : Nat} (hL : L ≤ 3072) : (Int32.ofNat L - 6).toInt = (L : Int) - 6 := by
  have h := nI_toInt (n := L) (by omega)
  have e : (Int32.ofNat L - 6).toInt = ((Int32.ofNat L).toInt - (6 : Int32).toInt).bmod (2 ^ 32) := Int32.toInt_sub _ _
  rw [e, show (Int32.ofNat L).toInt = (L : Int) from h, show (6 : Int32).toInt = 6 from by decide +kernel]
  exact Int.bmod_eq_of_le (by omega) (by omega)
