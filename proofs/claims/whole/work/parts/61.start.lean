/-! two new objects agree -/
theorem x_ordersI {k N : Nat} (hk : k ≤ 5) (hk1 : 1 ≤ k) (hN : 11 + cost k ≤ N) : ∃ od op oi ov of_ ol om ow ex, F_X5_ordersWithI N (nI k) = some (fac k, 2 ^ (k - 1), fac k * k, fac k * fac k, k, fac k * (k - 1), nI k, nI (fac k), nI (2 ^ (k - 1)), od, op, oi, ov, of_, ol, om, ow, ex) ∧ TB k (fac k) (2 ^ (k - 1)) (fac k * k) (fac k * fac k) k (nI k) (nI (fac k)) (nI (2 ^ (k - 1))) od op oi ov of_ ol om := by
  obtain ⟨od, op, oi, ov, of_, ol, om, ow, ex, e, h⟩ := x_init (N := N - 11) hk hk1 (by omega)
  refine ⟨od, op, oi, ov, of_, ol, om, ow, ex, ?_, h⟩
  unfold F_X5_ordersWithI
  rw [xgI (by omega) (by omega), xleI (by omega), bnd e]
theorem x_start : ∃ od op oi ov of_ ol om ow ex, F_X5_init 3000 = some (fac 3, 2 ^ (3 - 1), fac 3 * 3, fac 3 * fac 3, 3, fac 3 * (3 - 1), (fun _ _ => (0 : Int32)), (fun _ => (0 : Int64)), (fun _ => (0 : Int64)), (0 : Int32), (0 : Int32), (fun _ => (0 : Int32)), (fun _ _ => (0 : Int32)), (0 : Int32), (fun _ => (0 : Int32)), (0 : Int32), (1 : Int32), (0 : Int32), (0 : Int32), (1 : Int32), (0 : Int32), (0 : Int32), (0 : Int32), (fun _ => (0 : Int32)), (1 : Int32), (1 : Int32), (1 : Int32), (-1 : Int32), (fun _ => (0 : Int32)), (fun _ => (0 : Int32)), nI 3, nI (fac 3), nI (2 ^ (3 - 1)), od, op, oi, ov, of_, ol, om, ow, ex) ∧ TB 3 (fac 3) (2 ^ (3 - 1)) (fac 3 * 3) (fac 3 * fac 3) 3 (nI 3) (nI (fac 3)) (nI (2 ^ (3 - 1))) od op oi ov of_ ol om := by
  obtain ⟨od, op, oi, ov, of_, ol, om, ow, ex, e, h⟩ := x_ordersI (k := 3) (N := 3000 - 2049) (by omega) (by omega) (by decide)
  have e' : F_X5_ordersWithI (3000 - (2049)) (3 : Int32) = _ := e
  refine ⟨od, op, oi, ov, of_, ol, om, ow, ex, ?_, h⟩
  unfold F_X5_init
  rw [xleI (by omega), xleI (by omega), xleI (by omega), xleI (by omega), xleI (by omega), xleI (by omega), bnd (show F_X0_init = some _ from rfl), xleI (by omega), xleI (by omega), bnd (show F_X2_init = some _ from rfl), xleI (by omega), xleI (by omega), bnd (show F_X4_init = some _ from rfl), xleI (by omega), xleI (by omega), bnd (show F_X3_init = some _ from rfl), bnd e']
theorem start_RS : RS 3 (fun _ _ => (0 : Int32)) (upd (fun _ => (0 : Int32)) (0 : Int32).toNatClampNeg (3 : Int32)) := by
  refine ⟨by omega, by omega, rfl, fun j o hj ho => ⟨?_, fun _ => rfl, (show -50000 ≤ (0 : Int32).toInt by decide), (show (0 : Int32).toInt ≤ 50000 by decide)⟩⟩
  rw [cl0, pk_un (by omega)]
theorem start_RH : RH 0 0 (fun _ => (0 : Int32)) (fun _ _ => (0 : Int32)) 0 (fun _ => (0 : Int32)) := ⟨0, 0, by omega, by omega, rfl, rfl, rfl, fun i hi => absurd hi (by omega)⟩
theorem start_LK : LK 0 (fun _ => (0 : Int32)) := ⟨0, by omega, rfl, fun o k _ hk => absurd hk (by omega)⟩
theorem start_RT : RT 0 0 (fun _ => (0 : Int32)) (fun _ => (0 : Int32)) := ⟨0, fun _ => 0, rfl, rfl, by omega, fun j hj => absurd hj (by omega)⟩
