/-! ===== retime: what it computes (the object that it makes is cell 202) ===== -/
noncomputable def rtW (σ : gSt) (u v x y : Int32) : gSt := up2 (up2 (up2 (up2 σ 202 0 u) 202 1 v) 202 2 (if 0 ≤ y - v then y - v else 0 - (y - v))) 202 3 (if 0 ≤ x - u then x - u else 0 - (x - u))
noncomputable def f_X9_retime_b (σ : gSt) (a0 u v x y : Int32) : Option (Nat × Int32 × gSt) :=
  g_k1 (f_X9_arePoints σ u v x y) fun q => if q = 0 then some (1, 0, σ) else
    g_k1 (f_X1_retimeRefusal (rtW σ u v x y) a0 202) fun q2 => g_x2 (f_X9_passOrRefuse (rtW σ u v x y) q2) (fun x s => (x, (0 : Int32), s)) fun σ2 =>
      g_k1 (f_X4_keep σ2 1) fun σ3 => g_k2 (f_X1_retimeCaptions σ3 a0 202) fun r σ4 => some (0, r, σ4)
noncomputable def f_X9_retime (σ : gSt) (a0 u v x y : Int32) : Option (Nat × Int32 × gSt) :=
  if a0 = -1 then f_X9_retime_b σ a0 u v x y else g_x2 (f_X9_requireTrack σ a0) (fun x s => (x, (0 : Int32), s)) fun σ1 => f_X9_retime_b σ1 a0 u v x y
