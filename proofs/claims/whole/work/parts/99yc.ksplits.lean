/-! The last call; what the law's loop answers. -/
theorem k_splits (a0 : Int32) : PairK isI (fun g => zev mX11_splits 0 [.ref 3, .int a0] g) (fun g => zev mX12_splits 0 [.ref 250, .int a0] g) := pk_of (pl_c (p_splits a0)) (fun g => by
  show irI (zev mX11_splits 0 [.ref 3, .int a0] g)
  rw [uX11_splits_0]
  repeat' first | exact irI_n | exact irI_l _ _ | apply irI_c | (apply irI_aI; intro _ _) | (apply irI_aL; intro _ _) | (apply irI_aV; intro _))
theorem zHolds_all : zHolds := zHolds_of k_splits
