theorem pd_ok2 : ((List.range 33).map (fun i => i + 47)).all (fun m => (List.range (pd_mx m + 1)).all (fun i => match pd_cd m i with
  | none => true
  | some op => pd_ck m i op)) = true := by decide +kernel
theorem pd_ok3 : ((List.range 9).map (fun i => i + 80)).all (fun m => (List.range (pd_mx m + 1)).all (fun i => match pd_cd m i with
  | none => true
  | some op => pd_ck m i op)) = true := by decide +kernel
