theorem pd_ok0 : ((List.range 20).map (fun i => i + 0)).all (fun m => (List.range (pd_mx m + 1)).all (fun i => match pd_cd m i with
  | none => true
  | some op => pd_ck m i op)) = true := by decide +kernel
theorem pd_ok1 : ((List.range 27).map (fun i => i + 20)).all (fun m => (List.range (pd_mx m + 1)).all (fun i => match pd_cd m i with
  | none => true
  | some op => pd_ck m i op)) = true := by decide +kernel
