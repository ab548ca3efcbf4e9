theorem pd_ok5 : ((List.range 22).map (fun i => i + 126)).all (fun m => (List.range (pd_mx m + 1)).all (fun i => match pd_cd m i with
  | none => true
  | some op => pd_ck m i op)) = true := by decide +kernel
theorem pd_ok6 : ((List.range 25).map (fun i => i + 148)).all (fun m => (List.range (pd_mx m + 1)).all (fun i => match pd_cd m i with
  | none => true
  | some op => pd_ck m i op)) = true := by decide +kernel
theorem pd_ok7 : ((List.range 20).map (fun i => i + 173)).all (fun m => (List.range (pd_mx m + 1)).all (fun i => match pd_cd m i with
  | none => true
  | some op => pd_ck m i op)) = true := by decide +kernel
theorem pd_ok8 : ((List.range 28).map (fun i => i + 193)).all (fun m => (List.range (pd_mx m + 1)).all (fun i => match pd_cd m i with
  | none => true
  | some op => pd_ck m i op)) = true := by decide +kernel
theorem pd_ok9 : ((List.range 22).map (fun i => i + 221)).all (fun m => (List.range (pd_mx m + 1)).all (fun i => match pd_cd m i with
  | none => true
  | some op => pd_ck m i op)) = true := by decide +kernel
