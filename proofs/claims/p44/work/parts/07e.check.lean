theorem pd_okl0 : ((List.range 48).map (fun i => i + 0)).all (fun i => match pd_cd 89 i with
  | none => true
  | some op => pd_ck 89 i op) = true := by decide +kernel
theorem pd_okl1 : ((List.range 48).map (fun i => i + 48)).all (fun i => match pd_cd 89 i with
  | none => true
  | some op => pd_ck 89 i op) = true := by decide +kernel
theorem pd_okl2 : ((List.range 48).map (fun i => i + 96)).all (fun i => match pd_cd 89 i with
  | none => true
  | some op => pd_ck 89 i op) = true := by decide +kernel
theorem pd_okl3 : ((List.range 48).map (fun i => i + 144)).all (fun i => match pd_cd 89 i with
  | none => true
  | some op => pd_ck 89 i op) = true := by decide +kernel
theorem pd_okl4 : ((List.range 48).map (fun i => i + 192)).all (fun i => match pd_cd 89 i with
  | none => true
  | some op => pd_ck 89 i op) = true := by decide +kernel
theorem pd_okl5 : ((List.range 48).map (fun i => i + 240)).all (fun i => match pd_cd 89 i with
  | none => true
  | some op => pd_ck 89 i op) = true := by decide +kernel
theorem pd_okl6 : ((List.range 48).map (fun i => i + 288)).all (fun i => match pd_cd 89 i with
  | none => true
  | some op => pd_ck 89 i op) = true := by decide +kernel
theorem pd_okl7 : ((List.range 48).map (fun i => i + 336)).all (fun i => match pd_cd 89 i with
  | none => true
  | some op => pd_ck 89 i op) = true := by decide +kernel
theorem pd_okl8 : ((List.range 48).map (fun i => i + 384)).all (fun i => match pd_cd 89 i with
  | none => true
  | some op => pd_ck 89 i op) = true := by decide +kernel
theorem pd_okl9 : ((List.range 48).map (fun i => i + 432)).all (fun i => match pd_cd 89 i with
  | none => true
  | some op => pd_ck 89 i op) = true := by decide +kernel
theorem pd_okl10 : ((List.range 48).map (fun i => i + 480)).all (fun i => match pd_cd 89 i with
  | none => true
  | some op => pd_ck 89 i op) = true := by decide +kernel
