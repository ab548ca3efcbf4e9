theorem pd_okl13 : ((List.range 48).map (fun i => i + 624)).all (fun i => match pd_cd 243 i with
  | none => true
  | some op => pd_ck 243 i op) = true := by decide +kernel
theorem pd_okl14 : ((List.range 48).map (fun i => i + 672)).all (fun i => match pd_cd 243 i with
  | none => true
  | some op => pd_ck 243 i op) = true := by decide +kernel
theorem pd_okl15 : ((List.range 48).map (fun i => i + 720)).all (fun i => match pd_cd 243 i with
  | none => true
  | some op => pd_ck 243 i op) = true := by decide +kernel
theorem pd_okl16 : ((List.range 48).map (fun i => i + 768)).all (fun i => match pd_cd 243 i with
  | none => true
  | some op => pd_ck 243 i op) = true := by decide +kernel
theorem pd_okl17 : ((List.range 48).map (fun i => i + 816)).all (fun i => match pd_cd 243 i with
  | none => true
  | some op => pd_ck 243 i op) = true := by decide +kernel
theorem pd_okl18 : ((List.range 48).map (fun i => i + 864)).all (fun i => match pd_cd 243 i with
  | none => true
  | some op => pd_ck 243 i op) = true := by decide +kernel
theorem pd_okl19 : ((List.range 48).map (fun i => i + 912)).all (fun i => match pd_cd 243 i with
  | none => true
  | some op => pd_ck 243 i op) = true := by decide +kernel
theorem pd_okl20 : ((List.range 48).map (fun i => i + 960)).all (fun i => match pd_cd 243 i with
  | none => true
  | some op => pd_ck 243 i op) = true := by decide +kernel
theorem pd_okl21 : ((List.range 48).map (fun i => i + 1008)).all (fun i => match pd_cd 243 i with
  | none => true
  | some op => pd_ck 243 i op) = true := by decide +kernel
theorem pd_okl22 : ((List.range 48).map (fun i => i + 1056)).all (fun i => match pd_cd 243 i with
  | none => true
  | some op => pd_ck 243 i op) = true := by decide +kernel
theorem pd_okl23 : ((List.range 48).map (fun i => i + 1104)).all (fun i => match pd_cd 243 i with
  | none => true
  | some op => pd_ck 243 i op) = true := by decide +kernel
theorem pd_okl24 : ((List.range 48).map (fun i => i + 1152)).all (fun i => match pd_cd 243 i with
  | none => true
  | some op => pd_ck 243 i op) = true := by decide +kernel
theorem pd_okl25 : ((List.range 48).map (fun i => i + 1200)).all (fun i => match pd_cd 243 i with
  | none => true
  | some op => pd_ck 243 i op) = true := by decide +kernel
theorem pd_okl26 : ((List.range 30).map (fun i => i + 1248)).all (fun i => match pd_cd 243 i with
  | none => true
  | some op => pd_ck 243 i op) = true := by decide +kernel
