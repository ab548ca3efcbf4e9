theorem pd_okl11 : ((List.range 48).map (fun i => i + 528)).all (fun i => match pd_cd 89 i with
  | none => true
  | some op => pd_ck 89 i op) = true := by decide +kernel
theorem pd_okl12 : ((List.range 48).map (fun i => i + 576)).all (fun i => match pd_cd 89 i with
  | none => true
  | some op => pd_ck 89 i op) = true := by decide +kernel
theorem pd_okl13 : ((List.range 48).map (fun i => i + 624)).all (fun i => match pd_cd 89 i with
  | none => true
  | some op => pd_ck 89 i op) = true := by decide +kernel
theorem pd_okl14 : ((List.range 48).map (fun i => i + 672)).all (fun i => match pd_cd 89 i with
  | none => true
  | some op => pd_ck 89 i op) = true := by decide +kernel
theorem pd_okl15 : ((List.range 48).map (fun i => i + 720)).all (fun i => match pd_cd 89 i with
  | none => true
  | some op => pd_ck 89 i op) = true := by decide +kernel
theorem pd_okl16 : ((List.range 48).map (fun i => i + 768)).all (fun i => match pd_cd 89 i with
  | none => true
  | some op => pd_ck 89 i op) = true := by decide +kernel
theorem pd_okl17 : ((List.range 48).map (fun i => i + 816)).all (fun i => match pd_cd 89 i with
  | none => true
  | some op => pd_ck 89 i op) = true := by decide +kernel
theorem pd_okl18 : ((List.range 48).map (fun i => i + 864)).all (fun i => match pd_cd 89 i with
  | none => true
  | some op => pd_ck 89 i op) = true := by decide +kernel
theorem pd_okl19 : ((List.range 48).map (fun i => i + 912)).all (fun i => match pd_cd 89 i with
  | none => true
  | some op => pd_ck 89 i op) = true := by decide +kernel
theorem pd_okl20 : ((List.range 48).map (fun i => i + 960)).all (fun i => match pd_cd 89 i with
  | none => true
  | some op => pd_ck 89 i op) = true := by decide +kernel
theorem pd_okl21 : ((List.range 48).map (fun i => i + 1008)).all (fun i => match pd_cd 89 i with
  | none => true
  | some op => pd_ck 89 i op) = true := by decide +kernel
theorem pd_okl22 : ((List.range 21).map (fun i => i + 1056)).all (fun i => match pd_cd 89 i with
  | none => true
  | some op => pd_ck 89 i op) = true := by decide +kernel
