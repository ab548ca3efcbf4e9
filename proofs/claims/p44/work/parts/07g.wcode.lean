theorem pd_MC_ok0 : ((List.range 30).map (fun i => i + 0)).all (fun m => decide (tables_1[(pd_mt m).2.2.2.2]? = some (Cond.code (pd_y m) (pd_b m) (pd_ml m) (pd_rt m)))) = true := by decide +kernel
theorem pd_MC_ok1 : ((List.range 30).map (fun i => i + 30)).all (fun m => decide (tables_1[(pd_mt m).2.2.2.2]? = some (Cond.code (pd_y m) (pd_b m) (pd_ml m) (pd_rt m)))) = true := by decide +kernel
theorem pd_MC_ok2 : ((List.range 29).map (fun i => i + 60)).all (fun m => decide (tables_1[(pd_mt m).2.2.2.2]? = some (Cond.code (pd_y m) (pd_b m) (pd_ml m) (pd_rt m)))) = true := by decide +kernel
