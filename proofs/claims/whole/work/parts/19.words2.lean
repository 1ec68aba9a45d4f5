/-! more words of the tables -/
set_option maxRecDepth 100000 in
theorem wd_82 : Cond.instanceMethod objectInit ∈ lw_gd := gd_of 82 rfl rfl
set_option maxRecDepth 100000 in
theorem wd_83 : Cond.code objectInit ⟨#[0xb1]⟩ 1 none ∈ lw_gd := gd_of 83 rfl rfl
set_option maxRecDepth 100000 in
theorem wd_95 : Cond.methodLink RX4 3 objectInit ∈ lw_gd := gd_of 95 rfl rfl
set_option maxRecDepth 100000 in
theorem wd_137 : Cond.arrayClass .int ∈ lw_gd := gd_of 137 rfl rfl
set_option maxRecDepth 100000 in
theorem wd_143 : Cond.methodLink RX0 3 objectInit ∈ lw_gd := gd_of 143 rfl rfl
set_option maxRecDepth 100000 in
theorem wd_223 : Cond.methodLink RX3 3 objectInit ∈ lw_gd := gd_of 223 rfl rfl
set_option maxRecDepth 100000 in
theorem wd_246 : Cond.arrayClass .boolean ∈ lw_gd := gd_of 246 rfl rfl
set_option maxRecDepth 100000 in
theorem wd_247 : Cond.arrayClass .char ∈ lw_gd := gd_of 247 rfl rfl
set_option maxRecDepth 100000 in
theorem wd_713 : Cond.methodLink RX6 1 objectInit ∈ lw_gd := gd_of 713 rfl rfl
