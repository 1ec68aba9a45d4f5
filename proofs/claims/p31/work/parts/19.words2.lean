/-! more words of the tables -/
set_option maxRecDepth 100000 in
theorem wd_30 : Cond.instanceMethod objectInit ∈ lw_gd := gd_of 30 rfl rfl
set_option maxRecDepth 100000 in
theorem wd_31 : Cond.code objectInit ⟨#[0xb1]⟩ 1 none ∈ lw_gd := gd_of 31 rfl rfl
set_option maxRecDepth 100000 in
theorem wd_43 : Cond.methodLink RX4 3 objectInit ∈ lw_gd := gd_of 43 rfl rfl
set_option maxRecDepth 100000 in
theorem wd_84 : Cond.arrayClass .int ∈ lw_gd := gd_of 84 rfl rfl
set_option maxRecDepth 100000 in
theorem wd_90 : Cond.methodLink RX0 3 objectInit ∈ lw_gd := gd_of 90 rfl rfl
set_option maxRecDepth 100000 in
theorem wd_170 : Cond.methodLink RX3 3 objectInit ∈ lw_gd := gd_of 170 rfl rfl
set_option maxRecDepth 100000 in
theorem wd_171 : Cond.fieldLink RX3 9 (TX3 0).1 (TX3 0).2.1 (TX3 0).2.2.1 ∈ lw_gd := gd_of 171 rfl rfl
set_option maxRecDepth 100000 in
theorem wd_173 : Cond.fieldLink RX3 15 (TX3 4).1 (TX3 4).2.1 (TX3 4).2.2.1 ∈ lw_gd := gd_of 173 rfl rfl
set_option maxRecDepth 100000 in
theorem wd_187 : Cond.arrayClass .boolean ∈ lw_gd := gd_of 187 rfl rfl
set_option maxRecDepth 100000 in
theorem wd_188 : Cond.arrayClass .char ∈ lw_gd := gd_of 188 rfl rfl
