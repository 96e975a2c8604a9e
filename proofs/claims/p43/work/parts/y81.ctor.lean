/-! constructors: over any heap -/
def q_hI (h : q_H) (a j : Nat) (x : Int32) : q_H := (q_nx h, q_sh h, q_u2 (q_I h) a j x, q_R h, q_E h, q_L h)
def q_hR (h : q_H) (a j b : Nat) : q_H := (q_nx h, q_sh h, q_I h, q_u2 (q_R h) a j (some b), q_E h, q_L h)
def q_hE (h : q_H) (a j b : Nat) : q_H := (q_nx h, q_sh h, q_I h, q_R h, q_u2 (q_E h) a j (some b), q_L h)
theorem q_i1_0 : Jvm.Cond.instantiable "HayBarn$Bales" 6 ∈ q_tb := q_gw_in (k := 0) (i := 205) rfl rfl
theorem q_i2_0 : Jvm.Cond.initialized "HayBarn$Bales" ∈ q_tb := q_gw_in (k := 0) (i := 22) rfl rfl
theorem q_i1_1 : Jvm.Cond.instantiable "HayBarn$Barn" 15 ∈ q_tb := q_gw_in (k := 0) (i := 199) rfl rfl
theorem q_i2_1 : Jvm.Cond.initialized "HayBarn$Barn" ∈ q_tb := q_gw_in (k := 0) (i := 21) rfl rfl
theorem q_i1_2 : Jvm.Cond.instantiable "HayBarn$Hands" 1 ∈ q_tb := q_gw_in (k := 1) (i := 111) rfl rfl
theorem q_i2_2 : Jvm.Cond.initialized "HayBarn$Hands" ∈ q_tb := q_gw_in (k := 0) (i := 25) rfl rfl
theorem q_i1_3 : Jvm.Cond.instantiable "HayBarn$Line" 3 ∈ q_tb := q_gw_in (k := 1) (i := 8) rfl rfl
theorem q_i2_3 : Jvm.Cond.initialized "HayBarn$Line" ∈ q_tb := q_gw_in (k := 0) (i := 24) rfl rfl
theorem q_i1_4 : Jvm.Cond.instantiable "HayBarn$Loft" 3 ∈ q_tb := q_gw_in (k := 0) (i := 230) rfl rfl
theorem q_i2_4 : Jvm.Cond.initialized "HayBarn$Loft" ∈ q_tb := q_gw_in (k := 0) (i := 23) rfl rfl
theorem q_i1_5 : Jvm.Cond.instantiable "HayBarn$Plan" 9 ∈ q_tb := q_gw_in (k := 0) (i := 44) rfl rfl
theorem q_i2_5 : Jvm.Cond.initialized "HayBarn$Plan" ∈ q_tb := q_gw_in (k := 0) (i := 15) rfl rfl
theorem q_i1_6 : Jvm.Cond.instantiable "HayBarn$Reader" 6 ∈ q_tb := q_gw_in (k := 0) (i := 145) rfl rfl
theorem q_i2_6 : Jvm.Cond.initialized "HayBarn$Reader" ∈ q_tb := q_gw_in (k := 0) (i := 19) rfl rfl
theorem q_i1_7 : Jvm.Cond.instantiable "HayBarn$Reckoner" 2 ∈ q_tb := q_gw_in (k := 1) (i := 117) rfl rfl
theorem q_i2_7 : Jvm.Cond.initialized "HayBarn$Reckoner" ∈ q_tb := q_gw_in (k := 0) (i := 26) rfl rfl
theorem q_i1_8 : Jvm.Cond.instantiable "HayBarn$Step" 8 ∈ q_tb := q_gw_in (k := 0) (i := 53) rfl rfl
theorem q_i2_8 : Jvm.Cond.initialized "HayBarn$Step" ∈ q_tb := q_gw_in (k := 0) (i := 16) rfl rfl
theorem q_i1_9 : Jvm.Cond.instantiable "HayBarn$Tokens" 7 ∈ q_tb := q_gw_in (k := 0) (i := 151) rfl rfl
theorem q_i2_9 : Jvm.Cond.initialized "HayBarn$Tokens" ∈ q_tb := q_gw_in (k := 0) (i := 20) rfl rfl
theorem q_i1_10 : Jvm.Cond.instantiable "HayBarn" 9 ∈ q_tb := q_gw_in (k := 0) (i := 36) rfl rfl
theorem q_i2_10 : Jvm.Cond.initialized "HayBarn" ∈ q_tb := q_gw_in (k := 0) (i := 14) rfl rfl
