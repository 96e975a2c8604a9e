/-! constructors: over any heap -/
def q_hI (h : q_H) (a j : Nat) (x : Int32) : q_H := (q_nx h, q_sh h, q_u2 (q_I h) a j x, q_R h, q_E h, q_L h)
def q_hR (h : q_H) (a j b : Nat) : q_H := (q_nx h, q_sh h, q_I h, q_u2 (q_R h) a j (some b), q_E h, q_L h)
def q_hE (h : q_H) (a j b : Nat) : q_H := (q_nx h, q_sh h, q_I h, q_R h, q_u2 (q_E h) a j (some b), q_L h)
theorem q_i1_0 : Jvm.Cond.instantiable "HayBarn$Bales" 6 ∈ q_tb := q_gw_in (k := 0) (i := 202) rfl rfl
theorem q_i2_0 : Jvm.Cond.initialized "HayBarn$Bales" ∈ q_tb := q_gw_in (k := 0) (i := 9) rfl rfl
theorem q_i1_1 : Jvm.Cond.instantiable "HayBarn$Barn" 15 ∈ q_tb := q_gw_in (k := 0) (i := 196) rfl rfl
theorem q_i2_1 : Jvm.Cond.initialized "HayBarn$Barn" ∈ q_tb := q_gw_in (k := 0) (i := 8) rfl rfl
theorem q_i1_2 : Jvm.Cond.instantiable "HayBarn$Hands" 1 ∈ q_tb := q_gw_in (k := 1) (i := 108) rfl rfl
theorem q_i2_2 : Jvm.Cond.initialized "HayBarn$Hands" ∈ q_tb := q_gw_in (k := 0) (i := 14) rfl rfl
theorem q_i1_3 : Jvm.Cond.instantiable "HayBarn$Line" 3 ∈ q_tb := q_gw_in (k := 1) (i := 5) rfl rfl
theorem q_i2_3 : Jvm.Cond.initialized "HayBarn$Line" ∈ q_tb := q_gw_in (k := 0) (i := 11) rfl rfl
theorem q_i1_4 : Jvm.Cond.instantiable "HayBarn$Loft" 3 ∈ q_tb := q_gw_in (k := 0) (i := 227) rfl rfl
theorem q_i2_4 : Jvm.Cond.initialized "HayBarn$Loft" ∈ q_tb := q_gw_in (k := 0) (i := 10) rfl rfl
theorem q_i1_5 : Jvm.Cond.instantiable "HayBarn$Plan" 9 ∈ q_tb := q_gw_in (k := 0) (i := 41) rfl rfl
theorem q_i2_5 : Jvm.Cond.initialized "HayBarn$Plan" ∈ q_tb := q_gw_in (k := 0) (i := 2) rfl rfl
theorem q_i1_6 : Jvm.Cond.instantiable "HayBarn$Reader" 6 ∈ q_tb := q_gw_in (k := 0) (i := 142) rfl rfl
theorem q_i2_6 : Jvm.Cond.initialized "HayBarn$Reader" ∈ q_tb := q_gw_in (k := 0) (i := 6) rfl rfl
theorem q_i1_7 : Jvm.Cond.instantiable "HayBarn$Reckoner" 2 ∈ q_tb := q_gw_in (k := 1) (i := 114) rfl rfl
theorem q_i2_7 : Jvm.Cond.initialized "HayBarn$Reckoner" ∈ q_tb := q_gw_in (k := 0) (i := 15) rfl rfl
theorem q_i1_8 : Jvm.Cond.instantiable "HayBarn$Step" 8 ∈ q_tb := q_gw_in (k := 0) (i := 50) rfl rfl
theorem q_i2_8 : Jvm.Cond.initialized "HayBarn$Step" ∈ q_tb := q_gw_in (k := 0) (i := 3) rfl rfl
theorem q_i1_9 : Jvm.Cond.instantiable "HayBarn$Tokens" 7 ∈ q_tb := q_gw_in (k := 0) (i := 148) rfl rfl
theorem q_i2_9 : Jvm.Cond.initialized "HayBarn$Tokens" ∈ q_tb := q_gw_in (k := 0) (i := 7) rfl rfl
theorem q_i1_10 : Jvm.Cond.instantiable "HayBarn" 9 ∈ q_tb := q_gw_in (k := 0) (i := 33) rfl rfl
theorem q_i2_10 : Jvm.Cond.initialized "HayBarn" ∈ q_tb := q_gw_in (k := 0) (i := 1) rfl rfl
theorem q_i1_11 : Jvm.Cond.instantiable "HayBarnModel$Plan" 17 ∈ q_tb := q_gw_in (k := 5) (i := 195) rfl rfl
theorem q_i2_11 : Jvm.Cond.initialized "HayBarnModel$Plan" ∈ q_tb := q_gw_in (k := 0) (i := 17) rfl rfl
theorem q_i1_12 : Jvm.Cond.instantiable "HayBarnModel$State" 14 ∈ q_tb := q_gw_in (k := 6) (i := 38) rfl rfl
theorem q_i2_12 : Jvm.Cond.initialized "HayBarnModel$State" ∈ q_tb := q_gw_in (k := 0) (i := 18) rfl rfl
theorem q_i1_13 : Jvm.Cond.instantiable "HayBarnModel" 19 ∈ q_tb := q_gw_in (k := 5) (i := 189) rfl rfl
theorem q_i2_13 : Jvm.Cond.initialized "HayBarnModel" ∈ q_tb := q_gw_in (k := 0) (i := 16) rfl rfl
