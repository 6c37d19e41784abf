theorem in_X0 : ∀ w ∈ u_ws RX0 TX0 6, w ∈ gg_tbl := by decide +kernel
theorem in_X1 : ∀ w ∈ u_ws RX1 TX1 2, w ∈ gg_tbl := by decide +kernel
theorem in_X2 : ∀ w ∈ u_ws RX2 TX2 11, w ∈ gg_tbl := by decide +kernel
theorem in_X4 : ∀ w ∈ u_ws RX4 TX4 2, w ∈ gg_tbl := by decide +kernel
theorem in_X5 : ∀ w ∈ u_ws RX5 TX5 3, w ∈ gg_tbl := by decide +kernel
theorem in_X6 : ∀ w ∈ u_ws RX6 TX6 3, w ∈ gg_tbl := by decide +kernel
theorem in_X7 : ∀ w ∈ u_ws RX7 TX7 5, w ∈ gg_tbl := by decide +kernel
theorem in_X8 : ∀ w ∈ u_ws RX8 TX8 16, w ∈ gg_tbl := by decide +kernel
theorem in_X9 : ∀ w ∈ u_ws RX9 TX9 39, w ∈ gg_tbl := by decide +kernel
theorem fl_X0_9 : gg_F RX0 9 0 0 true (.array .int) := ⟨RX0, TX0, 6, tyX0, rfl, by decide, in_X0, tyX0_ok, nmX0, gg_mem (by decide +kernel) rfl, rfl, rfl⟩
theorem fl_X0_15 : gg_F RX0 15 0 1 true (.array .int) := ⟨RX0, TX0, 6, tyX0, rfl, by decide, in_X0, tyX0_ok, nmX0, gg_mem (by decide +kernel) rfl, rfl, rfl⟩
theorem fl_X0_18 : gg_F RX0 18 0 2 true (.array .int) := ⟨RX0, TX0, 6, tyX0, rfl, by decide, in_X0, tyX0_ok, nmX0, gg_mem (by decide +kernel) rfl, rfl, rfl⟩
theorem fl_X0_21 : gg_F RX0 21 0 3 false .int := ⟨RX0, TX0, 6, tyX0, rfl, by decide, in_X0, tyX0_ok, nmX0, gg_mem (by decide +kernel) rfl, rfl, rfl⟩
theorem fl_X0_25 : gg_F RX0 25 0 4 false .int := ⟨RX0, TX0, 6, tyX0, rfl, by decide, in_X0, tyX0_ok, nmX0, gg_mem (by decide +kernel) rfl, rfl, rfl⟩
theorem fl_X0_28 : gg_F RX0 28 0 5 false .int := ⟨RX0, TX0, 6, tyX0, rfl, by decide, in_X0, tyX0_ok, nmX0, gg_mem (by decide +kernel) rfl, rfl, rfl⟩
theorem fl_X0_50 : gg_F RX0 50 2 0 false .int := ⟨RX2, TX2, 11, tyX2, rfl, by decide, in_X2, tyX2_ok, nmX2, gg_mem (by decide +kernel) rfl, rfl, rfl⟩
theorem fl_X0_59 : gg_F RX0 59 2 8 true (.array .int) := ⟨RX2, TX2, 11, tyX2, rfl, by decide, in_X2, tyX2_ok, nmX2, gg_mem (by decide +kernel) rfl, rfl, rfl⟩
theorem fl_X0_72 : gg_F RX0 72 2 5 true (.array .int) := ⟨RX2, TX2, 11, tyX2, rfl, by decide, in_X2, tyX2_ok, nmX2, gg_mem (by decide +kernel) rfl, rfl, rfl⟩
theorem fl_X1_11 : gg_F RX1 11 1 0 true (.array (.array .int)) := ⟨RX1, TX1, 2, tyX1, rfl, by decide, in_X1, tyX1_ok, nmX1, gg_mem (by decide +kernel) rfl, rfl, rfl⟩
theorem fl_X1_16 : gg_F RX1 16 1 1 false .int := ⟨RX1, TX1, 2, tyX1, rfl, by decide, in_X1, tyX1_ok, nmX1, gg_mem (by decide +kernel) rfl, rfl, rfl⟩
theorem fl_X2_9 : gg_F RX2 9 2 0 false .int := ⟨RX2, TX2, 11, tyX2, rfl, by decide, in_X2, tyX2_ok, nmX2, gg_mem (by decide +kernel) rfl, rfl, rfl⟩
theorem fl_X2_15 : gg_F RX2 15 2 1 false .int := ⟨RX2, TX2, 11, tyX2, rfl, by decide, in_X2, tyX2_ok, nmX2, gg_mem (by decide +kernel) rfl, rfl, rfl⟩
theorem fl_X2_18 : gg_F RX2 18 2 2 false .int := ⟨RX2, TX2, 11, tyX2, rfl, by decide, in_X2, tyX2_ok, nmX2, gg_mem (by decide +kernel) rfl, rfl, rfl⟩
theorem fl_X2_21 : gg_F RX2 21 2 3 true (.array .int) := ⟨RX2, TX2, 11, tyX2, rfl, by decide, in_X2, tyX2_ok, nmX2, gg_mem (by decide +kernel) rfl, rfl, rfl⟩
theorem fl_X2_25 : gg_F RX2 25 2 4 true (.array .int) := ⟨RX2, TX2, 11, tyX2, rfl, by decide, in_X2, tyX2_ok, nmX2, gg_mem (by decide +kernel) rfl, rfl, rfl⟩
theorem fl_X2_28 : gg_F RX2 28 2 5 true (.array .int) := ⟨RX2, TX2, 11, tyX2, rfl, by decide, in_X2, tyX2_ok, nmX2, gg_mem (by decide +kernel) rfl, rfl, rfl⟩
theorem fl_X2_31 : gg_F RX2 31 2 6 true (.array .int) := ⟨RX2, TX2, 11, tyX2, rfl, by decide, in_X2, tyX2_ok, nmX2, gg_mem (by decide +kernel) rfl, rfl, rfl⟩
theorem fl_X2_34 : gg_F RX2 34 2 7 true (.array .int) := ⟨RX2, TX2, 11, tyX2, rfl, by decide, in_X2, tyX2_ok, nmX2, gg_mem (by decide +kernel) rfl, rfl, rfl⟩
theorem fl_X2_37 : gg_F RX2 37 2 8 true (.array .int) := ⟨RX2, TX2, 11, tyX2, rfl, by decide, in_X2, tyX2_ok, nmX2, gg_mem (by decide +kernel) rfl, rfl, rfl⟩
theorem fl_X2_40 : gg_F RX2 40 2 9 true (.array .int) := ⟨RX2, TX2, 11, tyX2, rfl, by decide, in_X2, tyX2_ok, nmX2, gg_mem (by decide +kernel) rfl, rfl, rfl⟩
theorem fl_X2_43 : gg_F RX2 43 2 10 false .int := ⟨RX2, TX2, 11, tyX2, rfl, by decide, in_X2, tyX2_ok, nmX2, gg_mem (by decide +kernel) rfl, rfl, rfl⟩
theorem fl_X4_9 : gg_F RX4 9 3 1 true (.array .int) := ⟨RX4, TX4, 2, tyX4, rfl, by decide, in_X4, tyX4_ok, nmX4, gg_mem (by decide +kernel) rfl, rfl, rfl⟩
theorem fl_X4_15 : gg_F RX4 15 3 0 false .int := ⟨RX4, TX4, 2, tyX4, rfl, by decide, in_X4, tyX4_ok, nmX4, gg_mem (by decide +kernel) rfl, rfl, rfl⟩
theorem fl_X5_9 : gg_F RX5 9 4 0 true (.array .int) := ⟨RX5, TX5, 3, tyX5, rfl, by decide, in_X5, tyX5_ok, nmX5, gg_mem (by decide +kernel) rfl, rfl, rfl⟩
theorem fl_X5_15 : gg_F RX5 15 4 1 false .int := ⟨RX5, TX5, 3, tyX5, rfl, by decide, in_X5, tyX5_ok, nmX5, gg_mem (by decide +kernel) rfl, rfl, rfl⟩
theorem fl_X5_19 : gg_F RX5 19 4 2 false .int := ⟨RX5, TX5, 3, tyX5, rfl, by decide, in_X5, tyX5_ok, nmX5, gg_mem (by decide +kernel) rfl, rfl, rfl⟩
theorem fl_X5_55 : gg_F RX5 55 2 3 true (.array .int) := ⟨RX2, TX2, 11, tyX2, rfl, by decide, in_X2, tyX2_ok, nmX2, gg_mem (by decide +kernel) rfl, rfl, rfl⟩
theorem fl_X5_64 : gg_F RX5 64 2 1 false .int := ⟨RX2, TX2, 11, tyX2, rfl, by decide, in_X2, tyX2_ok, nmX2, gg_mem (by decide +kernel) rfl, rfl, rfl⟩
theorem fl_X5_70 : gg_F RX5 70 2 0 false .int := ⟨RX2, TX2, 11, tyX2, rfl, by decide, in_X2, tyX2_ok, nmX2, gg_mem (by decide +kernel) rfl, rfl, rfl⟩
theorem fl_X6_7 : gg_F RX6 7 5 0 true .int := ⟨RX6, TX6, 3, tyX6, rfl, by decide, in_X6, tyX6_ok, nmX6, gg_mem (by decide +kernel) rfl, rfl, rfl⟩
theorem fl_X6_15 : gg_F RX6 15 5 1 true (.array (.array .int)) := ⟨RX6, TX6, 3, tyX6, rfl, by decide, in_X6, tyX6_ok, nmX6, gg_mem (by decide +kernel) rfl, rfl, rfl⟩
theorem fl_X6_18 : gg_F RX6 18 5 2 true (.array .int) := ⟨RX6, TX6, 3, tyX6, rfl, by decide, in_X6, tyX6_ok, nmX6, gg_mem (by decide +kernel) rfl, rfl, rfl⟩
theorem fl_X7_9 : gg_F RX7 9 6 0 true (.array .int) := ⟨RX7, TX7, 5, tyX7, rfl, by decide, in_X7, tyX7_ok, nmX7, gg_mem (by decide +kernel) rfl, rfl, rfl⟩
theorem fl_X7_15 : gg_F RX7 15 6 1 true (.array .int) := ⟨RX7, TX7, 5, tyX7, rfl, by decide, in_X7, tyX7_ok, nmX7, gg_mem (by decide +kernel) rfl, rfl, rfl⟩
theorem fl_X7_18 : gg_F RX7 18 6 2 true (.array .int) := ⟨RX7, TX7, 5, tyX7, rfl, by decide, in_X7, tyX7_ok, nmX7, gg_mem (by decide +kernel) rfl, rfl, rfl⟩
theorem fl_X7_21 : gg_F RX7 21 6 3 false .int := ⟨RX7, TX7, 5, tyX7, rfl, by decide, in_X7, tyX7_ok, nmX7, gg_mem (by decide +kernel) rfl, rfl, rfl⟩
theorem fl_X7_25 : gg_F RX7 25 6 4 false .int := ⟨RX7, TX7, 5, tyX7, rfl, by decide, in_X7, tyX7_ok, nmX7, gg_mem (by decide +kernel) rfl, rfl, rfl⟩
theorem fl_X7_49 : gg_F RX7 49 2 0 false .int := ⟨RX2, TX2, 11, tyX2, rfl, by decide, in_X2, tyX2_ok, nmX2, gg_mem (by decide +kernel) rfl, rfl, rfl⟩
theorem fl_X7_58 : gg_F RX7 58 2 4 true (.array .int) := ⟨RX2, TX2, 11, tyX2, rfl, by decide, in_X2, tyX2_ok, nmX2, gg_mem (by decide +kernel) rfl, rfl, rfl⟩
theorem fl_X7_70 : gg_F RX7 70 2 6 true (.array .int) := ⟨RX2, TX2, 11, tyX2, rfl, by decide, in_X2, tyX2_ok, nmX2, gg_mem (by decide +kernel) rfl, rfl, rfl⟩
theorem fl_X8_14 : gg_F RX8 14 7 0 true (.object "HutFlock$Shelf") := ⟨RX8, TX8, 16, tyX8, rfl, by decide, in_X8, tyX8_ok, nmX8, gg_mem (by decide +kernel) rfl, rfl, rfl⟩
theorem fl_X8_18 : gg_F RX8 18 7 1 true (.object "HutFlock$Shelf") := ⟨RX8, TX8, 16, tyX8, rfl, by decide, in_X8, tyX8_ok, nmX8, gg_mem (by decide +kernel) rfl, rfl, rfl⟩
theorem fl_X8_24 : gg_F RX8 24 7 2 true (.object "HutFlock$Reader") := ⟨RX8, TX8, 16, tyX8, rfl, by decide, in_X8, tyX8_ok, nmX8, gg_mem (by decide +kernel) rfl, rfl, rfl⟩
theorem fl_X8_31 : gg_F RX8 31 7 3 true (.object "HutFlock$Flock") := ⟨RX8, TX8, 16, tyX8, rfl, by decide, in_X8, tyX8_ok, nmX8, gg_mem (by decide +kernel) rfl, rfl, rfl⟩
theorem fl_X8_35 : gg_F RX8 35 7 4 true (.object "HutFlock$Flock") := ⟨RX8, TX8, 16, tyX8, rfl, by decide, in_X8, tyX8_ok, nmX8, gg_mem (by decide +kernel) rfl, rfl, rfl⟩
theorem fl_X8_38 : gg_F RX8 38 7 5 true (.object "HutFlock$Flock") := ⟨RX8, TX8, 16, tyX8, rfl, by decide, in_X8, tyX8_ok, nmX8, gg_mem (by decide +kernel) rfl, rfl, rfl⟩
theorem fl_X8_46 : gg_F RX8 46 7 6 true (.object "HutFlock$Log") := ⟨RX8, TX8, 16, tyX8, rfl, by decide, in_X8, tyX8_ok, nmX8, gg_mem (by decide +kernel) rfl, rfl, rfl⟩
theorem fl_X8_50 : gg_F RX8 50 7 7 true (.array (.object "HutFlock$Log")) := ⟨RX8, TX8, 16, tyX8, rfl, by decide, in_X8, tyX8_ok, nmX8, gg_mem (by decide +kernel) rfl, rfl, rfl⟩
theorem fl_X8_57 : gg_F RX8 57 7 8 true (.object "HutFlock$Vee") := ⟨RX8, TX8, 16, tyX8, rfl, by decide, in_X8, tyX8_ok, nmX8, gg_mem (by decide +kernel) rfl, rfl, rfl⟩
theorem fl_X8_64 : gg_F RX8 64 7 9 true (.object "HutFlock$Bricks") := ⟨RX8, TX8, 16, tyX8, rfl, by decide, in_X8, tyX8_ok, nmX8, gg_mem (by decide +kernel) rfl, rfl, rfl⟩
theorem fl_X8_71 : gg_F RX8 71 7 10 true (.object "HutFlock$Flights") := ⟨RX8, TX8, 16, tyX8, rfl, by decide, in_X8, tyX8_ok, nmX8, gg_mem (by decide +kernel) rfl, rfl, rfl⟩
theorem fl_X8_75 : gg_F RX8 75 7 11 true (.array .int) := ⟨RX8, TX8, 16, tyX8, rfl, by decide, in_X8, tyX8_ok, nmX8, gg_mem (by decide +kernel) rfl, rfl, rfl⟩
theorem fl_X8_79 : gg_F RX8 79 7 12 false .int := ⟨RX8, TX8, 16, tyX8, rfl, by decide, in_X8, tyX8_ok, nmX8, gg_mem (by decide +kernel) rfl, rfl, rfl⟩
theorem fl_X8_83 : gg_F RX8 83 7 13 false .int := ⟨RX8, TX8, 16, tyX8, rfl, by decide, in_X8, tyX8_ok, nmX8, gg_mem (by decide +kernel) rfl, rfl, rfl⟩
theorem fl_X8_86 : gg_F RX8 86 7 14 false .long := ⟨RX8, TX8, 16, tyX8, rfl, by decide, in_X8, tyX8_ok, nmX8, gg_mem (by decide +kernel) rfl, rfl, rfl⟩
theorem fl_X8_90 : gg_F RX8 90 7 15 false .long := ⟨RX8, TX8, 16, tyX8, rfl, by decide, in_X8, tyX8_ok, nmX8, gg_mem (by decide +kernel) rfl, rfl, rfl⟩
theorem fl_X8_149 : gg_F RX8 149 3 0 false .int := ⟨RX4, TX4, 2, tyX4, rfl, by decide, in_X4, tyX4_ok, nmX4, gg_mem (by decide +kernel) rfl, rfl, rfl⟩
theorem fl_X8_151 : gg_F RX8 151 2 0 false .int := ⟨RX2, TX2, 11, tyX2, rfl, by decide, in_X2, tyX2_ok, nmX2, gg_mem (by decide +kernel) rfl, rfl, rfl⟩
theorem fl_X8_163 : gg_F RX8 163 2 4 true (.array .int) := ⟨RX2, TX2, 11, tyX2, rfl, by decide, in_X2, tyX2_ok, nmX2, gg_mem (by decide +kernel) rfl, rfl, rfl⟩
theorem fl_X8_202 : gg_F RX8 202 2 1 false .int := ⟨RX2, TX2, 11, tyX2, rfl, by decide, in_X2, tyX2_ok, nmX2, gg_mem (by decide +kernel) rfl, rfl, rfl⟩
theorem fl_X8_205 : gg_F RX8 205 2 6 true (.array .int) := ⟨RX2, TX2, 11, tyX2, rfl, by decide, in_X2, tyX2_ok, nmX2, gg_mem (by decide +kernel) rfl, rfl, rfl⟩
theorem fl_X8_208 : gg_F RX8 208 2 5 true (.array .int) := ⟨RX2, TX2, 11, tyX2, rfl, by decide, in_X2, tyX2_ok, nmX2, gg_mem (by decide +kernel) rfl, rfl, rfl⟩
theorem fl_X8_220 : gg_F RX8 220 2 8 true (.array .int) := ⟨RX2, TX2, 11, tyX2, rfl, by decide, in_X2, tyX2_ok, nmX2, gg_mem (by decide +kernel) rfl, rfl, rfl⟩
theorem fl_X8_226 : gg_F RX8 226 2 9 true (.array .int) := ⟨RX2, TX2, 11, tyX2, rfl, by decide, in_X2, tyX2_ok, nmX2, gg_mem (by decide +kernel) rfl, rfl, rfl⟩
theorem fl_X8_229 : gg_F RX8 229 2 10 false .int := ⟨RX2, TX2, 11, tyX2, rfl, by decide, in_X2, tyX2_ok, nmX2, gg_mem (by decide +kernel) rfl, rfl, rfl⟩
theorem fl_X8_240 : gg_F RX8 240 6 2 true (.array .int) := ⟨RX7, TX7, 5, tyX7, rfl, by decide, in_X7, tyX7_ok, nmX7, gg_mem (by decide +kernel) rfl, rfl, rfl⟩
theorem fl_X8_245 : gg_F RX8 245 0 2 true (.array .int) := ⟨RX0, TX0, 6, tyX0, rfl, by decide, in_X0, tyX0_ok, nmX0, gg_mem (by decide +kernel) rfl, rfl, rfl⟩
theorem fl_X8_246 : gg_F RX8 246 0 3 false .int := ⟨RX0, TX0, 6, tyX0, rfl, by decide, in_X0, tyX0_ok, nmX0, gg_mem (by decide +kernel) rfl, rfl, rfl⟩
theorem fl_X8_247 : gg_F RX8 247 0 5 false .int := ⟨RX0, TX0, 6, tyX0, rfl, by decide, in_X0, tyX0_ok, nmX0, gg_mem (by decide +kernel) rfl, rfl, rfl⟩
theorem fl_X8_250 : gg_F RX8 250 0 4 false .int := ⟨RX0, TX0, 6, tyX0, rfl, by decide, in_X0, tyX0_ok, nmX0, gg_mem (by decide +kernel) rfl, rfl, rfl⟩
theorem fl_X8_264 : gg_F RX8 264 1 1 false .int := ⟨RX1, TX1, 2, tyX1, rfl, by decide, in_X1, tyX1_ok, nmX1, gg_mem (by decide +kernel) rfl, rfl, rfl⟩
theorem fl_X8_301 : gg_F RX8 301 2 2 false .int := ⟨RX2, TX2, 11, tyX2, rfl, by decide, in_X2, tyX2_ok, nmX2, gg_mem (by decide +kernel) rfl, rfl, rfl⟩
theorem fl_X8_336 : gg_F RX8 336 5 0 true .int := ⟨RX6, TX6, 3, tyX6, rfl, by decide, in_X6, tyX6_ok, nmX6, gg_mem (by decide +kernel) rfl, rfl, rfl⟩
theorem fl_X8_349 : gg_F RX8 349 3 1 true (.array .int) := ⟨RX4, TX4, 2, tyX4, rfl, by decide, in_X4, tyX4_ok, nmX4, gg_mem (by decide +kernel) rfl, rfl, rfl⟩
theorem fl_X9_7 : gg_F RX9 7 8 1 true (.array .int) := ⟨RX9, TX9, 39, tyX9, rfl, by decide, in_X9, tyX9_ok, nmX9, gg_mem (by decide +kernel) rfl, rfl, rfl⟩
theorem fl_X9_13 : gg_F RX9 13 8 4 false .long := ⟨RX9, TX9, 39, tyX9, rfl, by decide, in_X9, tyX9_ok, nmX9, gg_mem (by decide +kernel) rfl, rfl, rfl⟩
theorem fl_X9_17 : gg_F RX9 17 8 5 true (.array .int) := ⟨RX9, TX9, 39, tyX9, rfl, by decide, in_X9, tyX9_ok, nmX9, gg_mem (by decide +kernel) rfl, rfl, rfl⟩
theorem fl_X9_20 : gg_F RX9 20 8 6 true (.array .int) := ⟨RX9, TX9, 39, tyX9, rfl, by decide, in_X9, tyX9_ok, nmX9, gg_mem (by decide +kernel) rfl, rfl, rfl⟩
theorem fl_X9_23 : gg_F RX9 23 8 7 true (.array .int) := ⟨RX9, TX9, 39, tyX9, rfl, by decide, in_X9, tyX9_ok, nmX9, gg_mem (by decide +kernel) rfl, rfl, rfl⟩
theorem fl_X9_26 : gg_F RX9 26 8 8 true (.array .int) := ⟨RX9, TX9, 39, tyX9, rfl, by decide, in_X9, tyX9_ok, nmX9, gg_mem (by decide +kernel) rfl, rfl, rfl⟩
theorem fl_X9_29 : gg_F RX9 29 8 9 true (.array .byte) := ⟨RX9, TX9, 39, tyX9, rfl, by decide, in_X9, tyX9_ok, nmX9, gg_mem (by decide +kernel) rfl, rfl, rfl⟩
theorem fl_X9_33 : gg_F RX9 33 8 11 true (.array .int) := ⟨RX9, TX9, 39, tyX9, rfl, by decide, in_X9, tyX9_ok, nmX9, gg_mem (by decide +kernel) rfl, rfl, rfl⟩
theorem fl_X9_36 : gg_F RX9 36 8 12 true (.array .int) := ⟨RX9, TX9, 39, tyX9, rfl, by decide, in_X9, tyX9_ok, nmX9, gg_mem (by decide +kernel) rfl, rfl, rfl⟩
theorem fl_X9_39 : gg_F RX9 39 8 13 true (.array .int) := ⟨RX9, TX9, 39, tyX9, rfl, by decide, in_X9, tyX9_ok, nmX9, gg_mem (by decide +kernel) rfl, rfl, rfl⟩
theorem fl_X9_42 : gg_F RX9 42 8 14 true (.array .int) := ⟨RX9, TX9, 39, tyX9, rfl, by decide, in_X9, tyX9_ok, nmX9, gg_mem (by decide +kernel) rfl, rfl, rfl⟩
theorem fl_X9_45 : gg_F RX9 45 8 19 true (.array .int) := ⟨RX9, TX9, 39, tyX9, rfl, by decide, in_X9, tyX9_ok, nmX9, gg_mem (by decide +kernel) rfl, rfl, rfl⟩
theorem fl_X9_48 : gg_F RX9 48 8 20 true (.array .int) := ⟨RX9, TX9, 39, tyX9, rfl, by decide, in_X9, tyX9_ok, nmX9, gg_mem (by decide +kernel) rfl, rfl, rfl⟩
theorem fl_X9_51 : gg_F RX9 51 8 21 true (.array .int) := ⟨RX9, TX9, 39, tyX9, rfl, by decide, in_X9, tyX9_ok, nmX9, gg_mem (by decide +kernel) rfl, rfl, rfl⟩
theorem fl_X9_54 : gg_F RX9 54 8 24 true (.array .int) := ⟨RX9, TX9, 39, tyX9, rfl, by decide, in_X9, tyX9_ok, nmX9, gg_mem (by decide +kernel) rfl, rfl, rfl⟩
theorem fl_X9_57 : gg_F RX9 57 8 25 true (.array .boolean) := ⟨RX9, TX9, 39, tyX9, rfl, by decide, in_X9, tyX9_ok, nmX9, gg_mem (by decide +kernel) rfl, rfl, rfl⟩
theorem fl_X9_61 : gg_F RX9 61 8 26 true (.array .int) := ⟨RX9, TX9, 39, tyX9, rfl, by decide, in_X9, tyX9_ok, nmX9, gg_mem (by decide +kernel) rfl, rfl, rfl⟩
theorem fl_X9_64 : gg_F RX9 64 8 27 true (.array .int) := ⟨RX9, TX9, 39, tyX9, rfl, by decide, in_X9, tyX9_ok, nmX9, gg_mem (by decide +kernel) rfl, rfl, rfl⟩
theorem fl_X9_67 : gg_F RX9 67 8 28 true (.array .int) := ⟨RX9, TX9, 39, tyX9, rfl, by decide, in_X9, tyX9_ok, nmX9, gg_mem (by decide +kernel) rfl, rfl, rfl⟩
theorem fl_X9_70 : gg_F RX9 70 8 29 true (.array .int) := ⟨RX9, TX9, 39, tyX9, rfl, by decide, in_X9, tyX9_ok, nmX9, gg_mem (by decide +kernel) rfl, rfl, rfl⟩
theorem fl_X9_73 : gg_F RX9 73 8 30 true (.array .int) := ⟨RX9, TX9, 39, tyX9, rfl, by decide, in_X9, tyX9_ok, nmX9, gg_mem (by decide +kernel) rfl, rfl, rfl⟩
theorem fl_X9_76 : gg_F RX9 76 8 31 true (.array .int) := ⟨RX9, TX9, 39, tyX9, rfl, by decide, in_X9, tyX9_ok, nmX9, gg_mem (by decide +kernel) rfl, rfl, rfl⟩
theorem fl_X9_79 : gg_F RX9 79 8 32 true (.array .int) := ⟨RX9, TX9, 39, tyX9, rfl, by decide, in_X9, tyX9_ok, nmX9, gg_mem (by decide +kernel) rfl, rfl, rfl⟩
theorem fl_X9_82 : gg_F RX9 82 8 33 true (.array .int) := ⟨RX9, TX9, 39, tyX9, rfl, by decide, in_X9, tyX9_ok, nmX9, gg_mem (by decide +kernel) rfl, rfl, rfl⟩
theorem fl_X9_85 : gg_F RX9 85 8 34 true (.array .int) := ⟨RX9, TX9, 39, tyX9, rfl, by decide, in_X9, tyX9_ok, nmX9, gg_mem (by decide +kernel) rfl, rfl, rfl⟩
theorem fl_X9_88 : gg_F RX9 88 8 0 false .int := ⟨RX9, TX9, 39, tyX9, rfl, by decide, in_X9, tyX9_ok, nmX9, gg_mem (by decide +kernel) rfl, rfl, rfl⟩
theorem fl_X9_96 : gg_F RX9 96 8 2 false .int := ⟨RX9, TX9, 39, tyX9, rfl, by decide, in_X9, tyX9_ok, nmX9, gg_mem (by decide +kernel) rfl, rfl, rfl⟩
theorem fl_X9_99 : gg_F RX9 99 8 3 false .long := ⟨RX9, TX9, 39, tyX9, rfl, by decide, in_X9, tyX9_ok, nmX9, gg_mem (by decide +kernel) rfl, rfl, rfl⟩
theorem fl_X9_120 : gg_F RX9 120 8 15 false .int := ⟨RX9, TX9, 39, tyX9, rfl, by decide, in_X9, tyX9_ok, nmX9, gg_mem (by decide +kernel) rfl, rfl, rfl⟩
theorem fl_X9_129 : gg_F RX9 129 8 17 false .int := ⟨RX9, TX9, 39, tyX9, rfl, by decide, in_X9, tyX9_ok, nmX9, gg_mem (by decide +kernel) rfl, rfl, rfl⟩
theorem fl_X9_132 : gg_F RX9 132 8 18 false .boolean := ⟨RX9, TX9, 39, tyX9, rfl, by decide, in_X9, tyX9_ok, nmX9, gg_mem (by decide +kernel) rfl, rfl, rfl⟩
theorem fl_X9_136 : gg_F RX9 136 8 16 false .int := ⟨RX9, TX9, 39, tyX9, rfl, by decide, in_X9, tyX9_ok, nmX9, gg_mem (by decide +kernel) rfl, rfl, rfl⟩
theorem fl_X9_154 : gg_F RX9 154 8 10 false .int := ⟨RX9, TX9, 39, tyX9, rfl, by decide, in_X9, tyX9_ok, nmX9, gg_mem (by decide +kernel) rfl, rfl, rfl⟩
theorem fl_X9_157 : gg_F RX9 157 8 23 false .int := ⟨RX9, TX9, 39, tyX9, rfl, by decide, in_X9, tyX9_ok, nmX9, gg_mem (by decide +kernel) rfl, rfl, rfl⟩
theorem fl_X9_184 : gg_F RX9 184 8 22 false .int := ⟨RX9, TX9, 39, tyX9, rfl, by decide, in_X9, tyX9_ok, nmX9, gg_mem (by decide +kernel) rfl, rfl, rfl⟩
theorem fl_X9_265 : gg_F RX9 265 8 35 false .long := ⟨RX9, TX9, 39, tyX9, rfl, by decide, in_X9, tyX9_ok, nmX9, gg_mem (by decide +kernel) rfl, rfl, rfl⟩
theorem fl_X9_268 : gg_F RX9 268 8 36 false .long := ⟨RX9, TX9, 39, tyX9, rfl, by decide, in_X9, tyX9_ok, nmX9, gg_mem (by decide +kernel) rfl, rfl, rfl⟩
theorem fl_X9_271 : gg_F RX9 271 8 37 false .long := ⟨RX9, TX9, 39, tyX9, rfl, by decide, in_X9, tyX9_ok, nmX9, gg_mem (by decide +kernel) rfl, rfl, rfl⟩
theorem fl_X9_304 : gg_F RX9 304 8 38 false .long := ⟨RX9, TX9, 39, tyX9, rfl, by decide, in_X9, tyX9_ok, nmX9, gg_mem (by decide +kernel) rfl, rfl, rfl⟩
theorem cw_J6_bitCount_0f7a4 : Cond.code yJ6_bitCount_0f7a4 cJ6_bitCount_0f7a4 1 (some .int) ∈ lw_tbl := gg_t3 _ (List.mem_of_getElem? (i := 84) rfl)
theorem cw_J9_abs_0f7a4 : Cond.code yJ9_abs_0f7a4 cJ9_abs_0f7a4 1 (some .int) ∈ lw_tbl := gg_t3 _ (List.mem_of_getElem? (i := 200) rfl)
theorem cw_J9_floorMod_7cf53 : Cond.code yJ9_floorMod_7cf53 cJ9_floorMod_7cf53 3 (some .int) ∈ lw_tbl := gg_t2 _ (List.mem_of_getElem? (i := 196) rfl)
theorem cw_J9_max_7cf53 : Cond.code yJ9_max_7cf53 cJ9_max_7cf53 2 (some .int) ∈ lw_tbl := gg_t3 _ (List.mem_of_getElem? (i := 36) rfl)
theorem cw_J9_min_7cf53 : Cond.code yJ9_min_7cf53 cJ9_min_7cf53 2 (some .int) ∈ lw_tbl := gg_t2 _ (List.mem_of_getElem? (i := 120) rfl)
theorem cw_X0_apart : Cond.code yX0_apart cX0_apart 3 (some .int) ∈ lw_tbl := gg_t3 _ (List.mem_of_getElem? (i := 197) rfl)
theorem cw_X0_begin : Cond.code yX0_begin cX0_begin 3 none ∈ lw_tbl := gg_t3 _ (List.mem_of_getElem? (i := 188) rfl)
theorem cw_X0_far : Cond.code yX0_far cX0_far 4 (some .int) ∈ lw_tbl := gg_t3 _ (List.mem_of_getElem? (i := 204) rfl)
theorem cw_X0_goOn : Cond.code yX0_goOn cX0_goOn 5 (some .boolean) ∈ lw_tbl := gg_t3 _ (List.mem_of_getElem? (i := 212) rfl)
theorem cw_X0_insert : Cond.code yX0_insert cX0_insert 3 none ∈ lw_tbl := gg_t3 _ (List.mem_of_getElem? (i := 193) rfl)
theorem cw_X0_seek : Cond.code yX0_seek cX0_seek 6 none ∈ lw_tbl := gg_t3 _ (List.mem_of_getElem? (i := 184) rfl)
theorem cw_X0_swap : Cond.code yX0_swap cX0_swap 4 none ∈ lw_tbl := gg_t3 _ (List.mem_of_getElem? (i := 216) rfl)
theorem cw_X0_takeAsBest : Cond.code yX0_takeAsBest cX0_takeAsBest 2 none ∈ lw_tbl := gg_t3 _ (List.mem_of_getElem? (i := 208) rfl)
theorem cw_X1_firstRow : Cond.code yX1_firstRow cX1_firstRow 8 (some .int) ∈ lw_tbl := gg_t4 _ (List.mem_of_getElem? (i := 22) rfl)
theorem cw_X1_firstWind : Cond.code yX1_firstWind cX1_firstWind 5 (some .int) ∈ lw_tbl := gg_t4 _ (List.mem_of_getElem? (i := 26) rfl)
theorem cw_X1_seek : Cond.code yX1_seek cX1_seek 6 (some .int) ∈ lw_tbl := gg_t4 _ (List.mem_of_getElem? (i := 9) rfl)
theorem cw_X1_waysByLast : Cond.code yX1_waysByLast cX1_waysByLast 6 (some .int) ∈ lw_tbl := gg_t4 _ (List.mem_of_getElem? (i := 13) rfl)
theorem cw_X1_waysOf : Cond.code yX1_waysOf cX1_waysOf 3 (some .int) ∈ lw_tbl := gg_t4 _ (List.mem_of_getElem? (i := 18) rfl)
theorem cw_X2_atHomeBits : Cond.code yX2_atHomeBits cX2_atHomeBits 3 (some .int) ∈ lw_tbl := gg_t4 _ (List.mem_of_getElem? (i := 104) rfl)
theorem cw_X2_beFed : Cond.code yX2_beFed cX2_beFed 2 none ∈ lw_tbl := gg_t3 _ (List.mem_of_getElem? (i := 61) rfl)
theorem cw_X2_become : Cond.code yX2_become cX2_become 3 none ∈ lw_tbl := gg_t2 _ (List.mem_of_getElem? (i := 174) rfl)
theorem cw_X2_canBeFed : Cond.code yX2_canBeFed cX2_canBeFed 2 (some .boolean) ∈ lw_tbl := gg_t3 _ (List.mem_of_getElem? (i := 65) rfl)
theorem cw_X2_changeHomes : Cond.code yX2_changeHomes cX2_changeHomes 4 none ∈ lw_tbl := gg_t3 _ (List.mem_of_getElem? (i := 69) rfl)
theorem cw_X2_clear : Cond.code yX2_clear cX2_clear 1 none ∈ lw_tbl := gg_t2 _ (List.mem_of_getElem? (i := 125) rfl)
theorem cw_X2_freeBits : Cond.code yX2_freeBits cX2_freeBits 3 (some .int) ∈ lw_tbl := gg_t3 _ (List.mem_of_getElem? (i := 57) rfl)
theorem cw_X2_go : Cond.code yX2_go cX2_go 5 none ∈ lw_tbl := gg_t3 _ (List.mem_of_getElem? (i := 40) rfl)
theorem cw_X2_hasHomeOn : Cond.code yX2_hasHomeOn cX2_hasHomeOn 3 (some .boolean) ∈ lw_tbl := gg_t2 _ (List.mem_of_getElem? (i := 162) rfl)
theorem cw_X2_hostOf : Cond.code yX2_hostOf cX2_hostOf 3 (some .int) ∈ lw_tbl := gg_t2 _ (List.mem_of_getElem? (i := 222) rfl)
theorem cw_X2_howManyGuards : Cond.code yX2_howManyGuards cX2_howManyGuards 3 (some .int) ∈ lw_tbl := gg_t4 _ (List.mem_of_getElem? (i := 108) rfl)
theorem cw_X2_howManyLessLate : Cond.code yX2_howManyLessLate cX2_howManyLessLate 4 (some .int) ∈ lw_tbl := gg_t2 _ (List.mem_of_getElem? (i := 233) rfl)
theorem cw_X2_howManyThere : Cond.code yX2_howManyThere cX2_howManyThere 1 (some .int) ∈ lw_tbl := gg_t3 _ (List.mem_of_getElem? (i := 77) rfl)
theorem cw_X2_isAheadOf : Cond.code yX2_isAheadOf cX2_isAheadOf 5 (some .boolean) ∈ lw_tbl := gg_t3 _ (List.mem_of_getElem? (i := 45) rfl)
theorem cw_X2_isThere : Cond.code yX2_isThere cX2_isThere 2 (some .boolean) ∈ lw_tbl := gg_t3 _ (List.mem_of_getElem? (i := 27) rfl)
theorem cw_X2_knows : Cond.code yX2_knows cX2_knows 2 (some .boolean) ∈ lw_tbl := gg_t2 _ (List.mem_of_getElem? (i := 182) rfl)
theorem cw_X2_land : Cond.code yX2_land cX2_land 2 none ∈ lw_tbl := gg_t3 _ (List.mem_of_getElem? (i := 49) rfl)
theorem cw_X2_leadByLuring : Cond.code yX2_leadByLuring cX2_leadByLuring 6 (some .int) ∈ lw_tbl := gg_t4 _ (List.mem_of_getElem? (i := 34) rfl)
theorem cw_X2_lose : Cond.code yX2_lose cX2_lose 2 none ∈ lw_tbl := gg_t3 _ (List.mem_of_getElem? (i := 73) rfl)
theorem cw_X2_nearestFree : Cond.code yX2_nearestFree cX2_nearestFree 4 (some .int) ∈ lw_tbl := gg_t3 _ (List.mem_of_getElem? (i := 53) rfl)
theorem cw_X2_ofHut : Cond.code yX2_ofHut cX2_ofHut 3 (some .int) ∈ lw_tbl := gg_t2 _ (List.mem_of_getElem? (i := 189) rfl)
theorem cw_X2_passWinter : Cond.code yX2_passWinter cX2_passWinter 3 none ∈ lw_tbl := gg_t3 _ (List.mem_of_getElem? (i := 23) rfl)
theorem cw_X2_passWinters : Cond.code yX2_passWinters cX2_passWinters 3 none ∈ lw_tbl := gg_t3 _ (List.mem_of_getElem? (i := 128) rfl)
theorem cw_X2_settle : Cond.code yX2_settle cX2_settle 5 none ∈ lw_tbl := gg_t2 _ (List.mem_of_getElem? (i := 166) rfl)
theorem cw_X2_stay : Cond.code yX2_stay cX2_stay 2 none ∈ lw_tbl := gg_t3 _ (List.mem_of_getElem? (i := 33) rfl)
theorem cw_X2_strengthThere : Cond.code yX2_strengthThere cX2_strengthThere 3 (some .int) ∈ lw_tbl := gg_t4 _ (List.mem_of_getElem? (i := 100) rfl)
theorem cw_X2_strongestOf : Cond.code yX2_strongestOf cX2_strongestOf 4 (some .int) ∈ lw_tbl := gg_t4 _ (List.mem_of_getElem? (i := 38) rfl)
theorem cw_X2_thereBits : Cond.code yX2_thereBits cX2_thereBits 3 (some .int) ∈ lw_tbl := gg_t3 _ (List.mem_of_getElem? (i := 81) rfl)
theorem cw_X2_wanted : Cond.code yX2_wanted cX2_wanted 2 (some .int) ∈ lw_tbl := gg_t2 _ (List.mem_of_getElem? (i := 226) rfl)
theorem cw_X2_windDue : Cond.code yX2_windDue cX2_windDue 1 (some .int) ∈ lw_tbl := gg_t2 _ (List.mem_of_getElem? (i := 193) rfl)
theorem cw_X3_byLetter : Cond.code yX3_byLetter cX3_byLetter 2 (some .int) ∈ lw_tbl := gg_t2 _ (List.mem_of_getElem? (i := 156) rfl)
theorem cw_X3_greatestPart : Cond.code yX3_greatestPart cX3_greatestPart 6 (some .int) ∈ lw_tbl := gg_t3 _ (List.mem_of_getElem? (i := 239) rfl)
theorem cw_X3_isOf : Cond.code yX3_isOf cX3_isOf 2 (some .boolean) ∈ lw_tbl := gg_t2 _ (List.mem_of_getElem? (i := 215) rfl)
theorem cw_X3_lateBy : Cond.code yX3_lateBy cX3_lateBy 1 (some .int) ∈ lw_tbl := gg_t2 _ (List.mem_of_getElem? (i := 208) rfl)
theorem cw_X3_stays : Cond.code yX3_stays cX3_stays 2 (some .boolean) ∈ lw_tbl := gg_t2 _ (List.mem_of_getElem? (i := 202) rfl)
theorem cw_X3_tiredBy : Cond.code yX3_tiredBy cX3_tiredBy 2 (some .int) ∈ lw_tbl := gg_t2 _ (List.mem_of_getElem? (i := 199) rfl)
theorem cw_X3_tiredInFlight : Cond.code yX3_tiredInFlight cX3_tiredInFlight 2 (some .int) ∈ lw_tbl := gg_t2 _ (List.mem_of_getElem? (i := 205) rfl)
theorem cw_X3_wants : Cond.code yX3_wants cX3_wants 2 (some .int) ∈ lw_tbl := gg_t2 _ (List.mem_of_getElem? (i := 229) rfl)
theorem cw_X4_add : Cond.code yX4_add cX4_add 2 none ∈ lw_tbl := gg_t3 _ (List.mem_of_getElem? (i := 16) rfl)
theorem cw_X4_become : Cond.code yX4_become cX4_become 3 none ∈ lw_tbl := gg_t3 _ (List.mem_of_getElem? (i := 116) rfl)
theorem cw_X4_code : Cond.code yX4_code cX4_code 3 (some .int) ∈ lw_tbl := gg_t3 _ (List.mem_of_getElem? (i := 8) rfl)
theorem cw_X4_doTo : Cond.code yX4_doTo cX4_doTo 3 none ∈ lw_tbl := gg_t3 _ (List.mem_of_getElem? (i := 19) rfl)
theorem cw_X4_lacks : Cond.code yX4_lacks cX4_lacks 2 (some .boolean) ∈ lw_tbl := gg_t3 _ (List.mem_of_getElem? (i := 5) rfl)
theorem cw_X5_read : Cond.code yX5_read cX5_read 5 (some .int) ∈ lw_tbl := gg_t2 _ (List.mem_of_getElem? (i := 116) rfl)
theorem cw_X5_readFigure : Cond.code yX5_readFigure cX5_readFigure 2 (some .int) ∈ lw_tbl := gg_t2 _ (List.mem_of_getElem? (i := 141) rfl)
theorem cw_X5_readFood : Cond.code yX5_readFood cX5_readFood 4 (some .boolean) ∈ lw_tbl := gg_t2 _ (List.mem_of_getElem? (i := 145) rfl)
theorem cw_X5_readHead : Cond.code yX5_readHead cX5_readHead 4 (some .boolean) ∈ lw_tbl := gg_t2 _ (List.mem_of_getElem? (i := 129) rfl)
theorem cw_X5_readHut : Cond.code yX5_readHut cX5_readHut 6 (some .boolean) ∈ lw_tbl := gg_t2 _ (List.mem_of_getElem? (i := 153) rfl)
theorem cw_X5_readHuts : Cond.code yX5_readHuts cX5_readHuts 3 (some .boolean) ∈ lw_tbl := gg_t2 _ (List.mem_of_getElem? (i := 149) rfl)
theorem cw_X5_sign : Cond.code yX5_sign cX5_sign 1 (some .int) ∈ lw_tbl := gg_t2 _ (List.mem_of_getElem? (i := 137) rfl)
theorem cw_X5_skipBlanks : Cond.code yX5_skipBlanks cX5_skipBlanks 1 none ∈ lw_tbl := gg_t2 _ (List.mem_of_getElem? (i := 133) rfl)
theorem cw_X6_digestOnto : Cond.code yX6_digestOnto cX6_digestOnto 5 (some .long) ∈ lw_tbl := gg_t4 _ (List.mem_of_getElem? (i := 136) rfl)
theorem cw_X6_drop : Cond.code yX6_drop cX6_drop 2 none ∈ lw_tbl := gg_t2 _ (List.mem_of_getElem? (i := 69) rfl)
theorem cw_X6_get : Cond.code yX6_get cX6_get 3 (some .int) ∈ lw_tbl := gg_t2 _ (List.mem_of_getElem? (i := 52) rfl)
theorem cw_X6_has : Cond.code yX6_has cX6_has 2 (some .boolean) ∈ lw_tbl := gg_t2 _ (List.mem_of_getElem? (i := 44) rfl)
theorem cw_X6_holds : Cond.code yX6_holds cX6_holds 3 (some .boolean) ∈ lw_tbl := gg_t2 _ (List.mem_of_getElem? (i := 48) rfl)
theorem cw_X6_holdsRun : Cond.code yX6_holdsRun cX6_holdsRun 4 (some .boolean) ∈ lw_tbl := gg_t2 _ (List.mem_of_getElem? (i := 77) rfl)
theorem cw_X6_howMany : Cond.code yX6_howMany cX6_howMany 3 (some .int) ∈ lw_tbl := gg_t4 _ (List.mem_of_getElem? (i := 113) rfl)
theorem cw_X6_knows : Cond.code yX6_knows cX6_knows 2 (some .boolean) ∈ lw_tbl := gg_t2 _ (List.mem_of_getElem? (i := 19) rfl)
theorem cw_X6_make : Cond.code yX6_make cX6_make 4 none ∈ lw_tbl := gg_t2 _ (List.mem_of_getElem? (i := 27) rfl)
theorem cw_X6_move : Cond.code yX6_move cX6_move 6 none ∈ lw_tbl := gg_t2 _ (List.mem_of_getElem? (i := 82) rfl)
theorem cw_X6_set : Cond.code yX6_set cX6_set 4 none ∈ lw_tbl := gg_t2 _ (List.mem_of_getElem? (i := 57) rfl)
theorem cw_X6_size : Cond.code yX6_size cX6_size 2 (some .int) ∈ lw_tbl := gg_t2 _ (List.mem_of_getElem? (i := 94) rfl)
theorem cw_X6_sum : Cond.code yX6_sum cX6_sum 5 (some .long) ∈ lw_tbl := gg_t2 _ (List.mem_of_getElem? (i := 98) rfl)
theorem cw_X6_write : Cond.code yX6_write cX6_write 5 none ∈ lw_tbl := gg_t3 _ (List.mem_of_getElem? (i := 142) rfl)
theorem cw_X7_begin : Cond.code yX7_begin cX7_begin 4 none ∈ lw_tbl := gg_t3 _ (List.mem_of_getElem? (i := 160) rfl)
theorem cw_X7_goOn : Cond.code yX7_goOn cX7_goOn 4 (some .boolean) ∈ lw_tbl := gg_t3 _ (List.mem_of_getElem? (i := 176) rfl)
theorem cw_X7_leastStrength : Cond.code yX7_leastStrength cX7_leastStrength 7 (some .int) ∈ lw_tbl := gg_t3 _ (List.mem_of_getElem? (i := 170) rfl)
theorem cw_X7_seek : Cond.code yX7_seek cX7_seek 7 (some .int) ∈ lw_tbl := gg_t3 _ (List.mem_of_getElem? (i := 156) rfl)
theorem cw_X7_takeAsBest : Cond.code yX7_takeAsBest cX7_takeAsBest 2 none ∈ lw_tbl := gg_t3 _ (List.mem_of_getElem? (i := 166) rfl)
theorem cw_X8_act : Cond.code yX8_act cX8_act 2 none ∈ lw_tbl := gg_t3 _ (List.mem_of_getElem? (i := 12) rfl)
theorem cw_X8_asked : Cond.code yX8_asked cX8_asked 1 (some .int) ∈ lw_tbl := gg_t4 _ (List.mem_of_getElem? (i := 84) rfl)
theorem cw_X8_at : Cond.code yX8_at cX8_at 4 (some .int) ∈ lw_tbl := gg_t2 _ (List.mem_of_getElem? (i := 61) rfl)
theorem cw_X8_codeByLot : Cond.code yX8_codeByLot cX8_codeByLot 4 (some .int) ∈ lw_tbl := gg_t4 _ (List.mem_of_getElem? (i := 77) rfl)
theorem cw_X8_copy : Cond.code yX8_copy cX8_copy 6 (some .int) ∈ lw_tbl := gg_t2 _ (List.mem_of_getElem? (i := 73) rfl)
theorem cw_X8_count : Cond.code yX8_count cX8_count 2 (some .int) ∈ lw_tbl := gg_t4 _ (List.mem_of_getElem? (i := 96) rfl)
theorem cw_X8_digest : Cond.code yX8_digest cX8_digest 5 (some .long) ∈ lw_tbl := gg_t4 _ (List.mem_of_getElem? (i := 129) rfl)
theorem cw_X8_doAnew : Cond.code yX8_doAnew cX8_doAnew 2 none ∈ lw_tbl := gg_t3 _ (List.mem_of_getElem? (i := 108) rfl)
theorem cw_X8_duel : Cond.code yX8_duel cX8_duel 2 (some .int) ∈ lw_tbl := gg_t4 _ (List.mem_of_getElem? (i := 30) rfl)
theorem cw_X8_fault : Cond.code yX8_fault cX8_fault 3 (some .int) ∈ lw_tbl := gg_t2 _ (List.mem_of_getElem? (i := 112) rfl)
theorem cw_X8_feed : Cond.code yX8_feed cX8_feed 2 (some .int) ∈ lw_tbl := gg_t3 _ (List.mem_of_getElem? (i := 91) rfl)
theorem cw_X8_find : Cond.code yX8_find cX8_find 2 (some .int) ∈ lw_tbl := gg_t2 _ (List.mem_of_getElem? (i := 23) rfl)
theorem cw_X8_finding : Cond.code yX8_finding cX8_finding 1 (some .int) ∈ lw_tbl := gg_t4 _ (List.mem_of_getElem? (i := 121) rfl)
theorem cw_X8_findings : Cond.code yX8_findings cX8_findings 2 (some .int) ∈ lw_tbl := gg_t4 _ (List.mem_of_getElem? (i := 125) rfl)
theorem cw_X8_fits : Cond.code yX8_fits cX8_fits 4 (some .boolean) ∈ lw_tbl := gg_t3 _ (List.mem_of_getElem? (i := 232) rfl)
theorem cw_X8_flown : Cond.code yX8_flown cX8_flown 5 (some .int) ∈ lw_tbl := gg_t4 _ (List.mem_of_getElem? (i := 5) rfl)
theorem cw_X8_front : Cond.code yX8_front cX8_front 4 (some .int) ∈ lw_tbl := gg_t2 _ (List.mem_of_getElem? (i := 170) rfl)
theorem cw_X8_greatestDivisor : Cond.code yX8_greatestDivisor cX8_greatestDivisor 7 (some .long) ∈ lw_tbl := gg_t4 _ (List.mem_of_getElem? (i := 61) rfl)
theorem cw_X8_howManyKept : Cond.code yX8_howManyKept cX8_howManyKept 3 (some .int) ∈ lw_tbl := gg_t4 _ (List.mem_of_getElem? (i := 117) rfl)
theorem cw_X8_hut : Cond.code yX8_hut cX8_hut 3 (some .int) ∈ lw_tbl := gg_t2 _ (List.mem_of_getElem? (i := 178) rfl)
theorem cw_X8_isPartOf : Cond.code yX8_isPartOf cX8_isPartOf 2 (some .boolean) ∈ lw_tbl := gg_t4 _ (List.mem_of_getElem? (i := 50) rfl)
theorem cw_X8_keep : Cond.code yX8_keep cX8_keep 2 (some .int) ∈ lw_tbl := gg_t3 _ (List.mem_of_getElem? (i := 112) rfl)
theorem cw_X8_kinds : Cond.code yX8_kinds cX8_kinds 4 (some .int) ∈ lw_tbl := gg_t3 _ (List.mem_of_getElem? (i := 220) rfl)
theorem cw_X8_kindsBy : Cond.code yX8_kindsBy cX8_kindsBy 4 (some .int) ∈ lw_tbl := gg_t3 _ (List.mem_of_getElem? (i := 228) rfl)
theorem cw_X8_lay : Cond.code yX8_lay cX8_lay 5 (some .int) ∈ lw_tbl := gg_t2 _ (List.mem_of_getElem? (i := 32) rfl)
theorem cw_X8_least : Cond.code yX8_least cX8_least 4 (some .int) ∈ lw_tbl := gg_t3 _ (List.mem_of_getElem? (i := 148) rfl)
theorem cw_X8_lost : Cond.code yX8_lost cX8_lost 3 (some .int) ∈ lw_tbl := gg_t3 _ (List.mem_of_getElem? (i := 133) rfl)
theorem cw_X8_lots : Cond.code yX8_lots cX8_lots 6 (some .int) ∈ lw_tbl := gg_t4 _ (List.mem_of_getElem? (i := 70) rfl)
theorem cw_X8_lower : Cond.code yX8_lower cX8_lower 1 (some .long) ∈ lw_tbl := gg_t4 _ (List.mem_of_getElem? (i := 92) rfl)
theorem cw_X8_makeOn : Cond.code yX8_makeOn cX8_makeOn 4 (some .int) ∈ lw_tbl := gg_t2 _ (List.mem_of_getElem? (i := 15) rfl)
theorem cw_X8_mark : Cond.code yX8_mark cX8_mark 5 (some .int) ∈ lw_tbl := gg_t2 _ (List.mem_of_getElem? (i := 212) rfl)
theorem cw_X8_mean : Cond.code yX8_mean cX8_mean 4 (some .int) ∈ lw_tbl := gg_t2 _ (List.mem_of_getElem? (i := 90) rfl)
theorem cw_X8_mid : Cond.code yX8_mid cX8_mid 7 (some .int) ∈ lw_tbl := gg_t4 _ (List.mem_of_getElem? (i := 65) rfl)
theorem cw_X8_odds : Cond.code yX8_odds cX8_odds 7 (some .int) ∈ lw_tbl := gg_t4 _ (List.mem_of_getElem? (i := 42) rfl)
theorem cw_X8_on : Cond.code yX8_on cX8_on 2 (some .int) ∈ lw_tbl := gg_t3 _ (List.mem_of_getElem? (i := 120) rfl)
theorem cw_X8_order : Cond.code yX8_order cX8_order 2 (some .int) ∈ lw_tbl := gg_t3 _ (List.mem_of_getElem? (i := 138) rfl)
theorem cw_X8_pairs : Cond.code yX8_pairs cX8_pairs 2 (some .int) ∈ lw_tbl := gg_t3 _ (List.mem_of_getElem? (i := 180) rfl)
theorem cw_X8_put : Cond.code yX8_put cX8_put 6 (some .int) ∈ lw_tbl := gg_t2 _ (List.mem_of_getElem? (i := 108) rfl)
theorem cw_X8_refusedMissing : Cond.code yX8_refusedMissing cX8_refusedMissing 3 (some .int) ∈ lw_tbl := gg_t2 _ (List.mem_of_getElem? (i := 40) rfl)
theorem cw_X8_refusedPlace : Cond.code yX8_refusedPlace cX8_refusedPlace 5 (some .int) ∈ lw_tbl := gg_t2 _ (List.mem_of_getElem? (i := 36) rfl)
theorem cw_X8_refusedSigns : Cond.code yX8_refusedSigns cX8_refusedSigns 5 (some .int) ∈ lw_tbl := gg_t3 _ (List.mem_of_getElem? (i := 224) rfl)
theorem cw_X8_row : Cond.code yX8_row cX8_row 3 (some .int) ∈ lw_tbl := gg_t2 _ (List.mem_of_getElem? (i := 11) rfl)
theorem cw_X8_sell : Cond.code yX8_sell cX8_sell 3 (some .int) ∈ lw_tbl := gg_t3 _ (List.mem_of_getElem? (i := 96) rfl)
theorem cw_X8_storm : Cond.code yX8_storm cX8_storm 2 (some .int) ∈ lw_tbl := gg_t3 _ (List.mem_of_getElem? (i := 100) rfl)
theorem cw_X8_tear : Cond.code yX8_tear cX8_tear 3 (some .int) ∈ lw_tbl := gg_t2 _ (List.mem_of_getElem? (i := 65) rfl)
theorem cw_X8_tell : Cond.code yX8_tell cX8_tell 7 none ∈ lw_tbl := gg_t4 _ (List.mem_of_getElem? (i := 58) rfl)
theorem cw_X8_test : Cond.code yX8_test cX8_test 9 (some .int) ∈ lw_tbl := gg_t3 _ (List.mem_of_getElem? (i := 236) rfl)
theorem cw_X8_text : Cond.code yX8_text cX8_text 5 (some .int) ∈ lw_tbl := gg_t2 _ (List.mem_of_getElem? (i := 104) rfl)
theorem cw_X8_then : Cond.code yX8_then cX8_then 3 (some .int) ∈ lw_tbl := gg_t3 _ (List.mem_of_getElem? (i := 124) rfl)
theorem cw_X8_thereBehindWinter : Cond.code yX8_thereBehindWinter cX8_thereBehindWinter 1 (some .int) ∈ lw_tbl := gg_t4 _ (List.mem_of_getElem? (i := 46) rfl)
theorem cw_X8_tires : Cond.code yX8_tires cX8_tires 4 (some .int) ∈ lw_tbl := gg_t2 _ (List.mem_of_getElem? (i := 237) rfl)
theorem cw_X8_undo : Cond.code yX8_undo cX8_undo 3 (some .int) ∈ lw_tbl := gg_t3 _ (List.mem_of_getElem? (i := 104) rfl)
theorem cw_X8_upper : Cond.code yX8_upper cX8_upper 1 (some .long) ∈ lw_tbl := gg_t4 _ (List.mem_of_getElem? (i := 88) rfl)
theorem cw_X8_vee : Cond.code yX8_vee cX8_vee 4 (some .int) ∈ lw_tbl := gg_t3 _ (List.mem_of_getElem? (i := 152) rfl)
theorem cw_X8_weight : Cond.code yX8_weight cX8_weight 6 (some .long) ∈ lw_tbl := gg_t4 _ (List.mem_of_getElem? (i := 54) rfl)
theorem cw_X8_winter : Cond.code yX8_winter cX8_winter 1 (some .int) ∈ lw_tbl := gg_t3 _ (List.mem_of_getElem? (i := 1) rfl)
theorem cw_X8_within : Cond.code yX8_within cX8_within 3 (some .boolean) ∈ lw_tbl := gg_t2 _ (List.mem_of_getElem? (i := 185) rfl)
theorem cw_X9_alike : Cond.code yX9_alike cX9_alike 6 (some .int) ∈ lw_tbl := gg_t6 _ (List.mem_of_getElem? (i := 72) rfl)
theorem cw_X9_apart : Cond.code yX9_apart cX9_apart 2 (some .int) ∈ lw_tbl := gg_t5 _ (List.mem_of_getElem? (i := 204) rfl)
theorem cw_X9_asked : Cond.code yX9_asked cX9_asked 1 (some .int) ∈ lw_tbl := gg_t5 _ (List.mem_of_getElem? (i := 38) rfl)
theorem cw_X9_at : Cond.code yX9_at cX9_at 3 (some .int) ∈ lw_tbl := gg_t5 _ (List.mem_of_getElem? (i := 73) rfl)
theorem cw_X9_atBrick : Cond.code yX9_atBrick cX9_atBrick 4 (some .int) ∈ lw_tbl := gg_t5 _ (List.mem_of_getElem? (i := 168) rfl)
theorem cw_X9_bits : Cond.code yX9_bits cX9_bits 3 (some .int) ∈ lw_tbl := gg_t5 _ (List.mem_of_getElem? (i := 211) rfl)
theorem cw_X9_byteAt : Cond.code yX9_byteAt cX9_byteAt 3 (some .int) ∈ lw_tbl := gg_t5 _ (List.mem_of_getElem? (i := 108) rfl)
theorem cw_X9_copy : Cond.code yX9_copy cX9_copy 7 (some .int) ∈ lw_tbl := gg_t5 _ (List.mem_of_getElem? (i := 81) rfl)
theorem cw_X9_copyNow : Cond.code yX9_copyNow cX9_copyNow 2 none ∈ lw_tbl := gg_t6 _ (List.mem_of_getElem? (i := 7) rfl)
theorem cw_X9_count : Cond.code yX9_count cX9_count 2 (some .int) ∈ lw_tbl := gg_t6 _ (List.mem_of_getElem? (i := 114) rfl)
theorem cw_X9_counted : Cond.code yX9_counted cX9_counted 4 (some .int) ∈ lw_tbl := gg_t6 _ (List.mem_of_getElem? (i := 118) rfl)
theorem cw_X9_digest : Cond.code yX9_digest cX9_digest 3 (some .long) ∈ lw_tbl := gg_t6 _ (List.mem_of_getElem? (i := 130) rfl)
theorem cw_X9_duel : Cond.code yX9_duel cX9_duel 4 (some .int) ∈ lw_tbl := gg_t6 _ (List.mem_of_getElem? (i := 80) rfl)
theorem cw_X9_fault : Cond.code yX9_fault cX9_fault 2 (some .int) ∈ lw_tbl := gg_t5 _ (List.mem_of_getElem? (i := 100) rfl)
theorem cw_X9_faultOf : Cond.code yX9_faultOf cX9_faultOf 2 (some .int) ∈ lw_tbl := gg_t5 _ (List.mem_of_getElem? (i := 104) rfl)
theorem cw_X9_fed : Cond.code yX9_fed cX9_fed 2 none ∈ lw_tbl := gg_t5 _ (List.mem_of_getElem? (i := 219) rfl)
theorem cw_X9_feed : Cond.code yX9_feed cX9_feed 2 (some .int) ∈ lw_tbl := gg_t5 _ (List.mem_of_getElem? (i := 215) rfl)
theorem cw_X9_figure : Cond.code yX9_figure cX9_figure 3 (some .int) ∈ lw_tbl := gg_t5 _ (List.mem_of_getElem? (i := 119) rfl)
theorem cw_X9_finding : Cond.code yX9_finding cX9_finding 1 (some .int) ∈ lw_tbl := gg_t5 _ (List.mem_of_getElem? (i := 27) rfl)
theorem cw_X9_findings : Cond.code yX9_findings cX9_findings 2 (some .int) ∈ lw_tbl := gg_t5 _ (List.mem_of_getElem? (i := 31) rfl)
theorem cw_X9_flown : Cond.code yX9_flown cX9_flown 11 (some .int) ∈ lw_tbl := gg_t6 _ (List.mem_of_getElem? (i := 76) rfl)
theorem cw_X9_flying : Cond.code yX9_flying cX9_flying 2 (some .int) ∈ lw_tbl := gg_t6 _ (List.mem_of_getElem? (i := 37) rfl)
theorem cw_X9_fraction : Cond.code yX9_fraction cX9_fraction 11 (some .int) ∈ lw_tbl := gg_t6 _ (List.mem_of_getElem? (i := 97) rfl)
theorem cw_X9_front : Cond.code yX9_front cX9_front 3 (some .int) ∈ lw_tbl := gg_t5 _ (List.mem_of_getElem? (i := 131) rfl)
theorem cw_X9_has : Cond.code yX9_has cX9_has 2 (some .boolean) ∈ lw_tbl := gg_t5 _ (List.mem_of_getElem? (i := 194) rfl)
theorem cw_X9_homeOf : Cond.code yX9_homeOf cX9_homeOf 3 (some .int) ∈ lw_tbl := gg_t6 _ (List.mem_of_getElem? (i := 126) rfl)
theorem cw_X9_homesApart : Cond.code yX9_homesApart cX9_homesApart 3 (some .int) ∈ lw_tbl := gg_t6 _ (List.mem_of_getElem? (i := 53) rfl)
theorem cw_X9_hut : Cond.code yX9_hut cX9_hut 3 (some .int) ∈ lw_tbl := gg_t5 _ (List.mem_of_getElem? (i := 135) rfl)
theorem cw_X9_hutTells : Cond.code yX9_hutTells cX9_hutTells 3 (some .int) ∈ lw_tbl := gg_t5 _ (List.mem_of_getElem? (i := 143) rfl)
theorem cw_X9_in : Cond.code yX9_in cX9_in 3 (some .boolean) ∈ lw_tbl := gg_t5 _ (List.mem_of_getElem? (i := 34) rfl)
theorem cw_X9_isHut : Cond.code yX9_isHut cX9_isHut 2 (some .boolean) ∈ lw_tbl := gg_t5 _ (List.mem_of_getElem? (i := 139) rfl)
theorem cw_X9_isPut : Cond.code yX9_isPut cX9_isPut 6 (some .boolean) ∈ lw_tbl := gg_t6 _ (List.mem_of_getElem? (i := 45) rfl)
theorem cw_X9_isRow : Cond.code yX9_isRow cX9_isRow 1 (some .boolean) ∈ lw_tbl := gg_t5 _ (List.mem_of_getElem? (i := 53) rfl)
theorem cw_X9_isSooner : Cond.code yX9_isSooner cX9_isSooner 6 (some .boolean) ∈ lw_tbl := gg_t5 _ (List.mem_of_getElem? (i := 198) rfl)
theorem cw_X9_isText : Cond.code yX9_isText cX9_isText 1 (some .boolean) ∈ lw_tbl := gg_t5 _ (List.mem_of_getElem? (i := 92) rfl)
theorem cw_X9_isThere : Cond.code yX9_isThere cX9_isThere 2 (some .boolean) ∈ lw_tbl := gg_t5 _ (List.mem_of_getElem? (i := 191) rfl)
theorem cw_X9_isTold : Cond.code yX9_isTold cX9_isTold 4 (some .boolean) ∈ lw_tbl := gg_t5 _ (List.mem_of_getElem? (i := 123) rfl)
theorem cw_X9_keep : Cond.code yX9_keep cX9_keep 3 (some .int) ∈ lw_tbl := gg_t5 _ (List.mem_of_getElem? (i := 235) rfl)
theorem cw_X9_kindBy : Cond.code yX9_kindBy cX9_kindBy 1 (some .int) ∈ lw_tbl := gg_t5 _ (List.mem_of_getElem? (i := 115) rfl)
theorem cw_X9_kindSet : Cond.code yX9_kindSet cX9_kindSet 6 (some .int) ∈ lw_tbl := gg_t6 _ (List.mem_of_getElem? (i := 65) rfl)
theorem cw_X9_kinds : Cond.code yX9_kinds cX9_kinds 4 (some .int) ∈ lw_tbl := gg_t6 _ (List.mem_of_getElem? (i := 57) rfl)
theorem cw_X9_landing : Cond.code yX9_landing cX9_landing 5 (some .int) ∈ lw_tbl := gg_t5 _ (List.mem_of_getElem? (i := 201) rfl)
theorem cw_X9_lateBy : Cond.code yX9_lateBy cX9_lateBy 1 (some .int) ∈ lw_tbl := gg_t5 _ (List.mem_of_getElem? (i := 153) rfl)
theorem cw_X9_lay : Cond.code yX9_lay cX9_lay 5 (some .int) ∈ lw_tbl := gg_t5 _ (List.mem_of_getElem? (i := 61) rfl)
theorem cw_X9_layParts : Cond.code yX9_layParts cX9_layParts 9 none ∈ lw_tbl := gg_t6 _ (List.mem_of_getElem? (i := 92) rfl)
theorem cw_X9_least : Cond.code yX9_least cX9_least 6 (some .int) ∈ lw_tbl := gg_t6 _ (List.mem_of_getElem? (i := 23) rfl)
theorem cw_X9_lessLate : Cond.code yX9_lessLate cX9_lessLate 4 (some .int) ∈ lw_tbl := gg_t5 _ (List.mem_of_getElem? (i := 172) rfl)
theorem cw_X9_lost : Cond.code yX9_lost cX9_lost 3 (some .int) ∈ lw_tbl := gg_t6 _ (List.mem_of_getElem? (i := 11) rfl)
theorem cw_X9_lots : Cond.code yX9_lots cX9_lots 8 (some .int) ∈ lw_tbl := gg_t6 _ (List.mem_of_getElem? (i := 105) rfl)
theorem cw_X9_lower : Cond.code yX9_lower cX9_lower 1 (some .long) ∈ lw_tbl := gg_t5 _ (List.mem_of_getElem? (i := 46) rfl)
theorem cw_X9_lured : Cond.code yX9_lured cX9_lured 8 (some .int) ∈ lw_tbl := gg_t6 _ (List.mem_of_getElem? (i := 84) rfl)
theorem cw_X9_mark : Cond.code yX9_mark cX9_mark 5 (some .int) ∈ lw_tbl := gg_t5 _ (List.mem_of_getElem? (i := 157) rfl)
theorem cw_X9_mean : Cond.code yX9_mean cX9_mean 5 (some .int) ∈ lw_tbl := gg_t5 _ (List.mem_of_getElem? (i := 85) rfl)
theorem cw_X9_meets : Cond.code yX9_meets cX9_meets 2 (some .int) ∈ lw_tbl := gg_t5 _ (List.mem_of_getElem? (i := 57) rfl)
theorem cw_X9_mid : Cond.code yX9_mid cX9_mid 3 (some .int) ∈ lw_tbl := gg_t6 _ (List.mem_of_getElem? (i := 101) rfl)
theorem cw_X9_mix : Cond.code yX9_mix cX9_mix 3 none ∈ lw_tbl := gg_t6 _ (List.mem_of_getElem? (i := 135) rfl)
theorem cw_X9_mixFront : Cond.code yX9_mixFront cX9_mixFront 3 none ∈ lw_tbl := gg_t6 _ (List.mem_of_getElem? (i := 140) rfl)
theorem cw_X9_need : Cond.code yX9_need cX9_need 2 (some .int) ∈ lw_tbl := gg_t6 _ (List.mem_of_getElem? (i := 19) rfl)
theorem cw_X9_needPairs : Cond.code yX9_needPairs cX9_needPairs 5 (some .int) ∈ lw_tbl := gg_t6 _ (List.mem_of_getElem? (i := 61) rfl)
theorem cw_X9_odds : Cond.code yX9_odds cX9_odds 4 (some .int) ∈ lw_tbl := gg_t6 _ (List.mem_of_getElem? (i := 88) rfl)
theorem cw_X9_on : Cond.code yX9_on cX9_on 3 (some .int) ∈ lw_tbl := gg_t5 _ (List.mem_of_getElem? (i := 239) rfl)
theorem cw_X9_order : Cond.code yX9_order cX9_order 4 (some .int) ∈ lw_tbl := gg_t6 _ (List.mem_of_getElem? (i := 15) rfl)
theorem cw_X9_pairs : Cond.code yX9_pairs cX9_pairs 10 (some .int) ∈ lw_tbl := gg_t6 _ (List.mem_of_getElem? (i := 41) rfl)
theorem cw_X9_pairsApart : Cond.code yX9_pairsApart cX9_pairsApart 3 (some .int) ∈ lw_tbl := gg_t6 _ (List.mem_of_getElem? (i := 49) rfl)
theorem cw_X9_passes : Cond.code yX9_passes cX9_passes 8 none ∈ lw_tbl := gg_t5 _ (List.mem_of_getElem? (i := 188) rfl)
theorem cw_X9_put : Cond.code yX9_put cX9_put 5 (some .int) ∈ lw_tbl := gg_t5 _ (List.mem_of_getElem? (i := 96) rfl)
theorem cw_X9_readsHead : Cond.code yX9_readsHead cX9_readsHead 5 (some .boolean) ∈ lw_tbl := gg_t5 _ (List.mem_of_getElem? (i := 127) rfl)
theorem cw_X9_readsHut : Cond.code yX9_readsHut cX9_readsHut 7 (some .boolean) ∈ lw_tbl := gg_t5 _ (List.mem_of_getElem? (i := 112) rfl)
theorem cw_X9_remember : Cond.code yX9_remember cX9_remember 2 none ∈ lw_tbl := gg_t5 _ (List.mem_of_getElem? (i := 184) rfl)
theorem cw_X9_row : Cond.code yX9_row cX9_row 4 (some .int) ∈ lw_tbl := gg_t5 _ (List.mem_of_getElem? (i := 50) rfl)
theorem cw_X9_rowAt : Cond.code yX9_rowAt cX9_rowAt 3 (some .int) ∈ lw_tbl := gg_t5 _ (List.mem_of_getElem? (i := 65) rfl)
theorem cw_X9_sell : Cond.code yX9_sell cX9_sell 4 (some .int) ∈ lw_tbl := gg_t5 _ (List.mem_of_getElem? (i := 223) rfl)
theorem cw_X9_stays : Cond.code yX9_stays cX9_stays 2 (some .boolean) ∈ lw_tbl := gg_t5 _ (List.mem_of_getElem? (i := 160) rfl)
theorem cw_X9_storm : Cond.code yX9_storm cX9_storm 2 (some .int) ∈ lw_tbl := gg_t5 _ (List.mem_of_getElem? (i := 227) rfl)
theorem cw_X9_strongOf : Cond.code yX9_strongOf cX9_strongOf 3 (some .int) ∈ lw_tbl := gg_t6 _ (List.mem_of_getElem? (i := 122) rfl)
theorem cw_X9_tear : Cond.code yX9_tear cX9_tear 2 (some .int) ∈ lw_tbl := gg_t5 _ (List.mem_of_getElem? (i := 77) rfl)
theorem cw_X9_tells : Cond.code yX9_tells cX9_tells 3 (some .int) ∈ lw_tbl := gg_t5 _ (List.mem_of_getElem? (i := 69) rfl)
theorem cw_X9_test : Cond.code yX9_test cX9_test 9 (some .int) ∈ lw_tbl := gg_t6 _ (List.mem_of_getElem? (i := 69) rfl)
theorem cw_X9_text : Cond.code yX9_text cX9_text 4 (some .int) ∈ lw_tbl := gg_t5 _ (List.mem_of_getElem? (i := 89) rfl)
theorem cw_X9_then : Cond.code yX9_then cX9_then 4 (some .int) ∈ lw_tbl := gg_t6 _ (List.mem_of_getElem? (i := 3) rfl)
theorem cw_X9_there : Cond.code yX9_there cX9_there 4 (some .int) ∈ lw_tbl := gg_t5 _ (List.mem_of_getElem? (i := 208) rfl)
theorem cw_X9_tiredBy : Cond.code yX9_tiredBy cX9_tiredBy 2 (some .int) ∈ lw_tbl := gg_t5 _ (List.mem_of_getElem? (i := 150) rfl)
theorem cw_X9_tires : Cond.code yX9_tires cX9_tires 3 (some .int) ∈ lw_tbl := gg_t5 _ (List.mem_of_getElem? (i := 176) rfl)
theorem cw_X9_undo : Cond.code yX9_undo cX9_undo 4 (some .int) ∈ lw_tbl := gg_t5 _ (List.mem_of_getElem? (i := 231) rfl)
theorem cw_X9_upper : Cond.code yX9_upper cX9_upper 1 (some .long) ∈ lw_tbl := gg_t5 _ (List.mem_of_getElem? (i := 42) rfl)
theorem cw_X9_vee : Cond.code yX9_vee cX9_vee 8 (some .int) ∈ lw_tbl := gg_t6 _ (List.mem_of_getElem? (i := 27) rfl)
theorem cw_X9_wanted : Cond.code yX9_wanted cX9_wanted 3 (some .int) ∈ lw_tbl := gg_t5 _ (List.mem_of_getElem? (i := 164) rfl)
theorem cw_X9_weakest : Cond.code yX9_weakest cX9_weakest 8 (some .int) ∈ lw_tbl := gg_t6 _ (List.mem_of_getElem? (i := 32) rfl)
theorem cw_X9_windOf : Cond.code yX9_windOf cX9_windOf 2 (some .int) ∈ lw_tbl := gg_t5 _ (List.mem_of_getElem? (i := 147) rfl)
theorem cw_X9_winter : Cond.code yX9_winter cX9_winter 1 (some .int) ∈ lw_tbl := gg_t5 _ (List.mem_of_getElem? (i := 180) rfl)
theorem ml_X0_31 : Cond.methodLink RX0 31 yX0_begin ∈ gg_tbl := gg_mem (by decide +kernel) rfl
theorem ml_X0_35 : Cond.methodLink RX0 35 yX0_apart ∈ gg_tbl := gg_mem (by decide +kernel) rfl
theorem ml_X0_39 : Cond.methodLink RX0 39 yX0_far ∈ gg_tbl := gg_mem (by decide +kernel) rfl
theorem ml_X0_43 : Cond.methodLink RX0 43 yX0_takeAsBest ∈ gg_tbl := gg_mem (by decide +kernel) rfl
theorem ml_X0_46 : Cond.methodLink RX0 46 yX0_goOn ∈ gg_tbl := gg_mem (by decide +kernel) rfl
theorem ml_X0_55 : Cond.methodLink RX0 55 yX2_isThere ∈ gg_tbl := gg_mem (by decide +kernel) rfl
theorem ml_X0_62 : Cond.methodLink RX0 62 yX0_insert ∈ gg_tbl := gg_mem (by decide +kernel) rfl
theorem ml_X0_66 : Cond.methodLink RX0 66 yJ9_abs_0f7a4 ∈ gg_tbl := gg_mem (by decide +kernel) rfl
theorem ml_X0_75 : Cond.methodLink RX0 75 yX0_swap ∈ gg_tbl := gg_mem (by decide +kernel) rfl
theorem ml_X1_20 : Cond.methodLink RX1 20 yX1_waysByLast ∈ gg_tbl := gg_mem (by decide +kernel) rfl
theorem ml_X1_24 : Cond.methodLink RX1 24 yX1_waysOf ∈ gg_tbl := gg_mem (by decide +kernel) rfl
theorem ml_X1_28 : Cond.methodLink RX1 28 yX1_firstRow ∈ gg_tbl := gg_mem (by decide +kernel) rfl
theorem ml_X1_31 : Cond.methodLink RX1 31 yX3_tiredBy ∈ gg_tbl := gg_mem (by decide +kernel) rfl
theorem ml_X1_36 : Cond.methodLink RX1 36 yX1_firstWind ∈ gg_tbl := gg_mem (by decide +kernel) rfl
theorem ml_X2_46 : Cond.methodLink RX2 46 yX2_knows ∈ gg_tbl := gg_mem (by decide +kernel) rfl
theorem ml_X2_50 : Cond.methodLink RX2 50 yX2_isThere ∈ gg_tbl := gg_mem (by decide +kernel) rfl
theorem ml_X2_53 : Cond.methodLink RX2 53 yJ9_floorMod_7cf53 ∈ gg_tbl := gg_mem (by decide +kernel) rfl
theorem ml_X2_59 : Cond.methodLink RX2 59 yX3_wants ∈ gg_tbl := gg_mem (by decide +kernel) rfl
theorem ml_X2_64 : Cond.methodLink RX2 64 yX2_windDue ∈ gg_tbl := gg_mem (by decide +kernel) rfl
theorem ml_X2_68 : Cond.methodLink RX2 68 yX3_tiredBy ∈ gg_tbl := gg_mem (by decide +kernel) rfl
theorem ml_X2_71 : Cond.methodLink RX2 71 yX3_lateBy ∈ gg_tbl := gg_mem (by decide +kernel) rfl
theorem ml_X2_75 : Cond.methodLink RX2 75 yX2_wanted ∈ gg_tbl := gg_mem (by decide +kernel) rfl
theorem ml_X2_78 : Cond.methodLink RX2 78 yX2_thereBits ∈ gg_tbl := gg_mem (by decide +kernel) rfl
theorem ml_X2_81 : Cond.methodLink RX2 81 yJ6_bitCount_0f7a4 ∈ gg_tbl := gg_mem (by decide +kernel) rfl
theorem ml_X2_86 : Cond.methodLink RX2 86 yX3_isOf ∈ gg_tbl := gg_mem (by decide +kernel) rfl
theorem ml_X2_90 : Cond.methodLink RX2 90 yX2_strongestOf ∈ gg_tbl := gg_mem (by decide +kernel) rfl
theorem ml_X2_93 : Cond.methodLink RX2 93 yX2_canBeFed ∈ gg_tbl := gg_mem (by decide +kernel) rfl
theorem ml_X2_96 : Cond.methodLink RX2 96 yJ9_min_7cf53 ∈ gg_tbl := gg_mem (by decide +kernel) rfl
theorem ml_X2_99 : Cond.methodLink RX2 99 yX2_passWinter ∈ gg_tbl := gg_mem (by decide +kernel) rfl
theorem ml_X2_102 : Cond.methodLink RX2 102 yX3_stays ∈ gg_tbl := gg_mem (by decide +kernel) rfl
theorem ml_X2_105 : Cond.methodLink RX2 105 yX2_stay ∈ gg_tbl := gg_mem (by decide +kernel) rfl
theorem ml_X2_109 : Cond.methodLink RX2 109 yX2_go ∈ gg_tbl := gg_mem (by decide +kernel) rfl
theorem ml_X2_113 : Cond.methodLink RX2 113 yX2_land ∈ gg_tbl := gg_mem (by decide +kernel) rfl
theorem ml_X2_116 : Cond.methodLink RX2 116 yJ9_max_7cf53 ∈ gg_tbl := gg_mem (by decide +kernel) rfl
theorem ml_X2_119 : Cond.methodLink RX2 119 yX2_isAheadOf ∈ gg_tbl := gg_mem (by decide +kernel) rfl
theorem ml_X2_122 : Cond.methodLink RX2 122 yX2_nearestFree ∈ gg_tbl := gg_mem (by decide +kernel) rfl
theorem ml_X2_125 : Cond.methodLink RX2 125 yX2_freeBits ∈ gg_tbl := gg_mem (by decide +kernel) rfl
theorem ml_X3_15 : Cond.methodLink RX3 15 yX3_stays ∈ gg_tbl := gg_mem (by decide +kernel) rfl
theorem ml_X3_19 : Cond.methodLink RX3 19 yX3_tiredInFlight ∈ gg_tbl := gg_mem (by decide +kernel) rfl
theorem ml_X3_23 : Cond.methodLink RX3 23 yX3_tiredBy ∈ gg_tbl := gg_mem (by decide +kernel) rfl
theorem ml_X3_26 : Cond.methodLink RX3 26 yJ9_max_7cf53 ∈ gg_tbl := gg_mem (by decide +kernel) rfl
theorem ml_X4_19 : Cond.methodLink RX4 19 yX2_passWinter ∈ gg_tbl := gg_mem (by decide +kernel) rfl
theorem ml_X4_24 : Cond.methodLink RX4 24 yX2_beFed ∈ gg_tbl := gg_mem (by decide +kernel) rfl
theorem ml_X4_28 : Cond.methodLink RX4 28 yX2_changeHomes ∈ gg_tbl := gg_mem (by decide +kernel) rfl
theorem ml_X4_32 : Cond.methodLink RX4 32 yX2_lose ∈ gg_tbl := gg_mem (by decide +kernel) rfl
theorem ml_X5_22 : Cond.methodLink RX5 22 yX6_size ∈ gg_tbl := gg_mem (by decide +kernel) rfl
theorem ml_X5_27 : Cond.methodLink RX5 27 yJ9_min_7cf53 ∈ gg_tbl := gg_mem (by decide +kernel) rfl
theorem ml_X5_33 : Cond.methodLink RX5 33 yX6_get ∈ gg_tbl := gg_mem (by decide +kernel) rfl
theorem ml_X5_36 : Cond.methodLink RX5 36 yX2_clear ∈ gg_tbl := gg_mem (by decide +kernel) rfl
theorem ml_X5_41 : Cond.methodLink RX5 41 yX5_readHead ∈ gg_tbl := gg_mem (by decide +kernel) rfl
theorem ml_X5_45 : Cond.methodLink RX5 45 yX5_readHuts ∈ gg_tbl := gg_mem (by decide +kernel) rfl
theorem ml_X5_48 : Cond.methodLink RX5 48 yX5_skipBlanks ∈ gg_tbl := gg_mem (by decide +kernel) rfl
theorem ml_X5_51 : Cond.methodLink RX5 51 yX5_sign ∈ gg_tbl := gg_mem (by decide +kernel) rfl
theorem ml_X5_58 : Cond.methodLink RX5 58 yX5_readFigure ∈ gg_tbl := gg_mem (by decide +kernel) rfl
theorem ml_X5_61 : Cond.methodLink RX5 61 yX5_readFood ∈ gg_tbl := gg_mem (by decide +kernel) rfl
theorem ml_X5_67 : Cond.methodLink RX5 67 yX5_readHut ∈ gg_tbl := gg_mem (by decide +kernel) rfl
theorem ml_X5_73 : Cond.methodLink RX5 73 yX3_byLetter ∈ gg_tbl := gg_mem (by decide +kernel) rfl
theorem ml_X5_78 : Cond.methodLink RX5 78 yX2_hasHomeOn ∈ gg_tbl := gg_mem (by decide +kernel) rfl
theorem ml_X5_82 : Cond.methodLink RX5 82 yX2_settle ∈ gg_tbl := gg_mem (by decide +kernel) rfl
theorem ml_X6_22 : Cond.methodLink RX6 22 yX6_knows ∈ gg_tbl := gg_mem (by decide +kernel) rfl
theorem ml_X6_26 : Cond.methodLink RX6 26 yX6_has ∈ gg_tbl := gg_mem (by decide +kernel) rfl
theorem ml_X6_29 : Cond.methodLink RX6 29 yX6_holds ∈ gg_tbl := gg_mem (by decide +kernel) rfl
theorem ml_X6_33 : Cond.methodLink RX6 33 yX6_make ∈ gg_tbl := gg_mem (by decide +kernel) rfl
theorem ml_X6_37 : Cond.methodLink RX6 37 yX6_set ∈ gg_tbl := gg_mem (by decide +kernel) rfl
theorem ml_X6_41 : Cond.methodLink RX6 41 yX6_holdsRun ∈ gg_tbl := gg_mem (by decide +kernel) rfl
theorem ml_X6_51 : Cond.methodLink RX6 51 yX6_size ∈ gg_tbl := gg_mem (by decide +kernel) rfl
theorem ml_X6_55 : Cond.methodLink RX6 55 yX6_get ∈ gg_tbl := gg_mem (by decide +kernel) rfl
theorem ml_X7_28 : Cond.methodLink RX7 28 yX7_begin ∈ gg_tbl := gg_mem (by decide +kernel) rfl
theorem ml_X7_32 : Cond.methodLink RX7 32 yX7_leastStrength ∈ gg_tbl := gg_mem (by decide +kernel) rfl
theorem ml_X7_36 : Cond.methodLink RX7 36 yX7_goOn ∈ gg_tbl := gg_mem (by decide +kernel) rfl
theorem ml_X7_40 : Cond.methodLink RX7 40 yX7_takeAsBest ∈ gg_tbl := gg_mem (by decide +kernel) rfl
theorem ml_X7_43 : Cond.methodLink RX7 43 yJ9_min_7cf53 ∈ gg_tbl := gg_mem (by decide +kernel) rfl
theorem ml_X7_54 : Cond.methodLink RX7 54 yX2_isThere ∈ gg_tbl := gg_mem (by decide +kernel) rfl
theorem ml_X7_61 : Cond.methodLink RX7 61 yX2_windDue ∈ gg_tbl := gg_mem (by decide +kernel) rfl
theorem ml_X7_65 : Cond.methodLink RX7 65 yX3_tiredInFlight ∈ gg_tbl := gg_mem (by decide +kernel) rfl
theorem ml_X8_93 : Cond.methodLink RX8 93 yX8_makeOn ∈ gg_tbl := gg_mem (by decide +kernel) rfl
theorem ml_X8_97 : Cond.methodLink RX8 97 yX8_refusedPlace ∈ gg_tbl := gg_mem (by decide +kernel) rfl
theorem ml_X8_100 : Cond.methodLink RX8 100 yX6_get ∈ gg_tbl := gg_mem (by decide +kernel) rfl
theorem ml_X8_104 : Cond.methodLink RX8 104 yX6_set ∈ gg_tbl := gg_mem (by decide +kernel) rfl
theorem ml_X8_108 : Cond.methodLink RX8 108 yX8_refusedMissing ∈ gg_tbl := gg_mem (by decide +kernel) rfl
theorem ml_X8_112 : Cond.methodLink RX8 112 yX6_drop ∈ gg_tbl := gg_mem (by decide +kernel) rfl
theorem ml_X8_115 : Cond.methodLink RX8 115 yX6_knows ∈ gg_tbl := gg_mem (by decide +kernel) rfl
theorem ml_X8_119 : Cond.methodLink RX8 119 yX8_find ∈ gg_tbl := gg_mem (by decide +kernel) rfl
theorem ml_X8_123 : Cond.methodLink RX8 123 yX6_has ∈ gg_tbl := gg_mem (by decide +kernel) rfl
theorem ml_X8_126 : Cond.methodLink RX8 126 yX6_holdsRun ∈ gg_tbl := gg_mem (by decide +kernel) rfl
theorem ml_X8_130 : Cond.methodLink RX8 130 yX6_move ∈ gg_tbl := gg_mem (by decide +kernel) rfl
theorem ml_X8_134 : Cond.methodLink RX8 134 yX6_size ∈ gg_tbl := gg_mem (by decide +kernel) rfl
theorem ml_X8_137 : Cond.methodLink RX8 137 yX6_sum ∈ gg_tbl := gg_mem (by decide +kernel) rfl
theorem ml_X8_141 : Cond.methodLink RX8 141 yX5_read ∈ gg_tbl := gg_mem (by decide +kernel) rfl
theorem ml_X8_145 : Cond.methodLink RX8 145 yX2_become ∈ gg_tbl := gg_mem (by decide +kernel) rfl
theorem ml_X8_154 : Cond.methodLink RX8 154 yX2_knows ∈ gg_tbl := gg_mem (by decide +kernel) rfl
theorem ml_X8_155 : Cond.methodLink RX8 155 yX8_within ∈ gg_tbl := gg_mem (by decide +kernel) rfl
theorem ml_X8_158 : Cond.methodLink RX8 158 yX2_ofHut ∈ gg_tbl := gg_mem (by decide +kernel) rfl
theorem ml_X8_166 : Cond.methodLink RX8 166 yX3_isOf ∈ gg_tbl := gg_mem (by decide +kernel) rfl
theorem ml_X8_170 : Cond.methodLink RX8 170 yX2_windDue ∈ gg_tbl := gg_mem (by decide +kernel) rfl
theorem ml_X8_174 : Cond.methodLink RX8 174 yX3_tiredBy ∈ gg_tbl := gg_mem (by decide +kernel) rfl
theorem ml_X8_177 : Cond.methodLink RX8 177 yX3_stays ∈ gg_tbl := gg_mem (by decide +kernel) rfl
theorem ml_X8_180 : Cond.methodLink RX8 180 yX2_hostOf ∈ gg_tbl := gg_mem (by decide +kernel) rfl
theorem ml_X8_183 : Cond.methodLink RX8 183 yX2_howManyLessLate ∈ gg_tbl := gg_mem (by decide +kernel) rfl
theorem ml_X8_186 : Cond.methodLink RX8 186 yX4_lacks ∈ gg_tbl := gg_mem (by decide +kernel) rfl
theorem ml_X8_189 : Cond.methodLink RX8 189 yX4_code ∈ gg_tbl := gg_mem (by decide +kernel) rfl
theorem ml_X8_193 : Cond.methodLink RX8 193 yX8_act ∈ gg_tbl := gg_mem (by decide +kernel) rfl
theorem ml_X8_196 : Cond.methodLink RX8 196 yX2_howManyThere ∈ gg_tbl := gg_mem (by decide +kernel) rfl
theorem ml_X8_199 : Cond.methodLink RX8 199 yX2_isThere ∈ gg_tbl := gg_mem (by decide +kernel) rfl
theorem ml_X8_211 : Cond.methodLink RX8 211 yX8_doAnew ∈ gg_tbl := gg_mem (by decide +kernel) rfl
theorem ml_X8_214 : Cond.methodLink RX8 214 yX4_become ∈ gg_tbl := gg_mem (by decide +kernel) rfl
theorem ml_X8_217 : Cond.methodLink RX8 217 yX2_passWinters ∈ gg_tbl := gg_mem (by decide +kernel) rfl
theorem ml_X8_223 : Cond.methodLink RX8 223 yX2_passWinter ∈ gg_tbl := gg_mem (by decide +kernel) rfl
theorem ml_X8_232 : Cond.methodLink RX8 232 yX6_write ∈ gg_tbl := gg_mem (by decide +kernel) rfl
theorem ml_X8_236 : Cond.methodLink RX8 236 yX7_seek ∈ gg_tbl := gg_mem (by decide +kernel) rfl
theorem ml_X8_243 : Cond.methodLink RX8 243 yX0_seek ∈ gg_tbl := gg_mem (by decide +kernel) rfl
theorem ml_X8_253 : Cond.methodLink RX8 253 yX8_refusedSigns ∈ gg_tbl := gg_mem (by decide +kernel) rfl
theorem ml_X8_256 : Cond.methodLink RX8 256 yX8_kindsBy ∈ gg_tbl := gg_mem (by decide +kernel) rfl
theorem ml_X8_259 : Cond.methodLink RX8 259 yX3_greatestPart ∈ gg_tbl := gg_mem (by decide +kernel) rfl
theorem ml_X8_262 : Cond.methodLink RX8 262 yX1_seek ∈ gg_tbl := gg_mem (by decide +kernel) rfl
theorem ml_X8_267 : Cond.methodLink RX8 267 yX2_leadByLuring ∈ gg_tbl := gg_mem (by decide +kernel) rfl
theorem ml_X8_270 : Cond.methodLink RX8 270 yX8_thereBehindWinter ∈ gg_tbl := gg_mem (by decide +kernel) rfl
theorem ml_X8_273 : Cond.methodLink RX8 273 yX8_isPartOf ∈ gg_tbl := gg_mem (by decide +kernel) rfl
theorem ml_X8_276 : Cond.methodLink RX8 276 yJ6_bitCount_0f7a4 ∈ gg_tbl := gg_mem (by decide +kernel) rfl
theorem ml_X8_281 : Cond.methodLink RX8 281 yX8_weight ∈ gg_tbl := gg_mem (by decide +kernel) rfl
theorem ml_X8_285 : Cond.methodLink RX8 285 yX8_tell ∈ gg_tbl := gg_mem (by decide +kernel) rfl
theorem ml_X8_289 : Cond.methodLink RX8 289 yX2_strongestOf ∈ gg_tbl := gg_mem (by decide +kernel) rfl
theorem ml_X8_297 : Cond.methodLink RX8 297 yX8_codeByLot ∈ gg_tbl := gg_mem (by decide +kernel) rfl
theorem ml_X8_304 : Cond.methodLink RX8 304 yX2_thereBits ∈ gg_tbl := gg_mem (by decide +kernel) rfl
theorem ml_X8_307 : Cond.methodLink RX8 307 yX2_strengthThere ∈ gg_tbl := gg_mem (by decide +kernel) rfl
theorem ml_X8_310 : Cond.methodLink RX8 310 yX2_atHomeBits ∈ gg_tbl := gg_mem (by decide +kernel) rfl
theorem ml_X8_313 : Cond.methodLink RX8 313 yX2_howManyGuards ∈ gg_tbl := gg_mem (by decide +kernel) rfl
theorem ml_X8_316 : Cond.methodLink RX8 316 yX6_howMany ∈ gg_tbl := gg_mem (by decide +kernel) rfl
theorem ml_X8_319 : Cond.methodLink RX8 319 yX8_howManyKept ∈ gg_tbl := gg_mem (by decide +kernel) rfl
theorem ml_X8_326 : Cond.methodLink RX8 326 yX8_count ∈ gg_tbl := gg_mem (by decide +kernel) rfl
theorem ml_X8_329 : Cond.methodLink RX8 329 yX6_digestOnto ∈ gg_tbl := gg_mem (by decide +kernel) rfl
theorem ml_X8_333 : Cond.methodLink RX8 333 yX6_holds ∈ gg_tbl := gg_mem (by decide +kernel) rfl
theorem ml_X8_339 : Cond.methodLink RX8 339 yX6_make ∈ gg_tbl := gg_mem (by decide +kernel) rfl
theorem ml_X8_342 : Cond.methodLink RX8 342 yX4_add ∈ gg_tbl := gg_mem (by decide +kernel) rfl
theorem ml_X8_345 : Cond.methodLink RX8 345 yX4_doTo ∈ gg_tbl := gg_mem (by decide +kernel) rfl
theorem ml_X8_356 : Cond.methodLink RX8 356 yX2_canBeFed ∈ gg_tbl := gg_mem (by decide +kernel) rfl
theorem ml_X8_359 : Cond.methodLink RX8 359 yX8_fits ∈ gg_tbl := gg_mem (by decide +kernel) rfl
theorem ml_X8_362 : Cond.methodLink RX8 362 yX8_greatestDivisor ∈ gg_tbl := gg_mem (by decide +kernel) rfl
theorem ml_X9_92 : Cond.methodLink RX9 92 yX9_in ∈ gg_tbl := gg_mem (by decide +kernel) rfl
theorem ml_X9_102 : Cond.methodLink RX9 102 yX9_isRow ∈ gg_tbl := gg_mem (by decide +kernel) rfl
theorem ml_X9_106 : Cond.methodLink RX9 106 yX9_meets ∈ gg_tbl := gg_mem (by decide +kernel) rfl
theorem ml_X9_110 : Cond.methodLink RX9 110 yX9_rowAt ∈ gg_tbl := gg_mem (by decide +kernel) rfl
theorem ml_X9_114 : Cond.methodLink RX9 114 yX9_tells ∈ gg_tbl := gg_mem (by decide +kernel) rfl
theorem ml_X9_117 : Cond.methodLink RX9 117 yX9_isText ∈ gg_tbl := gg_mem (by decide +kernel) rfl
theorem ml_X9_123 : Cond.methodLink RX9 123 yX9_byteAt ∈ gg_tbl := gg_mem (by decide +kernel) rfl
theorem ml_X9_126 : Cond.methodLink RX9 126 yX9_figure ∈ gg_tbl := gg_mem (by decide +kernel) rfl
theorem ml_X9_139 : Cond.methodLink RX9 139 yX9_kindBy ∈ gg_tbl := gg_mem (by decide +kernel) rfl
theorem ml_X9_142 : Cond.methodLink RX9 142 yX9_isTold ∈ gg_tbl := gg_mem (by decide +kernel) rfl
theorem ml_X9_145 : Cond.methodLink RX9 145 yX9_readsHut ∈ gg_tbl := gg_mem (by decide +kernel) rfl
theorem ml_X9_148 : Cond.methodLink RX9 148 yX9_readsHead ∈ gg_tbl := gg_mem (by decide +kernel) rfl
theorem ml_X9_151 : Cond.methodLink RX9 151 yX9_faultOf ∈ gg_tbl := gg_mem (by decide +kernel) rfl
theorem ml_X9_160 : Cond.methodLink RX9 160 yX9_isThere ∈ gg_tbl := gg_mem (by decide +kernel) rfl
theorem ml_X9_164 : Cond.methodLink RX9 164 yX9_apart ∈ gg_tbl := gg_mem (by decide +kernel) rfl
theorem ml_X9_167 : Cond.methodLink RX9 167 yX9_has ∈ gg_tbl := gg_mem (by decide +kernel) rfl
theorem ml_X9_171 : Cond.methodLink RX9 171 yX9_lateBy ∈ gg_tbl := gg_mem (by decide +kernel) rfl
theorem ml_X9_174 : Cond.methodLink RX9 174 yX9_windOf ∈ gg_tbl := gg_mem (by decide +kernel) rfl
theorem ml_X9_178 : Cond.methodLink RX9 178 yX9_stays ∈ gg_tbl := gg_mem (by decide +kernel) rfl
theorem ml_X9_181 : Cond.methodLink RX9 181 yX9_tiredBy ∈ gg_tbl := gg_mem (by decide +kernel) rfl
theorem ml_X9_187 : Cond.methodLink RX9 187 yX9_isSooner ∈ gg_tbl := gg_mem (by decide +kernel) rfl
theorem ml_X9_191 : Cond.methodLink RX9 191 yX9_wanted ∈ gg_tbl := gg_mem (by decide +kernel) rfl
theorem ml_X9_195 : Cond.methodLink RX9 195 yX9_landing ∈ gg_tbl := gg_mem (by decide +kernel) rfl
theorem ml_X9_198 : Cond.methodLink RX9 198 yX9_isHut ∈ gg_tbl := gg_mem (by decide +kernel) rfl
theorem ml_X9_201 : Cond.methodLink RX9 201 yX9_hutTells ∈ gg_tbl := gg_mem (by decide +kernel) rfl
theorem ml_X9_204 : Cond.methodLink RX9 204 yX9_atBrick ∈ gg_tbl := gg_mem (by decide +kernel) rfl
theorem ml_X9_207 : Cond.methodLink RX9 207 yX9_lessLate ∈ gg_tbl := gg_mem (by decide +kernel) rfl
theorem ml_X9_210 : Cond.methodLink RX9 210 yX9_remember ∈ gg_tbl := gg_mem (by decide +kernel) rfl
theorem ml_X9_213 : Cond.methodLink RX9 213 yX9_passes ∈ gg_tbl := gg_mem (by decide +kernel) rfl
theorem ml_X9_217 : Cond.methodLink RX9 217 yX9_there ∈ gg_tbl := gg_mem (by decide +kernel) rfl
theorem ml_X9_220 : Cond.methodLink RX9 220 yX9_bits ∈ gg_tbl := gg_mem (by decide +kernel) rfl
theorem ml_X9_223 : Cond.methodLink RX9 223 yX9_fed ∈ gg_tbl := gg_mem (by decide +kernel) rfl
theorem ml_X9_227 : Cond.methodLink RX9 227 yX9_copyNow ∈ gg_tbl := gg_mem (by decide +kernel) rfl
theorem ml_X9_230 : Cond.methodLink RX9 230 yX9_need ∈ gg_tbl := gg_mem (by decide +kernel) rfl
theorem ml_X9_235 : Cond.methodLink RX9 235 yX9_flying ∈ gg_tbl := gg_mem (by decide +kernel) rfl
theorem ml_X9_239 : Cond.methodLink RX9 239 yX9_weakest ∈ gg_tbl := gg_mem (by decide +kernel) rfl
theorem ml_X9_242 : Cond.methodLink RX9 242 yX9_isPut ∈ gg_tbl := gg_mem (by decide +kernel) rfl
theorem ml_X9_245 : Cond.methodLink RX9 245 yX9_pairsApart ∈ gg_tbl := gg_mem (by decide +kernel) rfl
theorem ml_X9_249 : Cond.methodLink RX9 249 yX9_homesApart ∈ gg_tbl := gg_mem (by decide +kernel) rfl
theorem ml_X9_252 : Cond.methodLink RX9 252 yX9_needPairs ∈ gg_tbl := gg_mem (by decide +kernel) rfl
theorem ml_X9_255 : Cond.methodLink RX9 255 yX9_kindSet ∈ gg_tbl := gg_mem (by decide +kernel) rfl
theorem ml_X9_258 : Cond.methodLink RX9 258 yX9_alike ∈ gg_tbl := gg_mem (by decide +kernel) rfl
theorem ml_X9_261 : Cond.methodLink RX9 261 yX9_lured ∈ gg_tbl := gg_mem (by decide +kernel) rfl
theorem ml_X9_276 : Cond.methodLink RX9 276 yX9_layParts ∈ gg_tbl := gg_mem (by decide +kernel) rfl
theorem ml_X9_280 : Cond.methodLink RX9 280 yX9_fraction ∈ gg_tbl := gg_mem (by decide +kernel) rfl
theorem ml_X9_293 : Cond.methodLink RX9 293 yX9_strongOf ∈ gg_tbl := gg_mem (by decide +kernel) rfl
theorem ml_X9_296 : Cond.methodLink RX9 296 yX9_homeOf ∈ gg_tbl := gg_mem (by decide +kernel) rfl
theorem ml_X9_299 : Cond.methodLink RX9 299 yX9_counted ∈ gg_tbl := gg_mem (by decide +kernel) rfl
theorem ml_X9_307 : Cond.methodLink RX9 307 yX9_mix ∈ gg_tbl := gg_mem (by decide +kernel) rfl
theorem ml_X9_315 : Cond.methodLink RX9 315 yX9_mixFront ∈ gg_tbl := gg_mem (by decide +kernel) rfl
