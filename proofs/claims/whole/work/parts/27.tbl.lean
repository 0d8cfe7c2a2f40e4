set_option maxRecDepth 20000 in
theorem tA_0 : ∀ w ∈ wA_0, w ∈ lw_tbl := fun w h => (goodIn_p wA_0 [66, 63, 60, 227, 230, 727, 562, 119, 684, 680, 674, 670, 126, 724, 689, 693] (by decide +kernel) (by decide +kernel) w h).1
set_option maxRecDepth 20000 in
theorem tA_1 : ∀ w ∈ wA_1, w ∈ lw_tbl := fun w h => (goodIn_p wA_1 [209, 205, 602, 662, 598, 636, 711, 640, 578, 71, 586, 590, 627, 644, 574, 582, 217, 610, 213, 649, 653, 103, 789, 793, 666, 702, 784, 224, 707, 632, 570, 658] (by decide +kernel) (by decide +kernel) w h).1
set_option maxRecDepth 20000 in
theorem tA_2 : ∀ w ∈ wA_2, w ∈ lw_tbl := fun w h => (goodIn_p wA_2 [736, 191, 566, 195, 594, 57, 623, 716, 803, 720, 201, 740, 615, 776, 198, 619, 606, 698, 894, 963, 989, 959, 947, 951, 906, 902, 955, 973, 926, 875, 898, 879] (by decide +kernel) (by decide +kernel) w h).1
set_option maxRecDepth 20000 in
theorem tA_3 : ∀ w ∈ wA_3, w ∈ lw_tbl := fun w h => (goodIn_p wA_3 [993, 883, 914, 810, 887, 910, 939, 985, 997, 922, 977, 930, 935, 891, 871, 943, 918, 981, 968] (by decide +kernel) (by decide +kernel) w h).1
set_option maxRecDepth 20000 in
theorem tA_4 : ∀ w ∈ wA_4, w ∈ lw_tbl := fun w h => (goodIn_p wA_4 [] (by decide +kernel) (by decide +kernel) w h).1
set_option maxRecDepth 20000 in
theorem tA_5 : ∀ w ∈ wA_5, w ∈ lw_tbl := fun w h => (goodIn_p wA_5 [] (by decide +kernel) (by decide +kernel) w h).1
set_option maxRecDepth 20000 in
theorem tA_6 : ∀ w ∈ wA_6, w ∈ lw_tbl := fun w h => (goodIn_p wA_6 [] (by decide +kernel) (by decide +kernel) w h).1
set_option maxRecDepth 20000 in
theorem tA_7 : ∀ w ∈ wA_7, w ∈ lw_tbl := fun w h => (goodIn_p wA_7 [] (by decide +kernel) (by decide +kernel) w h).1
set_option maxRecDepth 20000 in
theorem tA_8 : ∀ w ∈ wA_8, w ∈ lw_tbl := fun w h => (goodIn_p wA_8 [] (by decide +kernel) (by decide +kernel) w h).1
set_option maxRecDepth 20000 in
theorem tA_9 : ∀ w ∈ wA_9, w ∈ lw_tbl := fun w h => (goodIn_p wA_9 [] (by decide +kernel) (by decide +kernel) w h).1
set_option maxRecDepth 20000 in
theorem tA_10 : ∀ w ∈ wA_10, w ∈ lw_tbl := fun w h => (goodIn_p wA_10 [] (by decide +kernel) (by decide +kernel) w h).1
set_option maxRecDepth 20000 in
theorem tA_11 : ∀ w ∈ wA_11, w ∈ lw_tbl := fun w h => (goodIn_p wA_11 [] (by decide +kernel) (by decide +kernel) w h).1
set_option maxRecDepth 20000 in
theorem tA_12 : ∀ w ∈ wA_12, w ∈ lw_tbl := fun w h => (goodIn_p wA_12 [] (by decide +kernel) (by decide +kernel) w h).1
set_option maxRecDepth 20000 in
theorem tA_13 : ∀ w ∈ wA_13, w ∈ lw_tbl := fun w h => (goodIn_p wA_13 [] (by decide +kernel) (by decide +kernel) w h).1
set_option maxRecDepth 20000 in
theorem tA_14 : ∀ w ∈ wA_14, w ∈ lw_tbl := fun w h => (goodIn_p wA_14 [] (by decide +kernel) (by decide +kernel) w h).1
set_option maxRecDepth 20000 in
theorem tA_15 : ∀ w ∈ wA_15, w ∈ lw_tbl := fun w h => (goodIn_p wA_15 [] (by decide +kernel) (by decide +kernel) w h).1
set_option maxRecDepth 20000 in
theorem tX_0 : ∀ w ∈ wsX00, w ∈ lw_tbl := by decide +kernel
set_option maxRecDepth 20000 in
theorem tX_1 : ∀ w ∈ wsX10, w ∈ lw_tbl := by decide +kernel
set_option maxRecDepth 20000 in
theorem tX_2 : ∀ w ∈ wsX20, w ∈ lw_tbl := by decide +kernel
set_option maxRecDepth 20000 in
theorem tX_3 : ∀ w ∈ wsX30, w ∈ lw_tbl := by decide +kernel
set_option maxRecDepth 20000 in
theorem tX_4 : ∀ w ∈ wsX40, w ∈ lw_tbl := by decide +kernel
set_option maxRecDepth 20000 in
theorem tX_5 : ∀ w ∈ wsX50, w ∈ lw_tbl := by decide +kernel
theorem wAll_tbl : ∀ w ∈ wAll, w ∈ lw_tbl := by
  intro w h
  rcases List.mem_append.mp h with h | h
  · exact tA_0 w h
  rcases List.mem_append.mp h with h | h
  · exact tA_1 w h
  rcases List.mem_append.mp h with h | h
  · exact tA_2 w h
  rcases List.mem_append.mp h with h | h
  · exact tA_3 w h
  rcases List.mem_append.mp h with h | h
  · exact tA_4 w h
  rcases List.mem_append.mp h with h | h
  · exact tA_5 w h
  rcases List.mem_append.mp h with h | h
  · exact tA_6 w h
  rcases List.mem_append.mp h with h | h
  · exact tA_7 w h
  rcases List.mem_append.mp h with h | h
  · exact tA_8 w h
  rcases List.mem_append.mp h with h | h
  · exact tA_9 w h
  rcases List.mem_append.mp h with h | h
  · exact tA_10 w h
  rcases List.mem_append.mp h with h | h
  · exact tA_11 w h
  rcases List.mem_append.mp h with h | h
  · exact tA_12 w h
  rcases List.mem_append.mp h with h | h
  · exact tA_13 w h
  rcases List.mem_append.mp h with h | h
  · exact tA_14 w h
  rcases List.mem_append.mp h with h | h
  · exact tA_15 w h
  rcases List.mem_append.mp h with h | h
  · exact tX_0 w h
  rcases List.mem_append.mp h with h | h
  · exact tX_1 w h
  rcases List.mem_append.mp h with h | h
  · exact tX_2 w h
  rcases List.mem_append.mp h with h | h
  · exact tX_3 w h
  rcases List.mem_append.mp h with h | h
  · exact tX_4 w h
  exact tX_5 w h
set_option maxRecDepth 20000 in
theorem tE_0 : ∀ w ∈ nsW.filter goodWord, w ∈ lw_tbl := by decide +kernel
set_option maxRecDepth 20000 in
theorem tE_1 : ∀ w ∈ (vx_atS RX4 154 eIO exN).filter goodWord, w ∈ lw_tbl := by decide +kernel
set_option maxRecDepth 20000 in
theorem tE_2 : ∀ w ∈ (vx_atS RX4 139 eIA exN).filter goodWord, w ∈ lw_tbl := by decide +kernel
theorem wX_tbl : ∀ w ∈ wX, w ∈ lw_tbl := by
  intro w h
  rcases List.mem_append.mp h with h | h
  · exact tE_0 w h
  rcases List.mem_append.mp h with h | h
  · exact tE_1 w h
  exact tE_2 w h
set_option maxRecDepth 20000 in
theorem lwH_tbl : ∀ w ∈ lwH, w ∈ lw_tbl := by decide +kernel
