set_option maxRecDepth 100000 in
theorem qm_lay_0 : u_ws RX0 TX0 1 = [92].filterMap qm_tb := by decide +kernel
set_option maxRecDepth 100000 in
theorem qm_lay_1 : u_ws RX1 TX1 1 = [84].filterMap qm_tb := by decide +kernel
set_option maxRecDepth 100000 in
theorem qm_lay_2 : u_ws RX2 TX2 15 = [235, 237, 239, 241, 243, 245, 247, 249, 251, 253, 255, 257, 259, 261, 263].filterMap qm_tb := by decide +kernel
set_option maxRecDepth 100000 in
theorem qm_lay_3 : u_ws RX3 TX3 1 = [76].filterMap qm_tb := by decide +kernel
set_option maxRecDepth 100000 in
theorem qm_lay_4 : u_ws RX4 TX4 1 = [100].filterMap qm_tb := by decide +kernel
set_option maxRecDepth 100000 in
theorem qm_lay_5 : u_ws RX5 TX5 1 = [108].filterMap qm_tb := by decide +kernel
set_option maxRecDepth 100000 in
theorem qm_lay_6 : u_ws RX6 TX6 1 = [67].filterMap qm_tb := by decide +kernel
set_option maxRecDepth 100000 in
theorem qm_lay_7 : u_ws RX7 TX7 5 = [182, 184, 186, 188, 190].filterMap qm_tb := by decide +kernel
set_option maxRecDepth 100000 in
theorem qm_lay_8 : u_ws RX8 TX8 11 = [137, 139, 141, 143, 145, 147, 149, 151, 153, 155, 157].filterMap qm_tb := by decide +kernel
set_option maxRecDepth 100000 in
theorem qm_lay_9 : u_ws RX9 TX9 1 = [116].filterMap qm_tb := by decide +kernel
set_option maxRecDepth 100000 in
theorem qm_lay_10 : u_ws RX10 TX10 2 = [41, 43].filterMap qm_tb := by decide +kernel
set_option maxRecDepth 100000 in
theorem qm_lay_11 : u_ws RX11 TX11 12 = [283, 285, 287, 289, 291, 293, 295, 297, 299, 301, 303, 305].filterMap qm_tb := by decide +kernel
set_option maxRecDepth 100000 in
theorem qm_lay_12 : u_ws RX12 TX12 69 = [912, 914, 916, 918, 920, 922, 924, 926, 928, 930, 932, 934, 936, 938, 940, 942, 944, 946, 948, 950, 952, 954, 956, 958, 960, 962, 964, 966, 968, 970, 972, 974, 976, 978, 980, 982, 984, 986, 988, 990, 992, 994, 996, 998, 1000, 1002, 1004, 1006, 1008, 1010, 1012, 1014, 1016, 1018, 1020, 1022, 1024, 1026, 1028, 1030, 1032, 1034, 1036, 1038, 1040, 1042, 1044, 1046, 1048].filterMap qm_tb := by decide +kernel
