set_option maxRecDepth 100000 in
theorem ip_d0 : (List.range 51).all (fun n => match ip_i0 n with | none => true | some q => decide (decode prog_1_method_2_code n = .ok q)) = true := by decide +kernel
set_option maxRecDepth 100000 in
theorem ip_d1 : (List.range 12).all (fun n => match ip_i1 n with | none => true | some q => decide (decode prog_1_method_3_code n = .ok q)) = true := by decide +kernel
set_option maxRecDepth 100000 in
theorem ip_d2 : (List.range 26).all (fun n => match ip_i2 n with | none => true | some q => decide (decode prog_4_method_2_code n = .ok q)) = true := by decide +kernel
set_option maxRecDepth 100000 in
theorem ip_d3 : (List.range 18).all (fun n => match ip_i3 n with | none => true | some q => decide (decode prog_5_method_12_code n = .ok q)) = true := by decide +kernel
set_option maxRecDepth 100000 in
theorem ip_d4 : (List.range 15).all (fun n => match ip_i4 n with | none => true | some q => decide (decode prog_5_method_11_code n = .ok q)) = true := by decide +kernel
set_option maxRecDepth 100000 in
theorem ip_d5 : (List.range 41).all (fun n => match ip_i5 n with | none => true | some q => decide (decode prog_5_method_2_code n = .ok q)) = true := by decide +kernel
set_option maxRecDepth 100000 in
theorem ip_d6 : (List.range 11).all (fun n => match ip_i6 n with | none => true | some q => decide (decode prog_11_method_65_code n = .ok q)) = true := by decide +kernel
set_option maxRecDepth 100000 in
theorem ip_d7 : (List.range 126).all (fun n => match ip_i7 n with | none => true | some q => decide (decode prog_5_method_8_code n = .ok q)) = true := by decide +kernel
set_option maxRecDepth 100000 in
theorem ip_d8 : (List.range 39).all (fun n => match ip_i8 n with | none => true | some q => decide (decode prog_5_method_13_code n = .ok q)) = true := by decide +kernel
set_option maxRecDepth 100000 in
theorem ip_d9 : (List.range 131).all (fun n => match ip_i9 n with | none => true | some q => decide (decode prog_5_method_6_code n = .ok q)) = true := by decide +kernel
set_option maxRecDepth 100000 in
theorem ip_d10 : (List.range 20).all (fun n => match ip_i10 n with | none => true | some q => decide (decode prog_5_method_14_code n = .ok q)) = true := by decide +kernel
set_option maxRecDepth 100000 in
theorem ip_d11 : (List.range 70).all (fun n => match ip_i11 n with | none => true | some q => decide (decode prog_5_method_10_code n = .ok q)) = true := by decide +kernel
set_option maxRecDepth 100000 in
theorem ip_d12 : (List.range 39).all (fun n => match ip_i12 n with | none => true | some q => decide (decode prog_5_method_9_code n = .ok q)) = true := by decide +kernel
set_option maxRecDepth 100000 in
theorem ip_d13 : (List.range 66).all (fun n => match ip_i13 n with | none => true | some q => decide (decode prog_5_method_15_code n = .ok q)) = true := by decide +kernel
set_option maxRecDepth 100000 in
theorem ip_d14 : (List.range 181).all (fun n => match ip_i14 n with | none => true | some q => decide (decode prog_5_method_7_code n = .ok q)) = true := by decide +kernel
set_option maxRecDepth 100000 in
theorem ip_d15 : (List.range 48).all (fun n => match ip_i15 n with | none => true | some q => decide (decode prog_5_method_5_code n = .ok q)) = true := by decide +kernel
set_option maxRecDepth 100000 in
theorem ip_d16 : (List.range 46).all (fun n => match ip_i16 n with | none => true | some q => decide (decode prog_1_method_30_code n = .ok q)) = true := by decide +kernel
set_option maxRecDepth 100000 in
theorem ip_d17 : (List.range 64).all (fun n => match ip_i17 n with | none => true | some q => decide (decode prog_1_method_32_code n = .ok q)) = true := by decide +kernel
set_option maxRecDepth 100000 in
theorem ip_d18 : (List.range 80).all (fun n => match ip_i18 n with | none => true | some q => decide (decode prog_1_method_29_code n = .ok q)) = true := by decide +kernel
set_option maxRecDepth 100000 in
theorem ip_d19 : (List.range 81).all (fun n => match ip_i19 n with | none => true | some q => decide (decode prog_1_method_28_code n = .ok q)) = true := by decide +kernel
set_option maxRecDepth 100000 in
theorem ip_d20 : (List.range 5).all (fun n => match ip_i20 n with | none => true | some q => decide (decode prog_1_method_4_code n = .ok q)) = true := by decide +kernel
set_option maxRecDepth 100000 in
theorem ip_d21 : (List.range 20).all (fun n => match ip_i21 n with | none => true | some q => decide (decode prog_5_method_3_code n = .ok q)) = true := by decide +kernel
set_option maxRecDepth 100000 in
theorem ip_d22 : (List.range 21).all (fun n => match ip_i22 n with | none => true | some q => decide (decode prog_2_method_2_code n = .ok q)) = true := by decide +kernel
set_option maxRecDepth 100000 in
theorem ip_d23 : (List.range 16).all (fun n => match ip_i23 n with | none => true | some q => decide (decode prog_3_method_4_code n = .ok q)) = true := by decide +kernel
set_option maxRecDepth 100000 in
theorem ip_d24 : (List.range 20).all (fun n => match ip_i24 n with | none => true | some q => decide (decode prog_3_method_2_code n = .ok q)) = true := by decide +kernel
set_option maxRecDepth 100000 in
theorem ip_d25 : (List.range 25).all (fun n => match ip_i25 n with | none => true | some q => decide (decode prog_3_method_3_code n = .ok q)) = true := by decide +kernel
set_option maxRecDepth 100000 in
theorem ip_d26 : (List.range 64).all (fun n => match ip_i26 n with | none => true | some q => decide (decode prog_1_method_31_code n = .ok q)) = true := by decide +kernel
set_option maxRecDepth 100000 in
theorem ip_d27 : (List.range 16).all (fun n => match ip_i27 n with | none => true | some q => decide (decode prog_5_method_4_code n = .ok q)) = true := by decide +kernel
set_option maxRecDepth 100000 in
theorem ip_d28 : (List.range 41).all (fun n => match ip_i28 n with | none => true | some q => decide (decode prog_4_method_3_code n = .ok q)) = true := by decide +kernel
set_option maxRecDepth 100000 in
theorem ip_d29 : (List.range 117).all (fun n => match ip_i29 n with | none => true | some q => decide (decode prog_1_method_5_code n = .ok q)) = true := by decide +kernel
set_option maxRecDepth 100000 in
theorem ip_d30 : (List.range 16).all (fun n => match ip_i30 n with | none => true | some q => decide (decode prog_1_method_33_code n = .ok q)) = true := by decide +kernel
set_option maxRecDepth 100000 in
theorem ip_d31 : (List.range 61).all (fun n => match ip_i31 n with | none => true | some q => decide (decode prog_10_method_50_code n = .ok q)) = true := by decide +kernel
set_option maxRecDepth 100000 in
theorem ip_d32 : (List.range 81).all (fun n => match ip_i32 n with | none => true | some q => decide (decode prog_1_method_6_code n = .ok q)) = true := by decide +kernel
set_option maxRecDepth 100000 in
theorem ip_d33 : (List.range 6).all (fun n => match ip_i33 n with | none => true | some q => decide (decode prog_1_method_7_code n = .ok q)) = true := by decide +kernel
set_option maxRecDepth 100000 in
theorem ip_d34 : (List.range 28).all (fun n => match ip_i34 n with | none => true | some q => decide (decode prog_1_method_43_code n = .ok q)) = true := by decide +kernel
set_option maxRecDepth 100000 in
theorem ip_d35 : (List.range 34).all (fun n => match ip_i35 n with | none => true | some q => decide (decode prog_1_method_45_code n = .ok q)) = true := by decide +kernel
set_option maxRecDepth 100000 in
theorem ip_d36 : (List.range 128).all (fun n => match ip_i36 n with | none => true | some q => decide (decode prog_1_method_8_code n = .ok q)) = true := by decide +kernel
set_option maxRecDepth 100000 in
theorem ip_d37 : (List.range 16).all (fun n => match ip_i37 n with | none => true | some q => decide (decode prog_1_method_36_code n = .ok q)) = true := by decide +kernel
set_option maxRecDepth 100000 in
theorem ip_d38 : (List.range 16).all (fun n => match ip_i38 n with | none => true | some q => decide (decode prog_1_method_40_code n = .ok q)) = true := by decide +kernel
set_option maxRecDepth 100000 in
theorem ip_d39 : (List.range 43).all (fun n => match ip_i39 n with | none => true | some q => decide (decode prog_1_method_9_code n = .ok q)) = true := by decide +kernel
set_option maxRecDepth 100000 in
theorem ip_d40 : (List.range 21).all (fun n => match ip_i40 n with | none => true | some q => decide (decode prog_1_method_34_code n = .ok q)) = true := by decide +kernel
set_option maxRecDepth 100000 in
theorem ip_d41 : (List.range 6).all (fun n => match ip_i41 n with | none => true | some q => decide (decode prog_1_method_39_code n = .ok q)) = true := by decide +kernel
set_option maxRecDepth 100000 in
theorem ip_d42 : (List.range 19).all (fun n => match ip_i42 n with | none => true | some q => decide (decode prog_1_method_41_code n = .ok q)) = true := by decide +kernel
set_option maxRecDepth 100000 in
theorem ip_d43 : (List.range 23).all (fun n => match ip_i43 n with | none => true | some q => decide (decode prog_1_method_42_code n = .ok q)) = true := by decide +kernel
set_option maxRecDepth 100000 in
theorem ip_d44 : (List.range 39).all (fun n => match ip_i44 n with | none => true | some q => decide (decode prog_1_method_47_code n = .ok q)) = true := by decide +kernel
set_option maxRecDepth 100000 in
theorem ip_d45 : (List.range 78).all (fun n => match ip_i45 n with | none => true | some q => decide (decode prog_3_method_6_code n = .ok q)) = true := by decide +kernel
set_option maxRecDepth 100000 in
theorem ip_d46 : (List.range 19).all (fun n => match ip_i46 n with | none => true | some q => decide (decode prog_1_method_44_code n = .ok q)) = true := by decide +kernel
set_option maxRecDepth 100000 in
theorem ip_d47 : (List.range 51).all (fun n => match ip_i47 n with | none => true | some q => decide (decode prog_1_method_48_code n = .ok q)) = true := by decide +kernel
set_option maxRecDepth 100000 in
theorem ip_d48 : (List.range 23).all (fun n => match ip_i48 n with | none => true | some q => decide (decode prog_1_method_49_code n = .ok q)) = true := by decide +kernel
set_option maxRecDepth 100000 in
theorem ip_d49 : (List.range 48).all (fun n => match ip_i49 n with | none => true | some q => decide (decode prog_1_method_50_code n = .ok q)) = true := by decide +kernel
set_option maxRecDepth 100000 in
theorem ip_d50 : (List.range 33).all (fun n => match ip_i50 n with | none => true | some q => decide (decode prog_6_method_2_code n = .ok q)) = true := by decide +kernel
set_option maxRecDepth 100000 in
theorem ip_d51 : (List.range 174).all (fun n => match ip_i51 n with | none => true | some q => decide (decode prog_6_method_3_code n = .ok q)) = true := by decide +kernel
set_option maxRecDepth 100000 in
theorem ip_d52 : (List.range 34).all (fun n => match ip_i52 n with | none => true | some q => decide (decode prog_6_method_6_code n = .ok q)) = true := by decide +kernel
set_option maxRecDepth 100000 in
theorem ip_d53 : (List.range 11).all (fun n => match ip_i53 n with | none => true | some q => decide (decode prog_11_method_69_code n = .ok q)) = true := by decide +kernel
set_option maxRecDepth 100000 in
theorem ip_d54 : (List.range 58).all (fun n => match ip_i54 n with | none => true | some q => decide (decode prog_6_method_5_code n = .ok q)) = true := by decide +kernel
set_option maxRecDepth 100000 in
theorem ip_d55 : (List.range 46).all (fun n => match ip_i55 n with | none => true | some q => decide (decode prog_6_method_7_code n = .ok q)) = true := by decide +kernel
set_option maxRecDepth 100000 in
theorem ip_d56 : (List.range 98).all (fun n => match ip_i56 n with | none => true | some q => decide (decode prog_6_method_4_code n = .ok q)) = true := by decide +kernel
set_option maxRecDepth 100000 in
theorem ip_d57 : (List.range 67).all (fun n => match ip_i57 n with | none => true | some q => decide (decode prog_1_method_51_code n = .ok q)) = true := by decide +kernel
set_option maxRecDepth 100000 in
theorem ip_d58 : (List.range 53).all (fun n => match ip_i58 n with | none => true | some q => decide (decode prog_9_method_49_code n = .ok q)) = true := by decide +kernel
set_option maxRecDepth 100000 in
theorem ip_d59 : (List.range 56).all (fun n => match ip_i59 n with | none => true | some q => decide (decode prog_1_method_52_code n = .ok q)) = true := by decide +kernel
set_option maxRecDepth 100000 in
theorem ip_d60 : (List.range 69).all (fun n => match ip_i60 n with | none => true | some q => decide (decode prog_1_method_53_code n = .ok q)) = true := by decide +kernel
set_option maxRecDepth 100000 in
theorem ip_d61 : (List.range 100).all (fun n => match ip_i61 n with | none => true | some q => decide (decode prog_1_method_55_code n = .ok q)) = true := by decide +kernel
set_option maxRecDepth 100000 in
theorem ip_d62 : (List.range 27).all (fun n => match ip_i62 n with | none => true | some q => decide (decode prog_1_method_46_code n = .ok q)) = true := by decide +kernel
set_option maxRecDepth 100000 in
theorem ip_d63 : (List.range 83).all (fun n => match ip_i63 n with | none => true | some q => decide (decode prog_2_method_5_code n = .ok q)) = true := by decide +kernel
set_option maxRecDepth 100000 in
theorem ip_d64 : (List.range 35).all (fun n => match ip_i64 n with | none => true | some q => decide (decode prog_1_method_57_code n = .ok q)) = true := by decide +kernel
set_option maxRecDepth 100000 in
theorem ip_d65 : (List.range 28).all (fun n => match ip_i65 n with | none => true | some q => decide (decode prog_1_method_59_code n = .ok q)) = true := by decide +kernel
set_option maxRecDepth 100000 in
theorem ip_d66 : (List.range 68).all (fun n => match ip_i66 n with | none => true | some q => decide (decode prog_1_method_58_code n = .ok q)) = true := by decide +kernel
set_option maxRecDepth 100000 in
theorem ip_d67 : (List.range 243).all (fun n => match ip_i67 n with | none => true | some q => decide (decode prog_1_method_10_code n = .ok q)) = true := by decide +kernel
set_option maxRecDepth 100000 in
theorem ip_d68 : (List.range 25).all (fun n => match ip_i68 n with | none => true | some q => decide (decode prog_1_method_38_code n = .ok q)) = true := by decide +kernel
set_option maxRecDepth 100000 in
theorem ip_d69 : (List.range 48).all (fun n => match ip_i69 n with | none => true | some q => decide (decode prog_1_method_11_code n = .ok q)) = true := by decide +kernel
set_option maxRecDepth 100000 in
theorem ip_d70 : (List.range 27).all (fun n => match ip_i70 n with | none => true | some q => decide (decode prog_1_method_12_code n = .ok q)) = true := by decide +kernel
set_option maxRecDepth 100000 in
theorem ip_d71 : (List.range 50).all (fun n => match ip_i71 n with | none => true | some q => decide (decode prog_1_method_13_code n = .ok q)) = true := by decide +kernel
set_option maxRecDepth 100000 in
theorem ip_d72 : (List.range 29).all (fun n => match ip_i72 n with | none => true | some q => decide (decode prog_1_method_56_code n = .ok q)) = true := by decide +kernel
set_option maxRecDepth 100000 in
theorem ip_d73 : (List.range 76).all (fun n => match ip_i73 n with | none => true | some q => decide (decode prog_1_method_14_code n = .ok q)) = true := by decide +kernel
set_option maxRecDepth 100000 in
theorem ip_d74 : (List.range 16).all (fun n => match ip_i74 n with | none => true | some q => decide (decode prog_1_method_35_code n = .ok q)) = true := by decide +kernel
set_option maxRecDepth 100000 in
theorem ip_d75 : (List.range 15).all (fun n => match ip_i75 n with | none => true | some q => decide (decode prog_1_method_37_code n = .ok q)) = true := by decide +kernel
set_option maxRecDepth 100000 in
theorem ip_d76 : (List.range 150).all (fun n => match ip_i76 n with | none => true | some q => decide (decode prog_1_method_15_code n = .ok q)) = true := by decide +kernel
set_option maxRecDepth 100000 in
theorem ip_d77 : (List.range 87).all (fun n => match ip_i77 n with | none => true | some q => decide (decode prog_1_method_16_code n = .ok q)) = true := by decide +kernel
set_option maxRecDepth 100000 in
theorem ip_d78 : (List.range 35).all (fun n => match ip_i78 n with | none => true | some q => decide (decode prog_1_method_17_code n = .ok q)) = true := by decide +kernel
set_option maxRecDepth 100000 in
theorem ip_d79 : (List.range 135).all (fun n => match ip_i79 n with | none => true | some q => decide (decode prog_1_method_54_code n = .ok q)) = true := by decide +kernel
set_option maxRecDepth 100000 in
theorem ip_d80 : (List.range 92).all (fun n => match ip_i80 n with | none => true | some q => decide (decode prog_1_method_18_code n = .ok q)) = true := by decide +kernel
set_option maxRecDepth 100000 in
theorem ip_d81 : (List.range 96).all (fun n => match ip_i81 n with | none => true | some q => decide (decode prog_1_method_19_code n = .ok q)) = true := by decide +kernel
set_option maxRecDepth 100000 in
theorem ip_d82 : (List.range 44).all (fun n => match ip_i82 n with | none => true | some q => decide (decode prog_2_method_4_code n = .ok q)) = true := by decide +kernel
set_option maxRecDepth 100000 in
theorem ip_d83 : (List.range 71).all (fun n => match ip_i83 n with | none => true | some q => decide (decode prog_1_method_20_code n = .ok q)) = true := by decide +kernel
set_option maxRecDepth 100000 in
theorem ip_d84 : (List.range 18).all (fun n => match ip_i84 n with | none => true | some q => decide (decode prog_1_method_21_code n = .ok q)) = true := by decide +kernel
set_option maxRecDepth 100000 in
theorem ip_d85 : (List.range 16).all (fun n => match ip_i85 n with | none => true | some q => decide (decode prog_1_method_60_code n = .ok q)) = true := by decide +kernel
set_option maxRecDepth 100000 in
theorem ip_d86 : (List.range 15).all (fun n => match ip_i86 n with | none => true | some q => decide (decode prog_1_method_61_code n = .ok q)) = true := by decide +kernel
set_option maxRecDepth 100000 in
theorem ip_d87 : (List.range 212).all (fun n => match ip_i87 n with | none => true | some q => decide (decode prog_1_method_22_code n = .ok q)) = true := by decide +kernel
set_option maxRecDepth 100000 in
theorem ip_d88 : (List.range 49).all (fun n => match ip_i88 n with | none => true | some q => decide (decode prog_3_method_5_code n = .ok q)) = true := by decide +kernel
set_option maxRecDepth 100000 in
theorem ip_d89 : (List.range 98).all (fun n => match ip_i89 n with | none => true | some q => decide (decode prog_2_method_3_code n = .ok q)) = true := by decide +kernel
set_option maxRecDepth 100000 in
theorem ip_d90 : (List.range 34).all (fun n => match ip_i90 n with | none => true | some q => decide (decode prog_1_method_23_code n = .ok q)) = true := by decide +kernel
set_option maxRecDepth 100000 in
theorem ip_d91 : (List.range 29).all (fun n => match ip_i91 n with | none => true | some q => decide (decode prog_1_method_24_code n = .ok q)) = true := by decide +kernel
set_option maxRecDepth 100000 in
theorem ip_d92 : (List.range 41).all (fun n => match ip_i92 n with | none => true | some q => decide (decode prog_1_method_62_code n = .ok q)) = true := by decide +kernel
set_option maxRecDepth 100000 in
theorem ip_d93 : (List.range 48).all (fun n => match ip_i93 n with | none => true | some q => decide (decode prog_1_method_63_code n = .ok q)) = true := by decide +kernel
set_option maxRecDepth 100000 in
theorem ip_d94 : (List.range 41).all (fun n => match ip_i94 n with | none => true | some q => decide (decode prog_1_method_64_code n = .ok q)) = true := by decide +kernel
set_option maxRecDepth 100000 in
theorem ip_d95 : (List.range 41).all (fun n => match ip_i95 n with | none => true | some q => decide (decode prog_1_method_65_code n = .ok q)) = true := by decide +kernel
set_option maxRecDepth 100000 in
theorem ip_d96 : (List.range 161).all (fun n => match ip_i96 n with | none => true | some q => decide (decode prog_1_method_25_code n = .ok q)) = true := by decide +kernel
set_option maxRecDepth 100000 in
theorem ip_d97 : (List.range 187).all (fun n => match ip_i97 n with | none => true | some q => decide (decode prog_1_method_27_code n = .ok q)) = true := by decide +kernel
set_option maxRecDepth 100000 in
theorem ip_d98 : (List.range 134).all (fun n => match ip_i98 n with | none => true | some q => decide (decode prog_1_method_26_code n = .ok q)) = true := by decide +kernel
set_option maxRecDepth 100000 in
theorem ip_d99 : (List.range 52).all (fun n => match ip_i99 n with | none => true | some q => decide (decode prog_8_method_42_code n = .ok q)) = true := by decide +kernel
set_option maxRecDepth 100000 in
theorem ip_d100 : (List.range 45).all (fun n => match ip_i100 n with | none => true | some q => decide (decode prog_8_method_6_code n = .ok q)) = true := by decide +kernel
set_option maxRecDepth 100000 in
theorem ip_d101 : (List.range 19).all (fun n => match ip_i101 n with | none => true | some q => decide (decode prog_8_method_2_code n = .ok q)) = true := by decide +kernel
set_option maxRecDepth 100000 in
theorem ip_d102 : (List.range 52).all (fun n => match ip_i102 n with | none => true | some q => decide (decode prog_8_method_8_code n = .ok q)) = true := by decide +kernel
set_option maxRecDepth 100000 in
theorem ip_d103 : (List.range 12).all (fun n => match ip_i103 n with | none => true | some q => decide (decode prog_8_method_9_code n = .ok q)) = true := by decide +kernel
set_option maxRecDepth 100000 in
theorem ip_d104 : (List.range 64).all (fun n => match ip_i104 n with | none => true | some q => decide (decode prog_8_method_10_code n = .ok q)) = true := by decide +kernel
set_option maxRecDepth 100000 in
theorem ip_d105 : (List.range 85).all (fun n => match ip_i105 n with | none => true | some q => decide (decode prog_8_method_18_code n = .ok q)) = true := by decide +kernel
set_option maxRecDepth 100000 in
theorem ip_d106 : (List.range 27).all (fun n => match ip_i106 n with | none => true | some q => decide (decode prog_8_method_11_code n = .ok q)) = true := by decide +kernel
set_option maxRecDepth 100000 in
theorem ip_d107 : (List.range 69).all (fun n => match ip_i107 n with | none => true | some q => decide (decode prog_8_method_13_code n = .ok q)) = true := by decide +kernel
set_option maxRecDepth 100000 in
theorem ip_d108 : (List.range 28).all (fun n => match ip_i108 n with | none => true | some q => decide (decode prog_8_method_12_code n = .ok q)) = true := by decide +kernel
set_option maxRecDepth 100000 in
theorem ip_d109 : (List.range 78).all (fun n => match ip_i109 n with | none => true | some q => decide (decode prog_8_method_14_code n = .ok q)) = true := by decide +kernel
set_option maxRecDepth 100000 in
theorem ip_d110 : (List.range 65).all (fun n => match ip_i110 n with | none => true | some q => decide (decode prog_8_method_15_code n = .ok q)) = true := by decide +kernel
set_option maxRecDepth 100000 in
theorem ip_d111 : (List.range 41).all (fun n => match ip_i111 n with | none => true | some q => decide (decode prog_8_method_17_code n = .ok q)) = true := by decide +kernel
set_option maxRecDepth 100000 in
theorem ip_d112 : (List.range 82).all (fun n => match ip_i112 n with | none => true | some q => decide (decode prog_8_method_19_code n = .ok q)) = true := by decide +kernel
set_option maxRecDepth 100000 in
theorem ip_d113 : (List.range 5).all (fun n => match ip_i113 n with | none => true | some q => decide (decode prog_8_method_20_code n = .ok q)) = true := by decide +kernel
set_option maxRecDepth 100000 in
theorem ip_d114 : (List.range 6).all (fun n => match ip_i114 n with | none => true | some q => decide (decode prog_8_method_21_code n = .ok q)) = true := by decide +kernel
set_option maxRecDepth 100000 in
theorem ip_d115 : (List.range 21).all (fun n => match ip_i115 n with | none => true | some q => decide (decode prog_8_method_16_code n = .ok q)) = true := by decide +kernel
set_option maxRecDepth 100000 in
theorem ip_d116 : (List.range 33).all (fun n => match ip_i116 n with | none => true | some q => decide (decode prog_8_method_22_code n = .ok q)) = true := by decide +kernel
set_option maxRecDepth 100000 in
theorem ip_d117 : (List.range 55).all (fun n => match ip_i117 n with | none => true | some q => decide (decode prog_8_method_23_code n = .ok q)) = true := by decide +kernel
set_option maxRecDepth 100000 in
theorem ip_d118 : (List.range 7).all (fun n => match ip_i118 n with | none => true | some q => decide (decode prog_8_method_7_code n = .ok q)) = true := by decide +kernel
set_option maxRecDepth 100000 in
theorem ip_d119 : (List.range 47).all (fun n => match ip_i119 n with | none => true | some q => decide (decode prog_8_method_25_code n = .ok q)) = true := by decide +kernel
set_option maxRecDepth 100000 in
theorem ip_d120 : (List.range 20).all (fun n => match ip_i120 n with | none => true | some q => decide (decode prog_8_method_24_code n = .ok q)) = true := by decide +kernel
set_option maxRecDepth 100000 in
theorem ip_d121 : (List.range 65).all (fun n => match ip_i121 n with | none => true | some q => decide (decode prog_8_method_26_code n = .ok q)) = true := by decide +kernel
set_option maxRecDepth 100000 in
theorem ip_d122 : (List.range 76).all (fun n => match ip_i122 n with | none => true | some q => decide (decode prog_8_method_27_code n = .ok q)) = true := by decide +kernel
set_option maxRecDepth 100000 in
theorem ip_d123 : (List.range 238).all (fun n => match ip_i123 n with | none => true | some q => decide (decode prog_8_method_28_code n = .ok q)) = true := by decide +kernel
set_option maxRecDepth 100000 in
theorem ip_d124 : (List.range 63).all (fun n => match ip_i124 n with | none => true | some q => decide (decode prog_8_method_29_code n = .ok q)) = true := by decide +kernel
set_option maxRecDepth 100000 in
theorem ip_d125 : (List.range 190).all (fun n => match ip_i125 n with | none => true | some q => decide (decode prog_8_method_30_code n = .ok q)) = true := by decide +kernel
set_option maxRecDepth 100000 in
theorem ip_d126 : (List.range 13).all (fun n => match ip_i126 n with | none => true | some q => decide (decode prog_8_method_31_code n = .ok q)) = true := by decide +kernel
set_option maxRecDepth 100000 in
theorem ip_d127 : (List.range 27).all (fun n => match ip_i127 n with | none => true | some q => decide (decode prog_8_method_4_code n = .ok q)) = true := by decide +kernel
set_option maxRecDepth 100000 in
theorem ip_d128 : (List.range 52).all (fun n => match ip_i128 n with | none => true | some q => decide (decode prog_8_method_32_code n = .ok q)) = true := by decide +kernel
set_option maxRecDepth 100000 in
theorem ip_d129 : (List.range 76).all (fun n => match ip_i129 n with | none => true | some q => decide (decode prog_8_method_36_code n = .ok q)) = true := by decide +kernel
set_option maxRecDepth 100000 in
theorem ip_d130 : (List.range 48).all (fun n => match ip_i130 n with | none => true | some q => decide (decode prog_8_method_37_code n = .ok q)) = true := by decide +kernel
set_option maxRecDepth 100000 in
theorem ip_d131 : (List.range 89).all (fun n => match ip_i131 n with | none => true | some q => decide (decode prog_8_method_38_code n = .ok q)) = true := by decide +kernel
set_option maxRecDepth 100000 in
theorem ip_d132 : (List.range 81).all (fun n => match ip_i132 n with | none => true | some q => decide (decode prog_8_method_39_code n = .ok q)) = true := by decide +kernel
set_option maxRecDepth 100000 in
theorem ip_d133 : (List.range 33).all (fun n => match ip_i133 n with | none => true | some q => decide (decode prog_8_method_40_code n = .ok q)) = true := by decide +kernel
set_option maxRecDepth 100000 in
theorem ip_d134 : (List.range 37).all (fun n => match ip_i134 n with | none => true | some q => decide (decode prog_8_method_41_code n = .ok q)) = true := by decide +kernel
set_option maxRecDepth 100000 in
theorem ip_d135 : (List.range 14).all (fun n => match ip_i135 n with | none => true | some q => decide (decode prog_8_method_33_code n = .ok q)) = true := by decide +kernel
set_option maxRecDepth 100000 in
theorem ip_d136 : (List.range 15).all (fun n => match ip_i136 n with | none => true | some q => decide (decode prog_8_method_45_code n = .ok q)) = true := by decide +kernel
set_option maxRecDepth 100000 in
theorem ip_d137 : (List.range 12).all (fun n => match ip_i137 n with | none => true | some q => decide (decode prog_8_method_43_code n = .ok q)) = true := by decide +kernel
set_option maxRecDepth 100000 in
theorem ip_d138 : (List.range 110).all (fun n => match ip_i138 n with | none => true | some q => decide (decode prog_8_method_46_code n = .ok q)) = true := by decide +kernel
set_option maxRecDepth 100000 in
theorem ip_d139 : (List.range 46).all (fun n => match ip_i139 n with | none => true | some q => decide (decode prog_8_method_44_code n = .ok q)) = true := by decide +kernel
set_option maxRecDepth 100000 in
theorem ip_d140 : (List.range 16).all (fun n => match ip_i140 n with | none => true | some q => decide (decode prog_8_method_47_code n = .ok q)) = true := by decide +kernel
set_option maxRecDepth 100000 in
theorem ip_d141 : (List.range 30).all (fun n => match ip_i141 n with | none => true | some q => decide (decode prog_8_method_48_code n = .ok q)) = true := by decide +kernel
set_option maxRecDepth 100000 in
theorem ip_d142 : (List.range 51).all (fun n => match ip_i142 n with | none => true | some q => decide (decode prog_8_method_49_code n = .ok q)) = true := by decide +kernel
set_option maxRecDepth 100000 in
theorem ip_d143 : (List.range 9).all (fun n => match ip_i143 n with | none => true | some q => decide (decode prog_8_method_50_code n = .ok q)) = true := by decide +kernel
set_option maxRecDepth 100000 in
theorem ip_d144 : (List.range 60).all (fun n => match ip_i144 n with | none => true | some q => decide (decode prog_8_method_51_code n = .ok q)) = true := by decide +kernel
set_option maxRecDepth 100000 in
theorem ip_d145 : (List.range 248).all (fun n => match ip_i145 n with | none => true | some q => decide (decode prog_8_method_52_code n = .ok q)) = true := by decide +kernel
set_option maxRecDepth 100000 in
theorem ip_d146 : (List.range 156).all (fun n => match ip_i146 n with | none => true | some q => decide (decode prog_8_method_53_code n = .ok q)) = true := by decide +kernel
set_option maxRecDepth 100000 in
theorem ip_d147 : (List.range 56).all (fun n => match ip_i147 n with | none => true | some q => decide (decode prog_8_method_54_code n = .ok q)) = true := by decide +kernel
set_option maxRecDepth 100000 in
theorem ip_d148 : (List.range 41).all (fun n => match ip_i148 n with | none => true | some q => decide (decode prog_8_method_55_code n = .ok q)) = true := by decide +kernel
set_option maxRecDepth 100000 in
theorem ip_d149 : (List.range 104).all (fun n => match ip_i149 n with | none => true | some q => decide (decode prog_8_method_57_code n = .ok q)) = true := by decide +kernel
set_option maxRecDepth 100000 in
theorem ip_d150 : (List.range 12).all (fun n => match ip_i150 n with | none => true | some q => decide (decode prog_8_method_76_code n = .ok q)) = true := by decide +kernel
set_option maxRecDepth 100000 in
theorem ip_d151 : (List.range 112).all (fun n => match ip_i151 n with | none => true | some q => decide (decode prog_8_method_77_code n = .ok q)) = true := by decide +kernel
set_option maxRecDepth 100000 in
theorem ip_d152 : (List.range 143).all (fun n => match ip_i152 n with | none => true | some q => decide (decode prog_8_method_78_code n = .ok q)) = true := by decide +kernel
set_option maxRecDepth 100000 in
theorem ip_d153 : (List.range 197).all (fun n => match ip_i153 n with | none => true | some q => decide (decode prog_8_method_58_code n = .ok q)) = true := by decide +kernel
set_option maxRecDepth 100000 in
theorem ip_d154 : (List.range 20).all (fun n => match ip_i154 n with | none => true | some q => decide (decode prog_8_method_59_code n = .ok q)) = true := by decide +kernel
set_option maxRecDepth 100000 in
theorem ip_d155 : (List.range 72).all (fun n => match ip_i155 n with | none => true | some q => decide (decode prog_8_method_60_code n = .ok q)) = true := by decide +kernel
set_option maxRecDepth 100000 in
theorem ip_d156 : (List.range 20).all (fun n => match ip_i156 n with | none => true | some q => decide (decode prog_8_method_61_code n = .ok q)) = true := by decide +kernel
set_option maxRecDepth 100000 in
theorem ip_d157 : (List.range 41).all (fun n => match ip_i157 n with | none => true | some q => decide (decode prog_8_method_62_code n = .ok q)) = true := by decide +kernel
set_option maxRecDepth 100000 in
theorem ip_d158 : (List.range 23).all (fun n => match ip_i158 n with | none => true | some q => decide (decode prog_8_method_5_code n = .ok q)) = true := by decide +kernel
set_option maxRecDepth 100000 in
theorem ip_d159 : (List.range 50).all (fun n => match ip_i159 n with | none => true | some q => decide (decode prog_8_method_63_code n = .ok q)) = true := by decide +kernel
set_option maxRecDepth 100000 in
theorem ip_d160 : (List.range 33).all (fun n => match ip_i160 n with | none => true | some q => decide (decode prog_8_method_64_code n = .ok q)) = true := by decide +kernel
set_option maxRecDepth 100000 in
theorem ip_d161 : (List.range 10).all (fun n => match ip_i161 n with | none => true | some q => decide (decode prog_8_method_34_code n = .ok q)) = true := by decide +kernel
set_option maxRecDepth 100000 in
theorem ip_d162 : (List.range 8).all (fun n => match ip_i162 n with | none => true | some q => decide (decode prog_8_method_35_code n = .ok q)) = true := by decide +kernel
set_option maxRecDepth 100000 in
theorem ip_d163 : (List.range 144).all (fun n => match ip_i163 n with | none => true | some q => decide (decode prog_8_method_65_code n = .ok q)) = true := by decide +kernel
set_option maxRecDepth 100000 in
theorem ip_d164 : (List.range 87).all (fun n => match ip_i164 n with | none => true | some q => decide (decode prog_8_method_66_code n = .ok q)) = true := by decide +kernel
set_option maxRecDepth 100000 in
theorem ip_d165 : (List.range 56).all (fun n => match ip_i165 n with | none => true | some q => decide (decode prog_8_method_67_code n = .ok q)) = true := by decide +kernel
set_option maxRecDepth 100000 in
theorem ip_d166 : (List.range 113).all (fun n => match ip_i166 n with | none => true | some q => decide (decode prog_8_method_69_code n = .ok q)) = true := by decide +kernel
set_option maxRecDepth 100000 in
theorem ip_d167 : (List.range 26).all (fun n => match ip_i167 n with | none => true | some q => decide (decode prog_8_method_68_code n = .ok q)) = true := by decide +kernel
set_option maxRecDepth 100000 in
theorem ip_d168 : (List.range 210).all (fun n => match ip_i168 n with | none => true | some q => decide (decode prog_8_method_70_code n = .ok q)) = true := by decide +kernel
set_option maxRecDepth 100000 in
theorem ip_d169 : (List.range 46).all (fun n => match ip_i169 n with | none => true | some q => decide (decode prog_8_method_71_code n = .ok q)) = true := by decide +kernel
set_option maxRecDepth 100000 in
theorem ip_d170 : (List.range 61).all (fun n => match ip_i170 n with | none => true | some q => decide (decode prog_8_method_72_code n = .ok q)) = true := by decide +kernel
set_option maxRecDepth 100000 in
theorem ip_d171 : (List.range 17).all (fun n => match ip_i171 n with | none => true | some q => decide (decode prog_8_method_73_code n = .ok q)) = true := by decide +kernel
set_option maxRecDepth 100000 in
theorem ip_d172 : (List.range 118).all (fun n => match ip_i172 n with | none => true | some q => decide (decode prog_8_method_74_code n = .ok q)) = true := by decide +kernel
set_option maxRecDepth 100000 in
theorem ip_d173 : (List.range 12).all (fun n => match ip_i173 n with | none => true | some q => decide (decode prog_8_method_75_code n = .ok q)) = true := by decide +kernel
set_option maxRecDepth 100000 in
theorem ip_d174 : (List.range 33).all (fun n => match ip_i174 n with | none => true | some q => decide (decode prog_8_method_79_code n = .ok q)) = true := by decide +kernel
set_option maxRecDepth 100000 in
theorem ip_d175 : (List.range 204).all (fun n => match ip_i175 n with | none => true | some q => decide (decode prog_8_method_80_code n = .ok q)) = true := by decide +kernel
set_option maxRecDepth 100000 in
theorem ip_d176 : (List.range 21).all (fun n => match ip_i176 n with | none => true | some q => decide (decode prog_8_method_3_code n = .ok q)) = true := by decide +kernel
set_option maxRecDepth 100000 in
theorem ip_d177 : (List.range 118).all (fun n => match ip_i177 n with | none => true | some q => decide (decode prog_8_method_81_code n = .ok q)) = true := by decide +kernel
set_option maxRecDepth 100000 in
theorem ip_d178 : (List.range 114).all (fun n => match ip_i178 n with | none => true | some q => decide (decode prog_8_method_82_code n = .ok q)) = true := by decide +kernel
set_option maxRecDepth 100000 in
theorem ip_d179 : (List.range 31).all (fun n => match ip_i179 n with | none => true | some q => decide (decode prog_8_method_83_code n = .ok q)) = true := by decide +kernel
set_option maxRecDepth 100000 in
theorem ip_d180 : (List.range 45).all (fun n => match ip_i180 n with | none => true | some q => decide (decode prog_8_method_84_code n = .ok q)) = true := by decide +kernel
set_option maxRecDepth 100000 in
theorem ip_d181 : (List.range 28).all (fun n => match ip_i181 n with | none => true | some q => decide (decode prog_8_method_85_code n = .ok q)) = true := by decide +kernel
set_option maxRecDepth 100000 in
theorem ip_d182 : (List.range 41).all (fun n => match ip_i182 n with | none => true | some q => decide (decode prog_8_method_56_code n = .ok q)) = true := by decide +kernel
set_option maxRecDepth 100000 in
theorem ip_d183 : (List.range 28).all (fun n => match ip_i183 n with | none => true | some q => decide (decode prog_8_method_86_code n = .ok q)) = true := by decide +kernel
set_option maxRecDepth 100000 in
theorem ip_d184 : (List.range 139).all (fun n => match ip_i184 n with | none => true | some q => decide (decode prog_8_method_87_code n = .ok q)) = true := by decide +kernel
set_option maxRecDepth 100000 in
theorem ip_d185 : (List.range 6).all (fun n => match ip_i185 n with | none => true | some q => decide (decode prog_8_method_88_code n = .ok q)) = true := by decide +kernel
set_option maxRecDepth 100000 in
theorem ip_d186 : (List.range 15).all (fun n => match ip_i186 n with | none => true | some q => decide (decode prog_8_method_89_code n = .ok q)) = true := by decide +kernel
set_option maxRecDepth 100000 in
theorem ip_d187 : (List.range 107).all (fun n => match ip_i187 n with | none => true | some q => decide (decode prog_8_method_90_code n = .ok q)) = true := by decide +kernel
set_option maxRecDepth 100000 in
theorem ip_d188 : (List.range 124).all (fun n => match ip_i188 n with | none => true | some q => decide (decode prog_8_method_91_code n = .ok q)) = true := by decide +kernel
set_option maxRecDepth 100000 in
theorem ip_d189 : (List.range 783).all (fun n => match ip_i189 n with | none => true | some q => decide (decode code n = .ok q)) = true := by decide +kernel
