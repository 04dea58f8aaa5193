set_option maxRecDepth 100000 in
theorem lmX10_3 : Cond.methodLink RX10 3 Lib.objectInit ∈ jw := jw_s1 27 rfl rfl
set_option maxRecDepth 100000 in
theorem lcX10_9 : Cond.classLink RX10 9 RX9 ∈ jw := jw_s1 30 rfl rfl
set_option maxRecDepth 100000 in
theorem li_RX9 : Cond.instantiable RX9 2 ∈ jw := jw_s1 31 rfl rfl
set_option maxRecDepth 100000 in
theorem ln_RX9 : Cond.initialized RX9 ∈ jw := jw_s1 2 rfl rfl
set_option maxRecDepth 100000 in
theorem lmX10_11 : Cond.methodLink RX10 11 yX9_init ∈ jw := jw_s1 32 rfl rfl
set_option maxRecDepth 100000 in
theorem lcX10_20 : Cond.classLink RX10 20 RX6 ∈ jw := jw_s1 109 rfl rfl
set_option maxRecDepth 100000 in
theorem li_RX6 : Cond.instantiable RX6 4 ∈ jw := jw_s1 110 rfl rfl
set_option maxRecDepth 100000 in
theorem ln_RX6 : Cond.initialized RX6 ∈ jw := jw_s1 8 rfl rfl
set_option maxRecDepth 100000 in
theorem lmX10_22 : Cond.methodLink RX10 22 yX6_init ∈ jw := jw_s1 111 rfl rfl
set_option maxRecDepth 100000 in
theorem lcX10_45 : Cond.classLink RX10 45 RX7 ∈ jw := jw_s1 132 rfl rfl
set_option maxRecDepth 100000 in
theorem li_RX7 : Cond.instantiable RX7 6 ∈ jw := jw_s1 133 rfl rfl
set_option maxRecDepth 100000 in
theorem ln_RX7 : Cond.initialized RX7 ∈ jw := jw_s1 9 rfl rfl
set_option maxRecDepth 100000 in
theorem lmX10_47 : Cond.methodLink RX10 47 yX7_init ∈ jw := jw_s1 134 rfl rfl
set_option maxRecDepth 100000 in
theorem lcX10_54 : Cond.classLink RX10 54 RX4 ∈ jw := jw_s1 161 rfl rfl
set_option maxRecDepth 100000 in
theorem li_RX4 : Cond.instantiable RX4 7 ∈ jw := jw_s1 162 rfl rfl
set_option maxRecDepth 100000 in
theorem ln_RX4 : Cond.initialized RX4 ∈ jw := jw_s1 10 rfl rfl
set_option maxRecDepth 100000 in
theorem lmX10_56 : Cond.methodLink RX10 56 yX4_init ∈ jw := jw_s1 163 rfl rfl
set_option maxRecDepth 100000 in
theorem lcX10_82 : Cond.classLink RX10 82 RX0 ∈ jw := jw_s1 239 rfl rfl
set_option maxRecDepth 100000 in
theorem li_RX0 : Cond.instantiable RX0 2 ∈ jw := jw_s2 0 rfl rfl
set_option maxRecDepth 100000 in
theorem ln_RX0 : Cond.initialized RX0 ∈ jw := jw_s1 13 rfl rfl
set_option maxRecDepth 100000 in
theorem lmX10_84 : Cond.methodLink RX10 84 yX0_init ∈ jw := jw_s2 1 rfl rfl
set_option maxRecDepth 100000 in
theorem lcL_7 : Cond.classLink RL 7 RX10 ∈ jw := jw_s1 22 rfl rfl
set_option maxRecDepth 100000 in
theorem li_RX10 : Cond.instantiable RX10 17 ∈ jw := jw_s1 23 rfl rfl
set_option maxRecDepth 100000 in
theorem ln_RX10 : Cond.initialized RX10 ∈ jw := jw_s1 1 rfl rfl
set_option maxRecDepth 100000 in
theorem lmL_9 : Cond.methodLink RL 9 yX10_init ∈ jw := jw_s1 24 rfl rfl
set_option maxRecDepth 100000 in
theorem lcL_10 : Cond.classLink RL 10 RX11 ∈ jw := jw_s5 29 rfl rfl
set_option maxRecDepth 100000 in
theorem li_RX11 : Cond.instantiable RX11 71 ∈ jw := jw_s5 30 rfl rfl
set_option maxRecDepth 100000 in
theorem ln_RX11 : Cond.initialized RX11 ∈ jw := jw_s1 14 rfl rfl
set_option maxRecDepth 100000 in
theorem lmL_12 : Cond.methodLink RL 12 yX11_init ∈ jw := jw_s5 31 rfl rfl
set_option maxRecDepth 100000 in
theorem lmL_13 : Cond.methodLink RL 13 yX10_feed ∈ jw := jw_s2 65 rfl rfl
set_option maxRecDepth 100000 in
theorem lmL_17 : Cond.methodLink RL 17 yX11_feed ∈ jw := jw_s6 10 rfl rfl
set_option maxRecDepth 100000 in
theorem lmL_18 : Cond.methodLink RL 18 yX10_end ∈ jw := jw_s2 77 rfl rfl
set_option maxRecDepth 100000 in
theorem lmL_22 : Cond.methodLink RL 22 yX11_end ∈ jw := jw_s6 18 rfl rfl
set_option maxRecDepth 100000 in
theorem lmL_23 : Cond.methodLink RL 23 yX10_facts ∈ jw := jw_s2 81 rfl rfl
set_option maxRecDepth 100000 in
theorem lmL_27 : Cond.methodLink RL 27 yX11_facts ∈ jw := jw_s6 22 rfl rfl
set_option maxRecDepth 100000 in
theorem lmL_28 : Cond.methodLink RL 28 yX10_version ∈ jw := jw_s2 182 rfl rfl
set_option maxRecDepth 100000 in
theorem lmL_31 : Cond.methodLink RL 31 yX11_version ∈ jw := jw_s6 98 rfl rfl
set_option maxRecDepth 100000 in
theorem lmL_32 : Cond.methodLink RL 32 yX10_rider ∈ jw := jw_s3 202 rfl rfl
set_option maxRecDepth 100000 in
theorem lmL_36 : Cond.methodLink RL 36 yX11_rider ∈ jw := jw_s6 197 rfl rfl
set_option maxRecDepth 100000 in
theorem lmL_37 : Cond.methodLink RL 37 yX10_takeOff ∈ jw := jw_s4 59 rfl rfl
set_option maxRecDepth 100000 in
theorem lmL_41 : Cond.methodLink RL 41 yX11_takeOff ∈ jw := jw_s6 217 rfl rfl
set_option maxRecDepth 100000 in
theorem lmL_42 : Cond.methodLink RL 42 yX10_world ∈ jw := jw_s4 63 rfl rfl
set_option maxRecDepth 100000 in
theorem lmL_45 : Cond.methodLink RL 45 yX11_world ∈ jw := jw_s6 225 rfl rfl
set_option maxRecDepth 100000 in
theorem lmL_46 : Cond.methodLink RL 46 yX10_write ∈ jw := jw_s4 82 rfl rfl
set_option maxRecDepth 100000 in
theorem lmL_49 : Cond.methodLink RL 49 yX11_write ∈ jw := jw_s6 237 rfl rfl
set_option maxRecDepth 100000 in
theorem lmL_50 : Cond.methodLink RL 50 yX10_octet ∈ jw := jw_s4 86 rfl rfl
set_option maxRecDepth 100000 in
theorem lmL_53 : Cond.methodLink RL 53 yX11_octet ∈ jw := jw_s7 1 rfl rfl
set_option maxRecDepth 100000 in
theorem lmL_54 : Cond.methodLink RL 54 yX10_back ∈ jw := jw_s4 91 rfl rfl
set_option maxRecDepth 100000 in
theorem lmL_57 : Cond.methodLink RL 57 yX11_back ∈ jw := jw_s7 5 rfl rfl
set_option maxRecDepth 100000 in
theorem lmL_58 : Cond.methodLink RL 58 yX10_clause ∈ jw := jw_s4 96 rfl rfl
set_option maxRecDepth 100000 in
theorem lmL_62 : Cond.methodLink RL 62 yX11_clause_ ∈ jw := jw_s7 9 rfl rfl
set_option maxRecDepth 100000 in
theorem lmL_63 : Cond.methodLink RL 63 yX10_letter ∈ jw := jw_s4 112 rfl rfl
set_option maxRecDepth 100000 in
theorem lmL_66 : Cond.methodLink RL 66 yX11_letter ∈ jw := jw_s7 17 rfl rfl
set_option maxRecDepth 100000 in
theorem lmL_67 : Cond.methodLink RL 67 yX10_holds ∈ jw := jw_s4 117 rfl rfl
set_option maxRecDepth 100000 in
theorem lmL_70 : Cond.methodLink RL 70 yX11_holds ∈ jw := jw_s7 21 rfl rfl
set_option maxRecDepth 100000 in
theorem lmL_71 : Cond.methodLink RL 71 yX10_outcomes ∈ jw := jw_s4 129 rfl rfl
set_option maxRecDepth 100000 in
theorem lmL_74 : Cond.methodLink RL 74 yX11_outcomes ∈ jw := jw_s7 33 rfl rfl
set_option maxRecDepth 100000 in
theorem lmL_75 : Cond.methodLink RL 75 yX10_outcome ∈ jw := jw_s4 146 rfl rfl
set_option maxRecDepth 100000 in
theorem lmL_79 : Cond.methodLink RL 79 yX11_outcome ∈ jw := jw_s7 45 rfl rfl
set_option maxRecDepth 100000 in
theorem lmL_80 : Cond.methodLink RL 80 yX10_differs ∈ jw := jw_s4 170 rfl rfl
set_option maxRecDepth 100000 in
theorem lmL_83 : Cond.methodLink RL 83 yX11_differs ∈ jw := jw_s7 49 rfl rfl
set_option maxRecDepth 100000 in
theorem lmL_84 : Cond.methodLink RL 84 yX10_changed ∈ jw := jw_s4 201 rfl rfl
set_option maxRecDepth 100000 in
theorem lmL_87 : Cond.methodLink RL 87 yX11_changed ∈ jw := jw_s7 53 rfl rfl
set_option maxRecDepth 100000 in
theorem lmL_88 : Cond.methodLink RL 88 yX10_quarrel ∈ jw := jw_s4 212 rfl rfl
set_option maxRecDepth 100000 in
theorem lmL_91 : Cond.methodLink RL 91 yX11_quarrel ∈ jw := jw_s7 65 rfl rfl
set_option maxRecDepth 100000 in
theorem lmL_92 : Cond.methodLink RL 92 yX10_quarreling ∈ jw := jw_s4 221 rfl rfl
set_option maxRecDepth 100000 in
theorem lmL_95 : Cond.methodLink RL 95 yX11_quarreling ∈ jw := jw_s7 73 rfl rfl
set_option maxRecDepth 100000 in
theorem lmL_96 : Cond.methodLink RL 96 yX10_gap ∈ jw := jw_s4 225 rfl rfl
set_option maxRecDepth 100000 in
theorem lmL_99 : Cond.methodLink RL 99 yX11_gap ∈ jw := jw_s7 77 rfl rfl
set_option maxRecDepth 100000 in
theorem lmL_105 : Cond.methodLink RL 105 yX10_due ∈ jw := jw_s5 9 rfl rfl
set_option maxRecDepth 100000 in
theorem lmL_108 : Cond.methodLink RL 108 yX11_due ∈ jw := jw_s7 85 rfl rfl
set_option maxRecDepth 100000 in
theorem lmL_109 : Cond.methodLink RL 109 yX10_count ∈ jw := jw_s5 21 rfl rfl
set_option maxRecDepth 100000 in
theorem lmL_112 : Cond.methodLink RL 112 yX11_count ∈ jw := jw_s7 90 rfl rfl
set_option maxRecDepth 100000 in
theorem lmL_100 : Cond.methodLink RL 100 yX10_free ∈ jw := jw_s4 234 rfl rfl
set_option maxRecDepth 100000 in
theorem lmL_104 : Cond.methodLink RL 104 yX11_free ∈ jw := jw_s7 81 rfl rfl
set_option maxRecDepth 100000 in
theorem lMX0_init : jMI yX0_init cX0_init 1 0 := ⟨rfl, ⟨by decide, by decide⟩, by decide +kernel, jw_s2 2 rfl rfl, jw_s1 13 rfl rfl, jw_s2 3 rfl rfl⟩
set_option maxRecDepth 100000 in
theorem lMX10_back : jMV 11 yX10_back cX10_back 2 (some .int) 0 := ⟨by decide, rfl, ⟨by decide, by decide⟩, by decide +kernel, jw_s4 92 rfl rfl, jw_s4 93 rfl rfl, jw_s1 1 rfl rfl, jw_s4 94 rfl rfl⟩
set_option maxRecDepth 100000 in
theorem lMX10_changed : jMV 11 yX10_changed cX10_changed 11 (some .int) 4 := ⟨by decide, rfl, ⟨by decide, by decide⟩, by decide +kernel, jw_s4 202 rfl rfl, jw_s4 203 rfl rfl, jw_s1 1 rfl rfl, jw_s4 204 rfl rfl⟩
set_option maxRecDepth 100000 in
theorem lMX10_clause : jMV 11 yX10_clause cX10_clause 5 (some .int) 3 := ⟨by decide, rfl, ⟨by decide, by decide⟩, by decide +kernel, jw_s4 97 rfl rfl, jw_s4 98 rfl rfl, jw_s1 1 rfl rfl, jw_s4 99 rfl rfl⟩
set_option maxRecDepth 100000 in
theorem lMX10_count : jMV 11 yX10_count cX10_count 2 (some .int) 1 := ⟨by decide, rfl, ⟨by decide, by decide⟩, by decide +kernel, jw_s5 22 rfl rfl, jw_s5 23 rfl rfl, jw_s1 1 rfl rfl, jw_s5 24 rfl rfl⟩
set_option maxRecDepth 100000 in
theorem lMX10_differs : jMV 11 yX10_differs cX10_differs 6 (some .int) 2 := ⟨by decide, rfl, ⟨by decide, by decide⟩, by decide +kernel, jw_s4 171 rfl rfl, jw_s4 172 rfl rfl, jw_s1 1 rfl rfl, jw_s4 173 rfl rfl⟩
set_option maxRecDepth 100000 in
theorem lMX10_due : jMV 11 yX10_due cX10_due 7 (some .int) 4 := ⟨by decide, rfl, ⟨by decide, by decide⟩, by decide +kernel, jw_s5 10 rfl rfl, jw_s5 11 rfl rfl, jw_s1 1 rfl rfl, jw_s5 12 rfl rfl⟩
set_option maxRecDepth 100000 in
theorem lMX10_end : jMV 11 yX10_end cX10_end 2 (some .int) 1 := ⟨by decide, rfl, ⟨by decide, by decide⟩, by decide +kernel, jw_s2 78 rfl rfl, jw_s2 79 rfl rfl, jw_s1 1 rfl rfl, jw_s2 80 rfl rfl⟩
set_option maxRecDepth 100000 in
theorem lMX10_facts : jMV 11 yX10_facts cX10_facts 1 (some .int) 0 := ⟨by decide, rfl, ⟨by decide, by decide⟩, by decide +kernel, jw_s2 82 rfl rfl, jw_s2 83 rfl rfl, jw_s1 1 rfl rfl, jw_s2 84 rfl rfl⟩
set_option maxRecDepth 100000 in
theorem lMX10_feed : jMV 11 yX10_feed cX10_feed 6 (some .int) 5 := ⟨by decide, rfl, ⟨by decide, by decide⟩, by decide +kernel, jw_s2 66 rfl rfl, jw_s2 67 rfl rfl, jw_s1 1 rfl rfl, jw_s2 68 rfl rfl⟩
set_option maxRecDepth 100000 in
theorem lMX10_free : jMV 11 yX10_free cX10_free 3 (some .boolean) 2 := ⟨by decide, rfl, ⟨by decide, by decide⟩, by decide +kernel, jw_s4 235 rfl rfl, jw_s4 236 rfl rfl, jw_s1 1 rfl rfl, jw_s4 237 rfl rfl⟩
set_option maxRecDepth 100000 in
theorem lMX10_gap : jMV 11 yX10_gap cX10_gap 5 (some .int) 2 := ⟨by decide, rfl, ⟨by decide, by decide⟩, by decide +kernel, jw_s4 226 rfl rfl, jw_s4 227 rfl rfl, jw_s1 1 rfl rfl, jw_s4 228 rfl rfl⟩
set_option maxRecDepth 100000 in
theorem lMX10_holds : jMV 11 yX10_holds cX10_holds 5 (some .int) 3 := ⟨by decide, rfl, ⟨by decide, by decide⟩, by decide +kernel, jw_s4 118 rfl rfl, jw_s4 119 rfl rfl, jw_s1 1 rfl rfl, jw_s4 120 rfl rfl⟩
set_option maxRecDepth 100000 in
theorem lMX10_init : jMI yX10_init cX10_init 2 0 := ⟨rfl, ⟨by decide, by decide⟩, by decide +kernel, jw_s1 25 rfl rfl, jw_s1 1 rfl rfl, jw_s1 26 rfl rfl⟩
set_option maxRecDepth 100000 in
theorem lMX10_letter : jMV 11 yX10_letter cX10_letter 5 (some .int) 3 := ⟨by decide, rfl, ⟨by decide, by decide⟩, by decide +kernel, jw_s4 113 rfl rfl, jw_s4 114 rfl rfl, jw_s1 1 rfl rfl, jw_s4 115 rfl rfl⟩
set_option maxRecDepth 100000 in
theorem lMX10_octet : jMV 11 yX10_octet cX10_octet 2 (some .int) 1 := ⟨by decide, rfl, ⟨by decide, by decide⟩, by decide +kernel, jw_s4 87 rfl rfl, jw_s4 88 rfl rfl, jw_s1 1 rfl rfl, jw_s4 89 rfl rfl⟩
set_option maxRecDepth 100000 in
theorem lMX10_outcome : jMV 11 yX10_outcome cX10_outcome 7 (some .int) 4 := ⟨by decide, rfl, ⟨by decide, by decide⟩, by decide +kernel, jw_s4 147 rfl rfl, jw_s4 148 rfl rfl, jw_s1 1 rfl rfl, jw_s4 149 rfl rfl⟩
set_option maxRecDepth 100000 in
theorem lMX10_quarrel : jMV 11 yX10_quarrel cX10_quarrel 8 (some .int) 1 := ⟨by decide, rfl, ⟨by decide, by decide⟩, by decide +kernel, jw_s4 213 rfl rfl, jw_s4 214 rfl rfl, jw_s1 1 rfl rfl, jw_s4 215 rfl rfl⟩
set_option maxRecDepth 100000 in
theorem lMX10_quarreling : jMV 11 yX10_quarreling cX10_quarreling 2 (some .int) 1 := ⟨by decide, rfl, ⟨by decide, by decide⟩, by decide +kernel, jw_s4 222 rfl rfl, jw_s4 223 rfl rfl, jw_s1 1 rfl rfl, jw_s4 224 rfl rfl⟩
set_option maxRecDepth 100000 in
theorem lMX10_rider : jMV 11 yX10_rider cX10_rider 6 (some .int) 2 := ⟨by decide, rfl, ⟨by decide, by decide⟩, by decide +kernel, jw_s3 203 rfl rfl, jw_s3 204 rfl rfl, jw_s1 1 rfl rfl, jw_s3 205 rfl rfl⟩
set_option maxRecDepth 100000 in
theorem lMX10_takeOff : jMV 11 yX10_takeOff cX10_takeOff 3 (some .boolean) 0 := ⟨by decide, rfl, ⟨by decide, by decide⟩, by decide +kernel, jw_s4 60 rfl rfl, jw_s4 61 rfl rfl, jw_s1 1 rfl rfl, jw_s4 62 rfl rfl⟩
set_option maxRecDepth 100000 in
theorem lMX10_version : jMV 11 yX10_version cX10_version 3 (some .int) 1 := ⟨by decide, rfl, ⟨by decide, by decide⟩, by decide +kernel, jw_s2 183 rfl rfl, jw_s2 184 rfl rfl, jw_s1 1 rfl rfl, jw_s2 185 rfl rfl⟩
set_option maxRecDepth 100000 in
theorem lMX10_world : jMV 11 yX10_world cX10_world 2 (some .int) 0 := ⟨by decide, rfl, ⟨by decide, by decide⟩, by decide +kernel, jw_s4 64 rfl rfl, jw_s4 65 rfl rfl, jw_s1 1 rfl rfl, jw_s4 66 rfl rfl⟩
set_option maxRecDepth 100000 in
theorem lMX10_write : jMV 11 yX10_write cX10_write 3 (some .int) 1 := ⟨by decide, rfl, ⟨by decide, by decide⟩, by decide +kernel, jw_s4 83 rfl rfl, jw_s4 84 rfl rfl, jw_s1 1 rfl rfl, jw_s4 85 rfl rfl⟩
set_option maxRecDepth 100000 in
theorem lMX11_back : jMV 12 yX11_back cX11_back 2 (some .int) 0 := ⟨by decide, rfl, ⟨by decide, by decide⟩, by decide +kernel, jw_s7 6 rfl rfl, jw_s7 7 rfl rfl, jw_s1 14 rfl rfl, jw_s7 8 rfl rfl⟩
set_option maxRecDepth 100000 in
theorem lMX11_changed : jMV 12 yX11_changed cX11_changed 8 (some .int) 4 := ⟨by decide, rfl, ⟨by decide, by decide⟩, by decide +kernel, jw_s7 54 rfl rfl, jw_s7 55 rfl rfl, jw_s1 14 rfl rfl, jw_s7 56 rfl rfl⟩
set_option maxRecDepth 100000 in
theorem lMX11_clause_ : jMV 12 yX11_clause_ cX11_clause_ 5 (some .int) 3 := ⟨by decide, rfl, ⟨by decide, by decide⟩, by decide +kernel, jw_s7 10 rfl rfl, jw_s7 11 rfl rfl, jw_s1 14 rfl rfl, jw_s7 12 rfl rfl⟩
set_option maxRecDepth 100000 in
theorem lMX11_count : jMV 12 yX11_count cX11_count 2 (some .int) 1 := ⟨by decide, rfl, ⟨by decide, by decide⟩, by decide +kernel, jw_s7 91 rfl rfl, jw_s7 92 rfl rfl, jw_s1 14 rfl rfl, jw_s7 93 rfl rfl⟩
set_option maxRecDepth 100000 in
theorem lMX11_differs : jMV 12 yX11_differs cX11_differs 7 (some .int) 2 := ⟨by decide, rfl, ⟨by decide, by decide⟩, by decide +kernel, jw_s7 50 rfl rfl, jw_s7 51 rfl rfl, jw_s1 14 rfl rfl, jw_s7 52 rfl rfl⟩
set_option maxRecDepth 100000 in
theorem lMX11_due : jMV 12 yX11_due cX11_due 7 (some .int) 4 := ⟨by decide, rfl, ⟨by decide, by decide⟩, by decide +kernel, jw_s7 86 rfl rfl, jw_s7 87 rfl rfl, jw_s1 14 rfl rfl, jw_s7 88 rfl rfl⟩
set_option maxRecDepth 100000 in
theorem lMX11_end : jMV 12 yX11_end cX11_end 2 (some .int) 1 := ⟨by decide, rfl, ⟨by decide, by decide⟩, by decide +kernel, jw_s6 19 rfl rfl, jw_s6 20 rfl rfl, jw_s1 14 rfl rfl, jw_s6 21 rfl rfl⟩
set_option maxRecDepth 100000 in
theorem lMX11_facts : jMV 12 yX11_facts cX11_facts 5 (some .int) 0 := ⟨by decide, rfl, ⟨by decide, by decide⟩, by decide +kernel, jw_s6 23 rfl rfl, jw_s6 24 rfl rfl, jw_s1 14 rfl rfl, jw_s6 25 rfl rfl⟩
set_option maxRecDepth 100000 in
theorem lMX11_feed : jMV 12 yX11_feed cX11_feed 6 (some .int) 5 := ⟨by decide, rfl, ⟨by decide, by decide⟩, by decide +kernel, jw_s6 11 rfl rfl, jw_s6 12 rfl rfl, jw_s1 14 rfl rfl, jw_s6 13 rfl rfl⟩
set_option maxRecDepth 100000 in
theorem lMX11_free : jMV 12 yX11_free cX11_free 3 (some .boolean) 2 := ⟨by decide, rfl, ⟨by decide, by decide⟩, by decide +kernel, jw_s7 82 rfl rfl, jw_s7 83 rfl rfl, jw_s1 14 rfl rfl, jw_s7 84 rfl rfl⟩
set_option maxRecDepth 100000 in
theorem lMX11_gap : jMV 12 yX11_gap cX11_gap 6 (some .int) 2 := ⟨by decide, rfl, ⟨by decide, by decide⟩, by decide +kernel, jw_s7 78 rfl rfl, jw_s7 79 rfl rfl, jw_s1 14 rfl rfl, jw_s7 80 rfl rfl⟩
set_option maxRecDepth 100000 in
theorem lMX11_holds : jMV 12 yX11_holds cX11_holds 4 (some .int) 3 := ⟨by decide, rfl, ⟨by decide, by decide⟩, by decide +kernel, jw_s7 22 rfl rfl, jw_s7 23 rfl rfl, jw_s1 14 rfl rfl, jw_s7 24 rfl rfl⟩
set_option maxRecDepth 100000 in
theorem lMX11_init : jMI yX11_init cX11_init 2 0 := ⟨rfl, ⟨by decide, by decide⟩, by decide +kernel, jw_s5 32 rfl rfl, jw_s1 14 rfl rfl, jw_s5 33 rfl rfl⟩
set_option maxRecDepth 100000 in
theorem lMX11_letter : jMV 12 yX11_letter cX11_letter 4 (some .int) 3 := ⟨by decide, rfl, ⟨by decide, by decide⟩, by decide +kernel, jw_s7 18 rfl rfl, jw_s7 19 rfl rfl, jw_s1 14 rfl rfl, jw_s7 20 rfl rfl⟩
set_option maxRecDepth 100000 in
theorem lMX11_octet : jMV 12 yX11_octet cX11_octet 2 (some .int) 1 := ⟨by decide, rfl, ⟨by decide, by decide⟩, by decide +kernel, jw_s7 2 rfl rfl, jw_s7 3 rfl rfl, jw_s1 14 rfl rfl, jw_s7 4 rfl rfl⟩
set_option maxRecDepth 100000 in
theorem lMX11_outcomes : jMV 12 yX11_outcomes cX11_outcomes 3 (some .int) 2 := ⟨by decide, rfl, ⟨by decide, by decide⟩, by decide +kernel, jw_s7 34 rfl rfl, jw_s7 35 rfl rfl, jw_s1 14 rfl rfl, jw_s7 36 rfl rfl⟩
set_option maxRecDepth 100000 in
theorem lMX11_quarrel : jMV 12 yX11_quarrel cX11_quarrel 3 (some .int) 1 := ⟨by decide, rfl, ⟨by decide, by decide⟩, by decide +kernel, jw_s7 66 rfl rfl, jw_s7 67 rfl rfl, jw_s1 14 rfl rfl, jw_s7 68 rfl rfl⟩
set_option maxRecDepth 100000 in
theorem lMX11_quarreling : jMV 12 yX11_quarreling cX11_quarreling 2 (some .int) 1 := ⟨by decide, rfl, ⟨by decide, by decide⟩, by decide +kernel, jw_s7 74 rfl rfl, jw_s7 75 rfl rfl, jw_s1 14 rfl rfl, jw_s7 76 rfl rfl⟩
set_option maxRecDepth 100000 in
theorem lMX11_rider : jMV 12 yX11_rider cX11_rider 8 (some .int) 2 := ⟨by decide, rfl, ⟨by decide, by decide⟩, by decide +kernel, jw_s6 198 rfl rfl, jw_s6 199 rfl rfl, jw_s1 14 rfl rfl, jw_s6 200 rfl rfl⟩
set_option maxRecDepth 100000 in
theorem lMX11_takeOff : jMV 12 yX11_takeOff cX11_takeOff 3 (some .boolean) 0 := ⟨by decide, rfl, ⟨by decide, by decide⟩, by decide +kernel, jw_s6 218 rfl rfl, jw_s6 219 rfl rfl, jw_s1 14 rfl rfl, jw_s6 220 rfl rfl⟩
set_option maxRecDepth 100000 in
theorem lMX11_version : jMV 12 yX11_version cX11_version 2 (some .int) 1 := ⟨by decide, rfl, ⟨by decide, by decide⟩, by decide +kernel, jw_s6 99 rfl rfl, jw_s6 100 rfl rfl, jw_s1 14 rfl rfl, jw_s6 101 rfl rfl⟩
set_option maxRecDepth 100000 in
theorem lMX11_world : jMV 12 yX11_world cX11_world 3 (some .int) 0 := ⟨by decide, rfl, ⟨by decide, by decide⟩, by decide +kernel, jw_s6 226 rfl rfl, jw_s6 227 rfl rfl, jw_s1 14 rfl rfl, jw_s6 228 rfl rfl⟩
set_option maxRecDepth 100000 in
theorem lMX11_write : jMV 12 yX11_write cX11_write 3 (some .int) 1 := ⟨by decide, rfl, ⟨by decide, by decide⟩, by decide +kernel, jw_s6 238 rfl rfl, jw_s6 239 rfl rfl, jw_s1 14 rfl rfl, jw_s7 0 rfl rfl⟩
set_option maxRecDepth 100000 in
theorem lMX4_init : jMI yX4_init cX4_init 5 4 := ⟨rfl, ⟨by decide, by decide⟩, by decide +kernel, jw_s1 164 rfl rfl, jw_s1 10 rfl rfl, jw_s1 165 rfl rfl⟩
set_option maxRecDepth 100000 in
theorem lMX6_init : jMI yX6_init cX6_init 3 2 := ⟨rfl, ⟨by decide, by decide⟩, by decide +kernel, jw_s1 112 rfl rfl, jw_s1 8 rfl rfl, jw_s1 113 rfl rfl⟩
set_option maxRecDepth 100000 in
theorem lMX7_init : jMI yX7_init cX7_init 2 1 := ⟨rfl, ⟨by decide, by decide⟩, by decide +kernel, jw_s1 135 rfl rfl, jw_s1 9 rfl rfl, jw_s1 136 rfl rfl⟩
set_option maxRecDepth 100000 in
theorem lMX9_init : jMI yX9_init cX9_init 2 1 := ⟨rfl, ⟨by decide, by decide⟩, by decide +kernel, jw_s1 33 rfl rfl, jw_s1 2 rfl rfl, jw_s1 34 rfl rfl⟩
