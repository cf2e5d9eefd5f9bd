/-! METHODS, CELLS AND CALLS BY NAME (printed by a program) -/
theorem ce_0 {N : Nat} (hN : 44 ≤ N) : sg_Ce 0 N 0 0 4 := ⟨⟨by decide, by omega⟩, by decide +kernel⟩
theorem ce_1 {N : Nat} (hN : 44 ≤ N) : sg_Ce 0 N 1 0 7 := ⟨⟨by decide, by omega⟩, by decide +kernel⟩
theorem ce_2 {N : Nat} (hN : 44 ≤ N) : sg_Ce 0 N 2 1 23 := ⟨⟨by decide, by omega⟩, by decide +kernel⟩
theorem ce_3 {N : Nat} (hN : 44 ≤ N) : sg_Ce 0 N 3 0 7 := ⟨⟨by decide, by omega⟩, by decide +kernel⟩
theorem ce_4 {N : Nat} (hN : 44 ≤ N) : sg_Ce 0 N 4 1 29 := ⟨⟨by decide, by omega⟩, by decide +kernel⟩
theorem ce_5 {N : Nat} (hN : 44 ≤ N) : sg_Ce 0 N 5 0 8 := ⟨⟨by decide, by omega⟩, by decide +kernel⟩
theorem ce_6 {N : Nat} (hN : 44 ≤ N) : sg_Ce 0 N 6 1 8 := ⟨⟨by decide, by omega⟩, by decide +kernel⟩
theorem ce_7 {N : Nat} (hN : 44 ≤ N) : sg_Ce 0 N 7 1 8 := ⟨⟨by decide, by omega⟩, by decide +kernel⟩
theorem ce_8 {N : Nat} (hN : 44 ≤ N) : sg_Ce 0 N 8 1 30 := ⟨⟨by decide, by omega⟩, by decide +kernel⟩
theorem ce_9 {N : Nat} (hN : 44 ≤ N) : sg_Ce 0 N 9 1 6 := ⟨⟨by decide, by omega⟩, by decide +kernel⟩
theorem ce_10 {N : Nat} (hN : 44 ≤ N) : sg_Ce 0 N 10 1 6 := ⟨⟨by decide, by omega⟩, by decide +kernel⟩
theorem ce_11 {N : Nat} (hN : 44 ≤ N) : sg_Ce 0 N 11 1 6 := ⟨⟨by decide, by omega⟩, by decide +kernel⟩
theorem ce_12 {N : Nat} (hN : 44 ≤ N) : sg_Ce 0 N 12 1 6 := ⟨⟨by decide, by omega⟩, by decide +kernel⟩
theorem ce_13 {N : Nat} (hN : 44 ≤ N) : sg_Ce 0 N 13 0 2 := ⟨⟨by decide, by omega⟩, by decide +kernel⟩
theorem ce_14 {N : Nat} (hN : 44 ≤ N) : sg_Ce 0 N 14 1 8 := ⟨⟨by decide, by omega⟩, by decide +kernel⟩
theorem ce_15 {N : Nat} (hN : 44 ≤ N) : sg_Ce 0 N 15 1 8 := ⟨⟨by decide, by omega⟩, by decide +kernel⟩
theorem ce_16 {N : Nat} (hN : 44 ≤ N) : sg_Ce 0 N 16 1 8 := ⟨⟨by decide, by omega⟩, by decide +kernel⟩
theorem ce_17 {N : Nat} (hN : 44 ≤ N) : sg_Ce 0 N 17 0 9 := ⟨⟨by decide, by omega⟩, by decide +kernel⟩
theorem ce_18 {N : Nat} (hN : 44 ≤ N) : sg_Ce 0 N 18 1 24 := ⟨⟨by decide, by omega⟩, by decide +kernel⟩
theorem ce_19 {N : Nat} (hN : 44 ≤ N) : sg_Ce 0 N 19 1 24 := ⟨⟨by decide, by omega⟩, by decide +kernel⟩
theorem ce_20 {N : Nat} (hN : 44 ≤ N) : sg_Ce 0 N 20 2 24 := ⟨⟨by decide, by omega⟩, by decide +kernel⟩
theorem ce_21 {N : Nat} (hN : 44 ≤ N) : sg_Ce 0 N 21 0 1 := ⟨⟨by decide, by omega⟩, by decide +kernel⟩
theorem ce_22 {N : Nat} (hN : 44 ≤ N) : sg_Ce 0 N 22 1 6 := ⟨⟨by decide, by omega⟩, by decide +kernel⟩
theorem ce_23 {N : Nat} (hN : 44 ≤ N) : sg_Ce 0 N 23 1 6 := ⟨⟨by decide, by omega⟩, by decide +kernel⟩
theorem ce_24 {N : Nat} (hN : 44 ≤ N) : sg_Ce 0 N 24 1 6 := ⟨⟨by decide, by omega⟩, by decide +kernel⟩
theorem ce_25 {N : Nat} (hN : 44 ≤ N) : sg_Ce 0 N 25 1 8 := ⟨⟨by decide, by omega⟩, by decide +kernel⟩
theorem ce_26 {N : Nat} (hN : 44 ≤ N) : sg_Ce 0 N 26 1 144 := ⟨⟨by decide, by omega⟩, by decide +kernel⟩
theorem ce_27 {N : Nat} (hN : 44 ≤ N) : sg_Ce 0 N 27 1 144 := ⟨⟨by decide, by omega⟩, by decide +kernel⟩
theorem ce_28 {N : Nat} (hN : 44 ≤ N) : sg_Ce 0 N 28 1 144 := ⟨⟨by decide, by omega⟩, by decide +kernel⟩
theorem ce_29 {N : Nat} (hN : 44 ≤ N) : sg_Ce 0 N 29 1 192 := ⟨⟨by decide, by omega⟩, by decide +kernel⟩
theorem ce_30 {N : Nat} (hN : 44 ≤ N) : sg_Ce 0 N 30 1 24 := ⟨⟨by decide, by omega⟩, by decide +kernel⟩
theorem ce_31 {N : Nat} (hN : 44 ≤ N) : sg_Ce 0 N 31 1 24 := ⟨⟨by decide, by omega⟩, by decide +kernel⟩
theorem ce_32 {N : Nat} (hN : 44 ≤ N) : sg_Ce 0 N 32 0 1 := ⟨⟨by decide, by omega⟩, by decide +kernel⟩
theorem ce_33 {N : Nat} (hN : 44 ≤ N) : sg_Ce 0 N 33 1 6 := ⟨⟨by decide, by omega⟩, by decide +kernel⟩
theorem ce_34 {N : Nat} (hN : 44 ≤ N) : sg_Ce 0 N 34 1 6 := ⟨⟨by decide, by omega⟩, by decide +kernel⟩
theorem ce_35 {N : Nat} (hN : 44 ≤ N) : sg_Ce 0 N 35 1 6 := ⟨⟨by decide, by omega⟩, by decide +kernel⟩
theorem ce_36 {N : Nat} (hN : 44 ≤ N) : sg_Ce 0 N 36 1 8 := ⟨⟨by decide, by omega⟩, by decide +kernel⟩
theorem ce_37 {N : Nat} (hN : 44 ≤ N) : sg_Ce 0 N 37 1 144 := ⟨⟨by decide, by omega⟩, by decide +kernel⟩
theorem ce_38 {N : Nat} (hN : 44 ≤ N) : sg_Ce 0 N 38 1 144 := ⟨⟨by decide, by omega⟩, by decide +kernel⟩
theorem ce_39 {N : Nat} (hN : 44 ≤ N) : sg_Ce 0 N 39 1 144 := ⟨⟨by decide, by omega⟩, by decide +kernel⟩
theorem ce_40 {N : Nat} (hN : 44 ≤ N) : sg_Ce 0 N 40 1 192 := ⟨⟨by decide, by omega⟩, by decide +kernel⟩
theorem ce_41 {N : Nat} (hN : 44 ≤ N) : sg_Ce 0 N 41 1 24 := ⟨⟨by decide, by omega⟩, by decide +kernel⟩
theorem ce_42 {N : Nat} (hN : 44 ≤ N) : sg_Ce 0 N 42 1 24 := ⟨⟨by decide, by omega⟩, by decide +kernel⟩
theorem ce_43 {N : Nat} (hN : 44 ≤ N) : sg_Ce 0 N 43 1 256 := ⟨⟨by decide, by omega⟩, by decide +kernel⟩
theorem ce_44 {N : Nat} (hN : 75 ≤ N) : sg_Ce 0 N 44 0 10 := ⟨⟨by decide, by omega⟩, by decide +kernel⟩
theorem ce_45 {N : Nat} (hN : 75 ≤ N) : sg_Ce 0 N 45 0 5 := ⟨⟨by decide, by omega⟩, by decide +kernel⟩
theorem ce_46 {N : Nat} (hN : 75 ≤ N) : sg_Ce 0 N 46 0 3 := ⟨⟨by decide, by omega⟩, by decide +kernel⟩
theorem ce_47 {N : Nat} (hN : 75 ≤ N) : sg_Ce 0 N 47 1 8 := ⟨⟨by decide, by omega⟩, by decide +kernel⟩
theorem ce_48 {N : Nat} (hN : 75 ≤ N) : sg_Ce 0 N 48 1 8 := ⟨⟨by decide, by omega⟩, by decide +kernel⟩
theorem ce_49 {N : Nat} (hN : 75 ≤ N) : sg_Ce 0 N 49 1 8 := ⟨⟨by decide, by omega⟩, by decide +kernel⟩
theorem ce_50 {N : Nat} (hN : 75 ≤ N) : sg_Ce 0 N 50 4 10 := ⟨⟨by decide, by omega⟩, by decide +kernel⟩
theorem ce_51 {N : Nat} (hN : 75 ≤ N) : sg_Ce 0 N 51 1 24 := ⟨⟨by decide, by omega⟩, by decide +kernel⟩
theorem ce_52 {N : Nat} (hN : 75 ≤ N) : sg_Ce 0 N 52 1 24 := ⟨⟨by decide, by omega⟩, by decide +kernel⟩
theorem ce_53 {N : Nat} (hN : 75 ≤ N) : sg_Ce 0 N 53 1 24 := ⟨⟨by decide, by omega⟩, by decide +kernel⟩
theorem ce_54 {N : Nat} (hN : 75 ≤ N) : sg_Ce 0 N 54 1 24 := ⟨⟨by decide, by omega⟩, by decide +kernel⟩
theorem ce_55 {N : Nat} (hN : 75 ≤ N) : sg_Ce 0 N 55 1 24 := ⟨⟨by decide, by omega⟩, by decide +kernel⟩
theorem ce_56 {N : Nat} (hN : 75 ≤ N) : sg_Ce 0 N 56 1 24 := ⟨⟨by decide, by omega⟩, by decide +kernel⟩
theorem ce_57 {N : Nat} (hN : 75 ≤ N) : sg_Ce 0 N 57 1 24 := ⟨⟨by decide, by omega⟩, by decide +kernel⟩
theorem ce_58 {N : Nat} (hN : 75 ≤ N) : sg_Ce 0 N 58 1 24 := ⟨⟨by decide, by omega⟩, by decide +kernel⟩
theorem ce_59 {N : Nat} (hN : 75 ≤ N) : sg_Ce 0 N 59 1 24 := ⟨⟨by decide, by omega⟩, by decide +kernel⟩
theorem ce_60 {N : Nat} (hN : 75 ≤ N) : sg_Ce 0 N 60 1 24 := ⟨⟨by decide, by omega⟩, by decide +kernel⟩
theorem ce_61 {N : Nat} (hN : 75 ≤ N) : sg_Ce 0 N 61 0 0 := ⟨⟨by decide, by omega⟩, by decide +kernel⟩
theorem ce_62 {N : Nat} (hN : 75 ≤ N) : sg_Ce 0 N 62 3 9 := ⟨⟨by decide, by omega⟩, by decide +kernel⟩
theorem ce_63 {N : Nat} (hN : 75 ≤ N) : sg_Ce 0 N 63 0 2 := ⟨⟨by decide, by omega⟩, by decide +kernel⟩
theorem ce_64 {N : Nat} (hN : 75 ≤ N) : sg_Ce 0 N 64 1 8 := ⟨⟨by decide, by omega⟩, by decide +kernel⟩
theorem ce_65 {N : Nat} (hN : 75 ≤ N) : sg_Ce 0 N 65 1 8 := ⟨⟨by decide, by omega⟩, by decide +kernel⟩
theorem ce_66 {N : Nat} (hN : 75 ≤ N) : sg_Ce 0 N 66 1 8 := ⟨⟨by decide, by omega⟩, by decide +kernel⟩
theorem ce_67 {N : Nat} (hN : 75 ≤ N) : sg_Ce 0 N 67 0 6 := ⟨⟨by decide, by omega⟩, by decide +kernel⟩
theorem ce_68 {N : Nat} (hN : 75 ≤ N) : sg_Ce 0 N 68 1 4 := ⟨⟨by decide, by omega⟩, by decide +kernel⟩
theorem ce_69 {N : Nat} (hN : 75 ≤ N) : sg_Ce 0 N 69 1 4 := ⟨⟨by decide, by omega⟩, by decide +kernel⟩
theorem ce_70 {N : Nat} (hN : 75 ≤ N) : sg_Ce 0 N 70 4 4 := ⟨⟨by decide, by omega⟩, by decide +kernel⟩
theorem ce_71 {N : Nat} (hN : 75 ≤ N) : sg_Ce 0 N 71 1 60 := ⟨⟨by decide, by omega⟩, by decide +kernel⟩
theorem ce_72 {N : Nat} (hN : 75 ≤ N) : sg_Ce 0 N 72 1 60 := ⟨⟨by decide, by omega⟩, by decide +kernel⟩
theorem ce_73 {N : Nat} (hN : 75 ≤ N) : sg_Ce 0 N 73 1 60 := ⟨⟨by decide, by omega⟩, by decide +kernel⟩
theorem ce_74 {N : Nat} (hN : 75 ≤ N) : sg_Ce 0 N 74 1 60 := ⟨⟨by decide, by omega⟩, by decide +kernel⟩
theorem ce_200 : sg_Ce 200 228 200 0 11 := ⟨⟨by decide, by decide⟩, by decide +kernel⟩
theorem ce_201 : sg_Ce 200 228 201 1 4 := ⟨⟨by decide, by decide⟩, by decide +kernel⟩
theorem ce_202 : sg_Ce 200 228 202 1 4 := ⟨⟨by decide, by decide⟩, by decide +kernel⟩
theorem ce_203 : sg_Ce 200 228 203 1 240 := ⟨⟨by decide, by decide⟩, by decide +kernel⟩
theorem ce_204 : sg_Ce 200 228 204 1 60 := ⟨⟨by decide, by decide⟩, by decide +kernel⟩
theorem ce_205 : sg_Ce 200 228 205 1 64 := ⟨⟨by decide, by decide⟩, by decide +kernel⟩
theorem ce_206 : sg_Ce 200 228 206 1 2 := ⟨⟨by decide, by decide⟩, by decide +kernel⟩
theorem ce_207 : sg_Ce 200 228 207 1 16 := ⟨⟨by decide, by decide⟩, by decide +kernel⟩
theorem ce_208 : sg_Ce 200 228 208 1 24 := ⟨⟨by decide, by decide⟩, by decide +kernel⟩
theorem ce_209 : sg_Ce 200 228 209 1 24 := ⟨⟨by decide, by decide⟩, by decide +kernel⟩
theorem ce_210 : sg_Ce 200 228 210 1 6 := ⟨⟨by decide, by decide⟩, by decide +kernel⟩
theorem ce_211 : sg_Ce 200 228 211 1 6 := ⟨⟨by decide, by decide⟩, by decide +kernel⟩
theorem ce_212 : sg_Ce 200 228 212 1 6 := ⟨⟨by decide, by decide⟩, by decide +kernel⟩
theorem ce_213 : sg_Ce 200 228 213 2 6 := ⟨⟨by decide, by decide⟩, by decide +kernel⟩
theorem ce_214 : sg_Ce 200 228 214 1 6 := ⟨⟨by decide, by decide⟩, by decide +kernel⟩
theorem ce_215 : sg_Ce 200 228 215 1 6 := ⟨⟨by decide, by decide⟩, by decide +kernel⟩
theorem ce_216 : sg_Ce 200 228 216 1 8 := ⟨⟨by decide, by decide⟩, by decide +kernel⟩
theorem ce_217 : sg_Ce 200 228 217 1 8 := ⟨⟨by decide, by decide⟩, by decide +kernel⟩
theorem ce_218 : sg_Ce 200 228 218 1 192 := ⟨⟨by decide, by decide⟩, by decide +kernel⟩
theorem ce_219 : sg_Ce 200 228 219 1 192 := ⟨⟨by decide, by decide⟩, by decide +kernel⟩
theorem ce_220 : sg_Ce 200 228 220 1 192 := ⟨⟨by decide, by decide⟩, by decide +kernel⟩
theorem ce_221 : sg_Ce 200 228 221 1 192 := ⟨⟨by decide, by decide⟩, by decide +kernel⟩
theorem ce_222 : sg_Ce 200 228 222 1 192 := ⟨⟨by decide, by decide⟩, by decide +kernel⟩
theorem ce_223 : sg_Ce 200 228 223 1 192 := ⟨⟨by decide, by decide⟩, by decide +kernel⟩
theorem ce_224 : sg_Ce 200 228 224 1 192 := ⟨⟨by decide, by decide⟩, by decide +kernel⟩
theorem ce_225 : sg_Ce 200 228 225 1 24 := ⟨⟨by decide, by decide⟩, by decide +kernel⟩
theorem ce_226 : sg_Ce 200 228 226 1 240 := ⟨⟨by decide, by decide⟩, by decide +kernel⟩
theorem ce_227 : sg_Ce 200 228 227 1 24 := ⟨⟨by decide, by decide⟩, by decide +kernel⟩
theorem rr_0_0 : sg_rr 0 0 = 1 := by decide +kernel
theorem rr_0_1 : sg_rr 0 1 = 3 := by decide +kernel
theorem rr_0_2 : sg_rr 0 2 = 5 := by decide +kernel
theorem rr_0_3 : sg_rr 0 3 = 13 := by decide +kernel
theorem rr_0_4 : sg_rr 0 4 = 17 := by decide +kernel
theorem rr_0_5 : sg_rr 0 5 = 21 := by decide +kernel
theorem rr_0_6 : sg_rr 0 6 = 32 := by decide +kernel
theorem rr_0_7 : sg_rr 0 7 = 43 := by decide +kernel
theorem rr_1_2 : sg_rr 1 2 = 2 := by decide +kernel
theorem rr_3_2 : sg_rr 3 2 = 4 := by decide +kernel
theorem rr_5_1 : sg_rr 5 1 = 6 := by decide +kernel
theorem rr_5_2 : sg_rr 5 2 = 7 := by decide +kernel
theorem rr_5_3 : sg_rr 5 3 = 8 := by decide +kernel
theorem rr_5_5 : sg_rr 5 5 = 9 := by decide +kernel
theorem rr_5_6 : sg_rr 5 6 = 10 := by decide +kernel
theorem rr_5_7 : sg_rr 5 7 = 11 := by decide +kernel
theorem rr_5_8 : sg_rr 5 8 = 12 := by decide +kernel
theorem rr_13_1 : sg_rr 13 1 = 14 := by decide +kernel
theorem rr_13_2 : sg_rr 13 2 = 15 := by decide +kernel
theorem rr_13_3 : sg_rr 13 3 = 16 := by decide +kernel
theorem rr_17_0 : sg_rr 17 0 = 18 := by decide +kernel
theorem rr_17_1 : sg_rr 17 1 = 19 := by decide +kernel
theorem rr_17_2 : sg_rr 17 2 = 20 := by decide +kernel
theorem rr_21_0 : sg_rr 21 0 = 5 := by decide +kernel
theorem rr_21_1 : sg_rr 21 1 = 17 := by decide +kernel
theorem rr_21_2 : sg_rr 21 2 = 22 := by decide +kernel
theorem rr_21_3 : sg_rr 21 3 = 23 := by decide +kernel
theorem rr_21_4 : sg_rr 21 4 = 24 := by decide +kernel
theorem rr_21_5 : sg_rr 21 5 = 25 := by decide +kernel
theorem rr_21_6 : sg_rr 21 6 = 26 := by decide +kernel
theorem rr_21_7 : sg_rr 21 7 = 27 := by decide +kernel
theorem rr_21_8 : sg_rr 21 8 = 28 := by decide +kernel
theorem rr_21_9 : sg_rr 21 9 = 29 := by decide +kernel
theorem rr_21_10 : sg_rr 21 10 = 30 := by decide +kernel
theorem rr_21_11 : sg_rr 21 11 = 31 := by decide +kernel
theorem rr_32_0 : sg_rr 32 0 = 5 := by decide +kernel
theorem rr_32_1 : sg_rr 32 1 = 17 := by decide +kernel
theorem rr_32_2 : sg_rr 32 2 = 33 := by decide +kernel
theorem rr_32_3 : sg_rr 32 3 = 34 := by decide +kernel
theorem rr_32_4 : sg_rr 32 4 = 35 := by decide +kernel
theorem rr_32_5 : sg_rr 32 5 = 36 := by decide +kernel
theorem rr_32_6 : sg_rr 32 6 = 37 := by decide +kernel
theorem rr_32_7 : sg_rr 32 7 = 38 := by decide +kernel
theorem rr_32_8 : sg_rr 32 8 = 39 := by decide +kernel
theorem rr_32_9 : sg_rr 32 9 = 40 := by decide +kernel
theorem rr_32_10 : sg_rr 32 10 = 41 := by decide +kernel
theorem rr_32_11 : sg_rr 32 11 = 42 := by decide +kernel
theorem rr_44_0 : sg_rr 44 0 = 0 := by decide +kernel
theorem rr_44_1 : sg_rr 44 1 = 45 := by decide +kernel
theorem rr_44_2 : sg_rr 44 2 = 46 := by decide +kernel
theorem rr_44_3 : sg_rr 44 3 = 61 := by decide +kernel
theorem rr_44_4 : sg_rr 44 4 = 67 := by decide +kernel
theorem rr_45_0 : sg_rr 45 0 = 0 := by decide +kernel
theorem rr_46_0 : sg_rr 46 0 = 0 := by decide +kernel
theorem rr_46_2 : sg_rr 46 2 = 47 := by decide +kernel
theorem rr_46_3 : sg_rr 46 3 = 48 := by decide +kernel
theorem rr_46_4 : sg_rr 46 4 = 49 := by decide +kernel
theorem rr_46_5 : sg_rr 46 5 = 50 := by decide +kernel
theorem rr_61_0 : sg_rr 61 0 = 0 := by decide +kernel
theorem rr_61_1 : sg_rr 61 1 = 63 := by decide +kernel
theorem rr_61_2 : sg_rr 61 2 = 62 := by decide +kernel
theorem rr_63_1 : sg_rr 63 1 = 64 := by decide +kernel
theorem rr_63_2 : sg_rr 63 2 = 65 := by decide +kernel
theorem rr_63_3 : sg_rr 63 3 = 66 := by decide +kernel
theorem rr_67_0 : sg_rr 67 0 = 68 := by decide +kernel
theorem rr_67_1 : sg_rr 67 1 = 69 := by decide +kernel
theorem rr_67_2 : sg_rr 67 2 = 70 := by decide +kernel
theorem rr_200_0 : sg_rr 200 0 = 201 := by decide +kernel
theorem rr_200_1 : sg_rr 200 1 = 202 := by decide +kernel
theorem rr_200_2 : sg_rr 200 2 = 203 := by decide +kernel
theorem rr_200_3 : sg_rr 200 3 = 204 := by decide +kernel
theorem rr_200_5 : sg_rr 200 5 = 205 := by decide +kernel
theorem rr_200_6 : sg_rr 200 6 = 206 := by decide +kernel
theorem rr_200_8 : sg_rr 200 8 = 207 := by decide +kernel
theorem rr_200_10 : sg_rr 200 10 = 208 := by decide +kernel
theorem rr_200_12 : sg_rr 200 12 = 209 := by decide +kernel
theorem rr_200_17 : sg_rr 200 17 = 210 := by decide +kernel
theorem rr_200_18 : sg_rr 200 18 = 211 := by decide +kernel
theorem rr_200_19 : sg_rr 200 19 = 212 := by decide +kernel
theorem rr_200_20 : sg_rr 200 20 = 213 := by decide +kernel
theorem rr_200_21 : sg_rr 200 21 = 214 := by decide +kernel
theorem rr_200_22 : sg_rr 200 22 = 215 := by decide +kernel
theorem rr_200_23 : sg_rr 200 23 = 216 := by decide +kernel
theorem rr_200_24 : sg_rr 200 24 = 217 := by decide +kernel
theorem rr_200_25 : sg_rr 200 25 = 218 := by decide +kernel
theorem rr_200_26 : sg_rr 200 26 = 219 := by decide +kernel
theorem rr_200_27 : sg_rr 200 27 = 220 := by decide +kernel
theorem rr_200_28 : sg_rr 200 28 = 221 := by decide +kernel
theorem rr_200_29 : sg_rr 200 29 = 222 := by decide +kernel
theorem rr_200_30 : sg_rr 200 30 = 223 := by decide +kernel
theorem rr_200_31 : sg_rr 200 31 = 224 := by decide +kernel
theorem rr_200_33 : sg_rr 200 33 = 225 := by decide +kernel
theorem rr_200_34 : sg_rr 200 34 = 226 := by decide +kernel
theorem rr_200_36 : sg_rr 200 36 = 227 := by decide +kernel
theorem qb_50 : sg_qb 50 = 51 := by decide +kernel
theorem qb_70 : sg_qb 70 = 71 := by decide +kernel
theorem ce_items {N : Nat} (hN : 75 ≤ N) {s : Int} (h0 : 0 ≤ s) (h1 : s < 4) : sg_Ce 0 N (71 + s) 1 60 := by
  have : s = 0 ∨ s = 1 ∨ s = 2 ∨ s = 3 := by omega
  rcases this with rfl | rfl | rfl | rfl
  · exact ce_71 hN
  · exact ce_72 hN
  · exact ce_73 hN
  · exact ce_74 hN
theorem ce_byCold {N : Nat} (hN : 75 ≤ N) {s : Int} (h0 : 0 ≤ s) (h1 : s < 10) : sg_Ce 0 N (51 + s) 1 24 := by
  have : s = 0 ∨ s = 1 ∨ s = 2 ∨ s = 3 ∨ s = 4 ∨ s = 5 ∨ s = 6 ∨ s = 7 ∨ s = 8 ∨ s = 9 := by omega
  rcases this with rfl | rfl | rfl | rfl | rfl | rfl | rfl | rfl | rfl | rfl
  · exact ce_51 hN
  · exact ce_52 hN
  · exact ce_53 hN
  · exact ce_54 hN
  · exact ce_55 hN
  · exact ce_56 hN
  · exact ce_57 hN
  · exact ce_58 hN
  · exact ce_59 hN
  · exact ce_60 hN
theorem sg_inP {w : Cond} (h : w ∈ k2_sels lw_privs) (hg : goodWord w = true) : w ∈ sg_GT := List.mem_filter.mpr ⟨List.mem_append_left _ h, hg⟩
def m_A_fill : SgY := (27, yJ7_fill_53178, cJ7_fill_53178, 4, none)
set_option maxRecDepth 100000 in
theorem cw_A_fill : Cond.code m_A_fill.2.1 m_A_fill.2.2.1 m_A_fill.2.2.2.1 m_A_fill.2.2.2.2 ∈ sg_GT := sg_inGT (List.mem_of_getElem? (i := 394) rfl) rfl
theorem cy_A_fill : sg_CY m_A_fill 2 := ⟨by decide +kernel, rfl, sg_inGT (List.mem_of_getElem? (i := 14) (by decide +kernel)) rfl, cw_A_fill, ⟨by decide +kernel, by decide +kernel, by decide +kernel⟩, by decide⟩
theorem cs_A_fill : sg_CS m_A_fill 2 := ⟨cy_A_fill, sg_inGT (List.mem_of_getElem? (i := 393) (by decide +kernel)) rfl⟩
def m_C_dayByLots : SgY := (0, yX0_dayByLots, cX0_dayByLots, 7, some (.object "SneezeGuard$Day"))
set_option maxRecDepth 100000 in
theorem cw_C_dayByLots : Cond.code m_C_dayByLots.2.1 m_C_dayByLots.2.2.1 m_C_dayByLots.2.2.2.1 m_C_dayByLots.2.2.2.2 ∈ sg_GT := sg_inGT (List.mem_of_getElem? (i := 861) rfl) rfl
theorem cy_C_dayByLots : sg_CY m_C_dayByLots 2 := ⟨by decide +kernel, rfl, sg_inGT (List.mem_of_getElem? (i := 18) (by decide +kernel)) rfl, cw_C_dayByLots, ⟨by decide +kernel, by decide +kernel, by decide +kernel⟩, by decide⟩
theorem cv_C_dayByLots : sg_CV m_C_dayByLots 2 := ⟨cy_C_dayByLots, sg_inGT (List.mem_of_getElem? (i := 859) (by decide +kernel)) rfl, sg_inGT (List.mem_of_getElem? (i := 860) (by decide +kernel)) rfl⟩
def m_C_fraction : SgY := (0, yX0_fraction, cX0_fraction, 10, some .long)
set_option maxRecDepth 100000 in
theorem cw_C_fraction : Cond.code m_C_fraction.2.1 m_C_fraction.2.2.1 m_C_fraction.2.2.2.1 m_C_fraction.2.2.2.2 ∈ sg_GT := sg_inGT (List.mem_of_getElem? (i := 845) rfl) rfl
theorem cy_C_fraction : sg_CY m_C_fraction 3 := ⟨by decide +kernel, rfl, sg_inGT (List.mem_of_getElem? (i := 18) (by decide +kernel)) rfl, cw_C_fraction, ⟨by decide +kernel, by decide +kernel, by decide +kernel⟩, by decide⟩
theorem cv_C_fraction : sg_CV m_C_fraction 3 := ⟨cy_C_fraction, sg_inGT (List.mem_of_getElem? (i := 843) (by decide +kernel)) rfl, sg_inGT (List.mem_of_getElem? (i := 844) (by decide +kernel)) rfl⟩
def m_C_lotOf : SgY := (0, yX0_lotOf, cX0_lotOf, 2, some .int)
set_option maxRecDepth 100000 in
theorem cw_C_lotOf : Cond.code m_C_lotOf.2.1 m_C_lotOf.2.2.1 m_C_lotOf.2.2.2.1 m_C_lotOf.2.2.2.2 ∈ sg_GT := sg_inGT (List.mem_of_getElem? (i := 865) rfl) rfl
theorem cy_C_lotOf : sg_CY m_C_lotOf 1 := ⟨by decide +kernel, rfl, sg_inGT (List.mem_of_getElem? (i := 18) (by decide +kernel)) rfl, cw_C_lotOf, ⟨by decide +kernel, by decide +kernel, by decide +kernel⟩, by decide⟩
theorem cv_C_lotOf : sg_CV m_C_lotOf 1 := ⟨cy_C_lotOf, sg_inGT (List.mem_of_getElem? (i := 864) (by decide +kernel)) rfl, sg_inP (List.mem_of_getElem? (i := 17) (by decide +kernel)) rfl⟩
def m_C_weigh : SgY := (0, yX0_weigh, cX0_weigh, 7, none)
set_option maxRecDepth 100000 in
theorem cw_C_weigh : Cond.code m_C_weigh.2.1 m_C_weigh.2.2.1 m_C_weigh.2.2.2.1 m_C_weigh.2.2.2.2 ∈ sg_GT := sg_inGT (List.mem_of_getElem? (i := 849) rfl) rfl
theorem cy_C_weigh : sg_CY m_C_weigh 2 := ⟨by decide +kernel, rfl, sg_inGT (List.mem_of_getElem? (i := 18) (by decide +kernel)) rfl, cw_C_weigh, ⟨by decide +kernel, by decide +kernel, by decide +kernel⟩, by decide⟩
theorem cv_C_weigh : sg_CV m_C_weigh 2 := ⟨cy_C_weigh, sg_inGT (List.mem_of_getElem? (i := 848) (by decide +kernel)) rfl, sg_inP (List.mem_of_getElem? (i := 16) (by decide +kernel)) rfl⟩
def m_D_begin : SgY := (1, yX1_begin, cX1_begin, 2, none)
set_option maxRecDepth 100000 in
theorem cw_D_begin : Cond.code m_D_begin.2.1 m_D_begin.2.2.1 m_D_begin.2.2.2.1 m_D_begin.2.2.2.2 ∈ sg_GT := sg_inGT (List.mem_of_getElem? (i := 402) rfl) rfl
theorem cy_D_begin : sg_CY m_D_begin 0 := ⟨by decide +kernel, rfl, sg_inGT (List.mem_of_getElem? (i := 7) (by decide +kernel)) rfl, cw_D_begin, ⟨by decide +kernel, by decide +kernel, by decide +kernel⟩, by decide⟩
theorem cv_D_begin : sg_CV m_D_begin 0 := ⟨cy_D_begin, sg_inGT (List.mem_of_getElem? (i := 401) (by decide +kernel)) rfl, sg_inP (List.mem_of_getElem? (i := 3) (by decide +kernel)) rfl⟩
def m_D_busiest : SgY := (1, yX1_busiest, cX1_busiest, 6, some .int)
set_option maxRecDepth 100000 in
theorem cw_D_busiest : Cond.code m_D_busiest.2.1 m_D_busiest.2.2.1 m_D_busiest.2.2.2.1 m_D_busiest.2.2.2.2 ∈ sg_GT := sg_inGT (List.mem_of_getElem? (i := 725) rfl) rfl
theorem cy_D_busiest : sg_CY m_D_busiest 0 := ⟨by decide +kernel, rfl, sg_inGT (List.mem_of_getElem? (i := 7) (by decide +kernel)) rfl, cw_D_busiest, ⟨by decide +kernel, by decide +kernel, by decide +kernel⟩, by decide⟩
theorem cv_D_busiest : sg_CV m_D_busiest 0 := ⟨cy_D_busiest, sg_inGT (List.mem_of_getElem? (i := 723) (by decide +kernel)) rfl, sg_inGT (List.mem_of_getElem? (i := 724) (by decide +kernel)) rfl⟩
def m_D_changeGuard : SgY := (1, yX1_changeGuard, cX1_changeGuard, 5, none)
set_option maxRecDepth 100000 in
theorem cw_D_changeGuard : Cond.code m_D_changeGuard.2.1 m_D_changeGuard.2.2.1 m_D_changeGuard.2.2.2.1 m_D_changeGuard.2.2.2.2 ∈ sg_GT := sg_inGT (List.mem_of_getElem? (i := 420) rfl) rfl
theorem cy_D_changeGuard : sg_CY m_D_changeGuard 1 := ⟨by decide +kernel, rfl, sg_inGT (List.mem_of_getElem? (i := 7) (by decide +kernel)) rfl, cw_D_changeGuard, ⟨by decide +kernel, by decide +kernel, by decide +kernel⟩, by decide⟩
theorem cv_D_changeGuard : sg_CV m_D_changeGuard 1 := ⟨cy_D_changeGuard, sg_inGT (List.mem_of_getElem? (i := 419) (by decide +kernel)) rfl, sg_inP (List.mem_of_getElem? (i := 6) (by decide +kernel)) rfl⟩
def m_D_changerOf : SgY := (1, yX1_changerOf, cX1_changerOf, 4, some .int)
set_option maxRecDepth 100000 in
theorem cw_D_changerOf : Cond.code m_D_changerOf.2.1 m_D_changerOf.2.2.1 m_D_changerOf.2.2.2.1 m_D_changerOf.2.2.2.2 ∈ sg_GT := sg_inGT (List.mem_of_getElem? (i := 701) rfl) rfl
theorem cy_D_changerOf : sg_CY m_D_changerOf 2 := ⟨by decide +kernel, rfl, sg_inGT (List.mem_of_getElem? (i := 7) (by decide +kernel)) rfl, cw_D_changerOf, ⟨by decide +kernel, by decide +kernel, by decide +kernel⟩, by decide⟩
theorem cv_D_changerOf : sg_CV m_D_changerOf 2 := ⟨cy_D_changerOf, sg_inGT (List.mem_of_getElem? (i := 699) (by decide +kernel)) rfl, sg_inGT (List.mem_of_getElem? (i := 700) (by decide +kernel)) rfl⟩
def m_D_divides : SgY := (1, yX1_divides, cX1_divides, 2, some .boolean)
set_option maxRecDepth 100000 in
theorem cw_D_divides : Cond.code m_D_divides.2.1 m_D_divides.2.2.1 m_D_divides.2.2.2.1 m_D_divides.2.2.2.2 ∈ sg_GT := sg_inGT (List.mem_of_getElem? (i := 416) rfl) rfl
theorem cy_D_divides : sg_CY m_D_divides 2 := ⟨by decide +kernel, rfl, sg_inGT (List.mem_of_getElem? (i := 7) (by decide +kernel)) rfl, cw_D_divides, ⟨by decide +kernel, by decide +kernel, by decide +kernel⟩, by decide⟩
theorem cs_D_divides : sg_CS m_D_divides 2 := ⟨cy_D_divides, sg_inGT (List.mem_of_getElem? (i := 415) (by decide +kernel)) rfl⟩
def m_D_othersInCellOf : SgY := (1, yX1_othersInCellOf, cX1_othersInCellOf, 4, some .int)
set_option maxRecDepth 100000 in
theorem cw_D_othersInCellOf : Cond.code m_D_othersInCellOf.2.1 m_D_othersInCellOf.2.2.1 m_D_othersInCellOf.2.2.2.1 m_D_othersInCellOf.2.2.2.2 ∈ sg_GT := sg_inGT (List.mem_of_getElem? (i := 442) rfl) rfl
theorem cy_D_othersInCellOf : sg_CY m_D_othersInCellOf 1 := ⟨by decide +kernel, rfl, sg_inGT (List.mem_of_getElem? (i := 7) (by decide +kernel)) rfl, cw_D_othersInCellOf, ⟨by decide +kernel, by decide +kernel, by decide +kernel⟩, by decide⟩
theorem cv_D_othersInCellOf : sg_CV m_D_othersInCellOf 1 := ⟨cy_D_othersInCellOf, sg_inGT (List.mem_of_getElem? (i := 441) (by decide +kernel)) rfl, sg_inP (List.mem_of_getElem? (i := 9) (by decide +kernel)) rfl⟩
def m_D_pass : SgY := (1, yX1_pass, cX1_pass, 2, none)
set_option maxRecDepth 100000 in
theorem cw_D_pass : Cond.code m_D_pass.2.1 m_D_pass.2.2.1 m_D_pass.2.2.2.1 m_D_pass.2.2.2.2 ∈ sg_GT := sg_inGT (List.mem_of_getElem? (i := 398) rfl) rfl
theorem cy_D_pass : sg_CY m_D_pass 0 := ⟨by decide +kernel, rfl, sg_inGT (List.mem_of_getElem? (i := 7) (by decide +kernel)) rfl, cw_D_pass, ⟨by decide +kernel, by decide +kernel, by decide +kernel⟩, by decide⟩
theorem cv_D_pass : sg_CV m_D_pass 0 := ⟨cy_D_pass, sg_inGT (List.mem_of_getElem? (i := 396) (by decide +kernel)) rfl, sg_inGT (List.mem_of_getElem? (i := 397) (by decide +kernel)) rfl⟩
def m_D_silent : SgY := (1, yX1_silent, cX1_silent, 3, some .int)
set_option maxRecDepth 100000 in
theorem cw_D_silent : Cond.code m_D_silent.2.1 m_D_silent.2.2.1 m_D_silent.2.2.2.1 m_D_silent.2.2.2.2 ∈ sg_GT := sg_inGT (List.mem_of_getElem? (i := 733) rfl) rfl
theorem cy_D_silent : sg_CY m_D_silent 0 := ⟨by decide +kernel, rfl, sg_inGT (List.mem_of_getElem? (i := 7) (by decide +kernel)) rfl, cw_D_silent, ⟨by decide +kernel, by decide +kernel, by decide +kernel⟩, by decide⟩
theorem cv_D_silent : sg_CV m_D_silent 0 := ⟨cy_D_silent, sg_inGT (List.mem_of_getElem? (i := 731) (by decide +kernel)) rfl, sg_inGT (List.mem_of_getElem? (i := 732) (by decide +kernel)) rfl⟩
def m_D_sneeze : SgY := (1, yX1_sneeze, cX1_sneeze, 4, none)
set_option maxRecDepth 100000 in
theorem cw_D_sneeze : Cond.code m_D_sneeze.2.1 m_D_sneeze.2.2.1 m_D_sneeze.2.2.2.1 m_D_sneeze.2.2.2.2 ∈ sg_GT := sg_inGT (List.mem_of_getElem? (i := 412) rfl) rfl
theorem cy_D_sneeze : sg_CY m_D_sneeze 1 := ⟨by decide +kernel, rfl, sg_inGT (List.mem_of_getElem? (i := 7) (by decide +kernel)) rfl, cw_D_sneeze, ⟨by decide +kernel, by decide +kernel, by decide +kernel⟩, by decide⟩
theorem cv_D_sneeze : sg_CV m_D_sneeze 1 := ⟨cy_D_sneeze, sg_inGT (List.mem_of_getElem? (i := 411) (by decide +kernel)) rfl, sg_inP (List.mem_of_getElem? (i := 5) (by decide +kernel)) rfl⟩
def m_D_spreadColds : SgY := (1, yX1_spreadColds, cX1_spreadColds, 4, none)
set_option maxRecDepth 100000 in
theorem cw_D_spreadColds : Cond.code m_D_spreadColds.2.1 m_D_spreadColds.2.2.1 m_D_spreadColds.2.2.2.1 m_D_spreadColds.2.2.2.2 ∈ sg_GT := sg_inGT (List.mem_of_getElem? (i := 438) rfl) rfl
theorem cy_D_spreadColds : sg_CY m_D_spreadColds 1 := ⟨by decide +kernel, rfl, sg_inGT (List.mem_of_getElem? (i := 7) (by decide +kernel)) rfl, cw_D_spreadColds, ⟨by decide +kernel, by decide +kernel, by decide +kernel⟩, by decide⟩
theorem cv_D_spreadColds : sg_CV m_D_spreadColds 1 := ⟨cy_D_spreadColds, sg_inGT (List.mem_of_getElem? (i := 437) (by decide +kernel)) rfl, sg_inP (List.mem_of_getElem? (i := 8) (by decide +kernel)) rfl⟩
def m_D_stand : SgY := (1, yX1_stand, cX1_stand, 3, none)
set_option maxRecDepth 100000 in
theorem cw_D_stand : Cond.code m_D_stand.2.1 m_D_stand.2.2.1 m_D_stand.2.2.2.1 m_D_stand.2.2.2.2 ∈ sg_GT := sg_inGT (List.mem_of_getElem? (i := 434) rfl) rfl
theorem cy_D_stand : sg_CY m_D_stand 1 := ⟨by decide +kernel, rfl, sg_inGT (List.mem_of_getElem? (i := 7) (by decide +kernel)) rfl, cw_D_stand, ⟨by decide +kernel, by decide +kernel, by decide +kernel⟩, by decide⟩
theorem cv_D_stand : sg_CV m_D_stand 1 := ⟨cy_D_stand, sg_inGT (List.mem_of_getElem? (i := 433) (by decide +kernel)) rfl, sg_inP (List.mem_of_getElem? (i := 7) (by decide +kernel)) rfl⟩
def m_D_walk : SgY := (1, yX1_walk, cX1_walk, 3, none)
set_option maxRecDepth 100000 in
theorem cw_D_walk : Cond.code m_D_walk.2.1 m_D_walk.2.2.1 m_D_walk.2.2.2.1 m_D_walk.2.2.2.2 ∈ sg_GT := sg_inGT (List.mem_of_getElem? (i := 407) rfl) rfl
theorem cy_D_walk : sg_CY m_D_walk 1 := ⟨by decide +kernel, rfl, sg_inGT (List.mem_of_getElem? (i := 7) (by decide +kernel)) rfl, cw_D_walk, ⟨by decide +kernel, by decide +kernel, by decide +kernel⟩, by decide⟩
theorem cv_D_walk : sg_CV m_D_walk 1 := ⟨cy_D_walk, sg_inGT (List.mem_of_getElem? (i := 406) (by decide +kernel)) rfl, sg_inP (List.mem_of_getElem? (i := 4) (by decide +kernel)) rfl⟩
def m_E_add : SgY := (2, yX2_add, cX2_add, 4, some .boolean)
set_option maxRecDepth 100000 in
theorem cw_E_add : Cond.code m_E_add.2.1 m_E_add.2.2.1 m_E_add.2.2.2.1 m_E_add.2.2.2.2 ∈ sg_GT := sg_inGT (List.mem_of_getElem? (i := 660) rfl) rfl
theorem cy_E_add : sg_CY m_E_add 3 := ⟨by decide +kernel, rfl, sg_inGT (List.mem_of_getElem? (i := 5) (by decide +kernel)) rfl, cw_E_add, ⟨by decide +kernel, by decide +kernel, by decide +kernel⟩, by decide⟩
theorem cv_E_add : sg_CV m_E_add 3 := ⟨cy_E_add, sg_inGT (List.mem_of_getElem? (i := 658) (by decide +kernel)) rfl, sg_inGT (List.mem_of_getElem? (i := 659) (by decide +kernel)) rfl⟩
def m_E_everyBit : SgY := (2, yX2_everyBit, cX2_everyBit, 1, some .int)
set_option maxRecDepth 100000 in
theorem cw_E_everyBit : Cond.code m_E_everyBit.2.1 m_E_everyBit.2.2.1 m_E_everyBit.2.2.2.1 m_E_everyBit.2.2.2.2 ∈ sg_GT := sg_inGT (List.mem_of_getElem? (i := 379) rfl) rfl
theorem cy_E_everyBit : sg_CY m_E_everyBit 0 := ⟨by decide +kernel, rfl, sg_inGT (List.mem_of_getElem? (i := 5) (by decide +kernel)) rfl, cw_E_everyBit, ⟨by decide +kernel, by decide +kernel, by decide +kernel⟩, by decide⟩
theorem cv_E_everyBit : sg_CV m_E_everyBit 0 := ⟨cy_E_everyBit, sg_inGT (List.mem_of_getElem? (i := 377) (by decide +kernel)) rfl, sg_inGT (List.mem_of_getElem? (i := 378) (by decide +kernel)) rfl⟩
def m_E_mayBe : SgY := (2, yX2_mayBe, cX2_mayBe, 3, some .boolean)
set_option maxRecDepth 100000 in
theorem cw_E_mayBe : Cond.code m_E_mayBe.2.1 m_E_mayBe.2.2.1 m_E_mayBe.2.2.2.1 m_E_mayBe.2.2.2.2 ∈ sg_GT := sg_inGT (List.mem_of_getElem? (i := 655) rfl) rfl
theorem cy_E_mayBe : sg_CY m_E_mayBe 3 := ⟨by decide +kernel, rfl, sg_inGT (List.mem_of_getElem? (i := 5) (by decide +kernel)) rfl, cw_E_mayBe, ⟨by decide +kernel, by decide +kernel, by decide +kernel⟩, by decide⟩
theorem cs_E_mayBe : sg_CS m_E_mayBe 3 := ⟨cy_E_mayBe, sg_inGT (List.mem_of_getElem? (i := 654) (by decide +kernel)) rfl⟩
def m_G_all : SgY := (10, yX10_all, cX10_all, 1, some .int)
set_option maxRecDepth 100000 in
theorem cw_G_all : Cond.code m_G_all.2.1 m_G_all.2.2.1 m_G_all.2.2.2.1 m_G_all.2.2.2.2 ∈ sg_GT := sg_inGT (List.mem_of_getElem? (i := 717) rfl) rfl
theorem cy_G_all : sg_CY m_G_all 0 := ⟨by decide +kernel, rfl, sg_inGT (List.mem_of_getElem? (i := 1) (by decide +kernel)) rfl, cw_G_all, ⟨by decide +kernel, by decide +kernel, by decide +kernel⟩, by decide⟩
theorem cv_G_all : sg_CV m_G_all 0 := ⟨cy_G_all, sg_inGT (List.mem_of_getElem? (i := 715) (by decide +kernel)) rfl, sg_inGT (List.mem_of_getElem? (i := 716) (by decide +kernel)) rfl⟩
def m_G_ask : SgY := (10, yX10_ask, cX10_ask, 2, some .int)
set_option maxRecDepth 100000 in
theorem cw_G_ask : Cond.code m_G_ask.2.1 m_G_ask.2.2.1 m_G_ask.2.2.2.1 m_G_ask.2.2.2.2 ∈ sg_GT := sg_inGT (List.mem_of_getElem? (i := 825) rfl) rfl
theorem cy_G_ask : sg_CY m_G_ask 1 := ⟨by decide +kernel, rfl, sg_inGT (List.mem_of_getElem? (i := 1) (by decide +kernel)) rfl, cw_G_ask, ⟨by decide +kernel, by decide +kernel, by decide +kernel⟩, by decide⟩
theorem cv_G_ask : sg_CV m_G_ask 1 := ⟨cy_G_ask, sg_inGT (List.mem_of_getElem? (i := 823) (by decide +kernel)) rfl, sg_inGT (List.mem_of_getElem? (i := 824) (by decide +kernel)) rfl⟩
def m_G_at : SgY := (10, yX10_at, cX10_at, 4, some .int)
set_option maxRecDepth 100000 in
theorem cw_G_at : Cond.code m_G_at.2.1 m_G_at.2.2.1 m_G_at.2.2.2.1 m_G_at.2.2.2.2 ∈ sg_GT := sg_inGT (List.mem_of_getElem? (i := 690) rfl) rfl
theorem cy_G_at : sg_CY m_G_at 3 := ⟨by decide +kernel, rfl, sg_inGT (List.mem_of_getElem? (i := 1) (by decide +kernel)) rfl, cw_G_at, ⟨by decide +kernel, by decide +kernel, by decide +kernel⟩, by decide⟩
theorem cv_G_at : sg_CV m_G_at 3 := ⟨cy_G_at, sg_inGT (List.mem_of_getElem? (i := 688) (by decide +kernel)) rfl, sg_inGT (List.mem_of_getElem? (i := 689) (by decide +kernel)) rfl⟩
def m_G_back : SgY := (10, yX10_back, cX10_back, 1, some .int)
set_option maxRecDepth 100000 in
theorem cw_G_back : Cond.code m_G_back.2.1 m_G_back.2.2.1 m_G_back.2.2.2.1 m_G_back.2.2.2.2 ∈ sg_GT := sg_inGT (List.mem_of_getElem? (i := 664) rfl) rfl
theorem cy_G_back : sg_CY m_G_back 0 := ⟨by decide +kernel, rfl, sg_inGT (List.mem_of_getElem? (i := 1) (by decide +kernel)) rfl, cw_G_back, ⟨by decide +kernel, by decide +kernel, by decide +kernel⟩, by decide⟩
theorem cv_G_back : sg_CV m_G_back 0 := ⟨cy_G_back, sg_inGT (List.mem_of_getElem? (i := 662) (by decide +kernel)) rfl, sg_inGT (List.mem_of_getElem? (i := 663) (by decide +kernel)) rfl⟩
def m_G_busy : SgY := (10, yX10_busy, cX10_busy, 1, some .int)
set_option maxRecDepth 100000 in
theorem cw_G_busy : Cond.code m_G_busy.2.1 m_G_busy.2.2.1 m_G_busy.2.2.2.1 m_G_busy.2.2.2.2 ∈ sg_GT := sg_inGT (List.mem_of_getElem? (i := 721) rfl) rfl
theorem cy_G_busy : sg_CY m_G_busy 0 := ⟨by decide +kernel, rfl, sg_inGT (List.mem_of_getElem? (i := 1) (by decide +kernel)) rfl, cw_G_busy, ⟨by decide +kernel, by decide +kernel, by decide +kernel⟩, by decide⟩
theorem cv_G_busy : sg_CV m_G_busy 0 := ⟨cy_G_busy, sg_inGT (List.mem_of_getElem? (i := 719) (by decide +kernel)) rfl, sg_inGT (List.mem_of_getElem? (i := 720) (by decide +kernel)) rfl⟩
def m_G_chance : SgY := (10, yX10_chance, cX10_chance, 4, some .long)
set_option maxRecDepth 100000 in
theorem cw_G_chance : Cond.code m_G_chance.2.1 m_G_chance.2.2.1 m_G_chance.2.2.2.1 m_G_chance.2.2.2.2 ∈ sg_GT := sg_inGT (List.mem_of_getElem? (i := 840) rfl) rfl
theorem cy_G_chance : sg_CY m_G_chance 3 := ⟨by decide +kernel, rfl, sg_inGT (List.mem_of_getElem? (i := 1) (by decide +kernel)) rfl, cw_G_chance, ⟨by decide +kernel, by decide +kernel, by decide +kernel⟩, by decide⟩
theorem cv_G_chance : sg_CV m_G_chance 3 := ⟨cy_G_chance, sg_inGT (List.mem_of_getElem? (i := 838) (by decide +kernel)) rfl, sg_inGT (List.mem_of_getElem? (i := 839) (by decide +kernel)) rfl⟩
def m_G_changes : SgY := (10, yX10_changes, cX10_changes, 2, some .int)
set_option maxRecDepth 100000 in
theorem cw_G_changes : Cond.code m_G_changes.2.1 m_G_changes.2.2.1 m_G_changes.2.2.2.1 m_G_changes.2.2.2.2 ∈ sg_GT := sg_inGT (List.mem_of_getElem? (i := 705) rfl) rfl
theorem cy_G_changes : sg_CY m_G_changes 1 := ⟨by decide +kernel, rfl, sg_inGT (List.mem_of_getElem? (i := 1) (by decide +kernel)) rfl, cw_G_changes, ⟨by decide +kernel, by decide +kernel, by decide +kernel⟩, by decide⟩
theorem cv_G_changes : sg_CV m_G_changes 1 := ⟨cy_G_changes, sg_inGT (List.mem_of_getElem? (i := 703) (by decide +kernel)) rfl, sg_inGT (List.mem_of_getElem? (i := 704) (by decide +kernel)) rfl⟩
def m_G_copy : SgY := (10, yX10_copy, cX10_copy, 6, some .int)
set_option maxRecDepth 100000 in
theorem cw_G_copy : Cond.code m_G_copy.2.1 m_G_copy.2.2.1 m_G_copy.2.2.2.1 m_G_copy.2.2.2.2 ∈ sg_GT := sg_inGT (List.mem_of_getElem? (i := 907) rfl) rfl
theorem cy_G_copy : sg_CY m_G_copy 5 := ⟨by decide +kernel, rfl, sg_inGT (List.mem_of_getElem? (i := 1) (by decide +kernel)) rfl, cw_G_copy, ⟨by decide +kernel, by decide +kernel, by decide +kernel⟩, by decide⟩
theorem cv_G_copy : sg_CV m_G_copy 5 := ⟨cy_G_copy, sg_inGT (List.mem_of_getElem? (i := 905) (by decide +kernel)) rfl, sg_inGT (List.mem_of_getElem? (i := 906) (by decide +kernel)) rfl⟩
def m_G_count : SgY := (10, yX10_count, cX10_count, 2, some .int)
set_option maxRecDepth 100000 in
theorem cw_G_count : Cond.code m_G_count.2.1 m_G_count.2.2.1 m_G_count.2.2.2.1 m_G_count.2.2.2.2 ∈ sg_GT := sg_inGT (List.mem_of_getElem? (i := 924) rfl) rfl
theorem cy_G_count : sg_CY m_G_count 1 := ⟨by decide +kernel, rfl, sg_inGT (List.mem_of_getElem? (i := 1) (by decide +kernel)) rfl, cw_G_count, ⟨by decide +kernel, by decide +kernel, by decide +kernel⟩, by decide⟩
theorem cv_G_count : sg_CV m_G_count 1 := ⟨cy_G_count, sg_inGT (List.mem_of_getElem? (i := 922) (by decide +kernel)) rfl, sg_inGT (List.mem_of_getElem? (i := 923) (by decide +kernel)) rfl⟩
def m_G_decades : SgY := (10, yX10_decades, cX10_decades, 5, some .int)
set_option maxRecDepth 100000 in
theorem cw_G_decades : Cond.code m_G_decades.2.1 m_G_decades.2.2.1 m_G_decades.2.2.2.1 m_G_decades.2.2.2.2 ∈ sg_GT := sg_inGT (List.mem_of_getElem? (i := 857) rfl) rfl
theorem cy_G_decades : sg_CY m_G_decades 3 := ⟨by decide +kernel, rfl, sg_inGT (List.mem_of_getElem? (i := 1) (by decide +kernel)) rfl, cw_G_decades, ⟨by decide +kernel, by decide +kernel, by decide +kernel⟩, by decide⟩
theorem cv_G_decades : sg_CV m_G_decades 3 := ⟨cy_G_decades, sg_inGT (List.mem_of_getElem? (i := 855) (by decide +kernel)) rfl, sg_inGT (List.mem_of_getElem? (i := 856) (by decide +kernel)) rfl⟩
def m_G_digest : SgY := (10, yX10_digest, cX10_digest, 4, some .long)
set_option maxRecDepth 100000 in
theorem cw_G_digest : Cond.code m_G_digest.2.1 m_G_digest.2.2.1 m_G_digest.2.2.2.1 m_G_digest.2.2.2.2 ∈ sg_GT := sg_inGT (List.mem_of_getElem? (i := 928) rfl) rfl
theorem cy_G_digest : sg_CY m_G_digest 0 := ⟨by decide +kernel, rfl, sg_inGT (List.mem_of_getElem? (i := 1) (by decide +kernel)) rfl, cw_G_digest, ⟨by decide +kernel, by decide +kernel, by decide +kernel⟩, by decide⟩
theorem cv_G_digest : sg_CV m_G_digest 0 := ⟨cy_G_digest, sg_inGT (List.mem_of_getElem? (i := 926) (by decide +kernel)) rfl, sg_inGT (List.mem_of_getElem? (i := 927) (by decide +kernel)) rfl⟩
def m_G_digestHour : SgY := (10, yX10_digestHour, cX10_digestHour, 1, some .int)
set_option maxRecDepth 100000 in
theorem cw_G_digestHour : Cond.code m_G_digestHour.2.1 m_G_digestHour.2.2.1 m_G_digestHour.2.2.2.1 m_G_digestHour.2.2.2.2 ∈ sg_GT := sg_inGT (List.mem_of_getElem? (i := 940) rfl) rfl
theorem cy_G_digestHour : sg_CY m_G_digestHour 1 := ⟨by decide +kernel, rfl, sg_inGT (List.mem_of_getElem? (i := 1) (by decide +kernel)) rfl, cw_G_digestHour, ⟨by decide +kernel, by decide +kernel, by decide +kernel⟩, by decide⟩
theorem cs_G_digestHour : sg_CS m_G_digestHour 1 := ⟨cy_G_digestHour, sg_inGT (List.mem_of_getElem? (i := 939) (by decide +kernel)) rfl⟩
def m_G_digestPerson : SgY := (10, yX10_digestPerson, cX10_digestPerson, 8, some .long)
set_option maxRecDepth 100000 in
theorem cw_G_digestPerson : Cond.code m_G_digestPerson.2.1 m_G_digestPerson.2.2.1 m_G_digestPerson.2.2.2.1 m_G_digestPerson.2.2.2.2 ∈ sg_GT := sg_inGT (List.mem_of_getElem? (i := 945) rfl) rfl
theorem cy_G_digestPerson : sg_CY m_G_digestPerson 2 := ⟨by decide +kernel, rfl, sg_inGT (List.mem_of_getElem? (i := 1) (by decide +kernel)) rfl, cw_G_digestPerson, ⟨by decide +kernel, by decide +kernel, by decide +kernel⟩, by decide⟩
theorem cv_G_digestPerson : sg_CV m_G_digestPerson 2 := ⟨cy_G_digestPerson, sg_inGT (List.mem_of_getElem? (i := 944) (by decide +kernel)) rfl, sg_inP (List.mem_of_getElem? (i := 19) (by decide +kernel)) rfl⟩
def m_G_digestPost : SgY := (10, yX10_digestPost, cX10_digestPost, 8, some .long)
set_option maxRecDepth 100000 in
theorem cw_G_digestPost : Cond.code m_G_digestPost.2.1 m_G_digestPost.2.2.1 m_G_digestPost.2.2.2.1 m_G_digestPost.2.2.2.2 ∈ sg_GT := sg_inGT (List.mem_of_getElem? (i := 936) rfl) rfl
theorem cy_G_digestPost : sg_CY m_G_digestPost 2 := ⟨by decide +kernel, rfl, sg_inGT (List.mem_of_getElem? (i := 1) (by decide +kernel)) rfl, cw_G_digestPost, ⟨by decide +kernel, by decide +kernel, by decide +kernel⟩, by decide⟩
theorem cv_G_digestPost : sg_CV m_G_digestPost 2 := ⟨cy_G_digestPost, sg_inGT (List.mem_of_getElem? (i := 935) (by decide +kernel)) rfl, sg_inP (List.mem_of_getElem? (i := 18) (by decide +kernel)) rfl⟩
def m_G_digestRest : SgY := (10, yX10_digestRest, cX10_digestRest, 6, some .long)
set_option maxRecDepth 100000 in
theorem cw_G_digestRest : Cond.code m_G_digestRest.2.1 m_G_digestRest.2.2.1 m_G_digestRest.2.2.2.1 m_G_digestRest.2.2.2.2 ∈ sg_GT := sg_inGT (List.mem_of_getElem? (i := 954) rfl) rfl
theorem cy_G_digestRest : sg_CY m_G_digestRest 1 := ⟨by decide +kernel, rfl, sg_inGT (List.mem_of_getElem? (i := 1) (by decide +kernel)) rfl, cw_G_digestRest, ⟨by decide +kernel, by decide +kernel, by decide +kernel⟩, by decide⟩
theorem cv_G_digestRest : sg_CV m_G_digestRest 1 := ⟨cy_G_digestRest, sg_inGT (List.mem_of_getElem? (i := 953) (by decide +kernel)) rfl, sg_inP (List.mem_of_getElem? (i := 20) (by decide +kernel)) rfl⟩
def m_G_dust : SgY := (10, yX10_dust, cX10_dust, 3, some .int)
set_option maxRecDepth 100000 in
theorem cw_G_dust : Cond.code m_G_dust.2.1 m_G_dust.2.2.1 m_G_dust.2.2.2.1 m_G_dust.2.2.2.2 ∈ sg_GT := sg_inGT (List.mem_of_getElem? (i := 746) rfl) rfl
theorem cy_G_dust : sg_CY m_G_dust 2 := ⟨by decide +kernel, rfl, sg_inGT (List.mem_of_getElem? (i := 1) (by decide +kernel)) rfl, cw_G_dust, ⟨by decide +kernel, by decide +kernel, by decide +kernel⟩, by decide⟩
theorem cv_G_dust : sg_CV m_G_dust 2 := ⟨cy_G_dust, sg_inGT (List.mem_of_getElem? (i := 744) (by decide +kernel)) rfl, sg_inGT (List.mem_of_getElem? (i := 745) (by decide +kernel)) rfl⟩
def m_G_event : SgY := (10, yX10_event, cX10_event, 4, some .int)
set_option maxRecDepth 100000 in
theorem cw_G_event : Cond.code m_G_event.2.1 m_G_event.2.2.1 m_G_event.2.2.2.1 m_G_event.2.2.2.2 ∈ sg_GT := sg_inGT (List.mem_of_getElem? (i := 652) rfl) rfl
theorem cy_G_event : sg_CY m_G_event 3 := ⟨by decide +kernel, rfl, sg_inGT (List.mem_of_getElem? (i := 1) (by decide +kernel)) rfl, cw_G_event, ⟨by decide +kernel, by decide +kernel, by decide +kernel⟩, by decide⟩
theorem cv_G_event : sg_CV m_G_event 3 := ⟨cy_G_event, sg_inGT (List.mem_of_getElem? (i := 650) (by decide +kernel)) rfl, sg_inGT (List.mem_of_getElem? (i := 651) (by decide +kernel)) rfl⟩
def m_G_fault : SgY := (10, yX10_fault, cX10_fault, 2, some .int)
set_option maxRecDepth 100000 in
theorem cw_G_fault : Cond.code m_G_fault.2.1 m_G_fault.2.2.1 m_G_fault.2.2.2.1 m_G_fault.2.2.2.2 ∈ sg_GT := sg_inGT (List.mem_of_getElem? (i := 631) rfl) rfl
theorem cy_G_fault : sg_CY m_G_fault 1 := ⟨by decide +kernel, rfl, sg_inGT (List.mem_of_getElem? (i := 1) (by decide +kernel)) rfl, cw_G_fault, ⟨by decide +kernel, by decide +kernel, by decide +kernel⟩, by decide⟩
theorem cv_G_fault : sg_CV m_G_fault 1 := ⟨cy_G_fault, sg_inGT (List.mem_of_getElem? (i := 629) (by decide +kernel)) rfl, sg_inGT (List.mem_of_getElem? (i := 630) (by decide +kernel)) rfl⟩
def m_G_forget : SgY := (10, yX10_forget, cX10_forget, 2, some .int)
set_option maxRecDepth 100000 in
theorem cw_G_forget : Cond.code m_G_forget.2.1 m_G_forget.2.2.1 m_G_forget.2.2.2.1 m_G_forget.2.2.2.2 ∈ sg_GT := sg_inGT (List.mem_of_getElem? (i := 788) rfl) rfl
theorem cy_G_forget : sg_CY m_G_forget 0 := ⟨by decide +kernel, rfl, sg_inGT (List.mem_of_getElem? (i := 1) (by decide +kernel)) rfl, cw_G_forget, ⟨by decide +kernel, by decide +kernel, by decide +kernel⟩, by decide⟩
theorem cv_G_forget : sg_CV m_G_forget 0 := ⟨cy_G_forget, sg_inGT (List.mem_of_getElem? (i := 786) (by decide +kernel)) rfl, sg_inGT (List.mem_of_getElem? (i := 787) (by decide +kernel)) rfl⟩
def m_G_forgotten : SgY := (10, yX10_forgotten, cX10_forgotten, 1, some .int)
set_option maxRecDepth 100000 in
theorem cw_G_forgotten : Cond.code m_G_forgotten.2.1 m_G_forgotten.2.2.1 m_G_forgotten.2.2.2.1 m_G_forgotten.2.2.2.2 ∈ sg_GT := sg_inGT (List.mem_of_getElem? (i := 709) rfl) rfl
theorem cy_G_forgotten : sg_CY m_G_forgotten 0 := ⟨by decide +kernel, rfl, sg_inGT (List.mem_of_getElem? (i := 1) (by decide +kernel)) rfl, cw_G_forgotten, ⟨by decide +kernel, by decide +kernel, by decide +kernel⟩, by decide⟩
theorem cv_G_forgotten : sg_CV m_G_forgotten 0 := ⟨cy_G_forgotten, sg_inGT (List.mem_of_getElem? (i := 707) (by decide +kernel)) rfl, sg_inGT (List.mem_of_getElem? (i := 708) (by decide +kernel)) rfl⟩
def m_G_get : SgY := (10, yX10_get, cX10_get, 4, some .int)
set_option maxRecDepth 100000 in
theorem cw_G_get : Cond.code m_G_get.2.1 m_G_get.2.2.1 m_G_get.2.2.2.1 m_G_get.2.2.2.2 ∈ sg_GT := sg_inGT (List.mem_of_getElem? (i := 902) rfl) rfl
theorem cy_G_get : sg_CY m_G_get 3 := ⟨by decide +kernel, rfl, sg_inGT (List.mem_of_getElem? (i := 1) (by decide +kernel)) rfl, cw_G_get, ⟨by decide +kernel, by decide +kernel, by decide +kernel⟩, by decide⟩
theorem cv_G_get : sg_CV m_G_get 3 := ⟨cy_G_get, sg_inGT (List.mem_of_getElem? (i := 900) (by decide +kernel)) rfl, sg_inGT (List.mem_of_getElem? (i := 901) (by decide +kernel)) rfl⟩
def m_G_hasBit : SgY := (10, yX10_hasBit, cX10_hasBit, 2, some .boolean)
set_option maxRecDepth 100000 in
theorem cw_G_hasBit : Cond.code m_G_hasBit.2.1 m_G_hasBit.2.2.1 m_G_hasBit.2.2.2.1 m_G_hasBit.2.2.2.2 ∈ sg_GT := sg_inGT (List.mem_of_getElem? (i := 386) rfl) rfl
theorem cy_G_hasBit : sg_CY m_G_hasBit 2 := ⟨by decide +kernel, rfl, sg_inGT (List.mem_of_getElem? (i := 1) (by decide +kernel)) rfl, cw_G_hasBit, ⟨by decide +kernel, by decide +kernel, by decide +kernel⟩, by decide⟩
theorem cs_G_hasBit : sg_CS m_G_hasBit 2 := ⟨cy_G_hasBit, sg_inGT (List.mem_of_getElem? (i := 385) (by decide +kernel)) rfl⟩
def m_G_hush : SgY := (10, yX10_hush, cX10_hush, 3, some .int)
set_option maxRecDepth 100000 in
theorem cw_G_hush : Cond.code m_G_hush.2.1 m_G_hush.2.2.1 m_G_hush.2.2.2.1 m_G_hush.2.2.2.2 ∈ sg_GT := sg_inGT (List.mem_of_getElem? (i := 754) rfl) rfl
theorem cy_G_hush : sg_CY m_G_hush 2 := ⟨by decide +kernel, rfl, sg_inGT (List.mem_of_getElem? (i := 1) (by decide +kernel)) rfl, cw_G_hush, ⟨by decide +kernel, by decide +kernel, by decide +kernel⟩, by decide⟩
theorem cv_G_hush : sg_CV m_G_hush 2 := ⟨cy_G_hush, sg_inGT (List.mem_of_getElem? (i := 752) (by decide +kernel)) rfl, sg_inGT (List.mem_of_getElem? (i := 753) (by decide +kernel)) rfl⟩
def m_G_isBelow : SgY := (10, yX10_isBelow, cX10_isBelow, 2, some .boolean)
set_option maxRecDepth 100000 in
theorem cw_G_isBelow : Cond.code m_G_isBelow.2.1 m_G_isBelow.2.2.1 m_G_isBelow.2.2.2.1 m_G_isBelow.2.2.2.2 ∈ sg_GT := sg_inGT (List.mem_of_getElem? (i := 358) rfl) rfl
theorem cy_G_isBelow : sg_CY m_G_isBelow 2 := ⟨by decide +kernel, rfl, sg_inGT (List.mem_of_getElem? (i := 1) (by decide +kernel)) rfl, cw_G_isBelow, ⟨by decide +kernel, by decide +kernel, by decide +kernel⟩, by decide⟩
theorem cs_G_isBelow : sg_CS m_G_isBelow 2 := ⟨cy_G_isBelow, sg_inGT (List.mem_of_getElem? (i := 357) (by decide +kernel)) rfl⟩
def m_G_isPerson : SgY := (10, yX10_isPerson, cX10_isPerson, 2, some .boolean)
set_option maxRecDepth 100000 in
theorem cw_G_isPerson : Cond.code m_G_isPerson.2.1 m_G_isPerson.2.2.1 m_G_isPerson.2.2.2.1 m_G_isPerson.2.2.2.2 ∈ sg_GT := sg_inGT (List.mem_of_getElem? (i := 648) rfl) rfl
theorem cy_G_isPerson : sg_CY m_G_isPerson 1 := ⟨by decide +kernel, rfl, sg_inGT (List.mem_of_getElem? (i := 1) (by decide +kernel)) rfl, cw_G_isPerson, ⟨by decide +kernel, by decide +kernel, by decide +kernel⟩, by decide⟩
theorem cv_G_isPerson : sg_CV m_G_isPerson 1 := ⟨cy_G_isPerson, sg_inGT (List.mem_of_getElem? (i := 647) (by decide +kernel)) rfl, sg_inP (List.mem_of_getElem? (i := 11) (by decide +kernel)) rfl⟩
def m_G_isPost : SgY := (10, yX10_isPost, cX10_isPost, 2, some .boolean)
set_option maxRecDepth 100000 in
theorem cw_G_isPost : Cond.code m_G_isPost.2.1 m_G_isPost.2.2.1 m_G_isPost.2.2.2.1 m_G_isPost.2.2.2.2 ∈ sg_GT := sg_inGT (List.mem_of_getElem? (i := 640) rfl) rfl
theorem cy_G_isPost : sg_CY m_G_isPost 1 := ⟨by decide +kernel, rfl, sg_inGT (List.mem_of_getElem? (i := 1) (by decide +kernel)) rfl, cw_G_isPost, ⟨by decide +kernel, by decide +kernel, by decide +kernel⟩, by decide⟩
theorem cv_G_isPost : sg_CV m_G_isPost 1 := ⟨cy_G_isPost, sg_inGT (List.mem_of_getElem? (i := 639) (by decide +kernel)) rfl, sg_inP (List.mem_of_getElem? (i := 10) (by decide +kernel)) rfl⟩
def m_G_lay : SgY := (10, yX10_lay, cX10_lay, 6, some .int)
set_option maxRecDepth 100000 in
theorem cw_G_lay : Cond.code m_G_lay.2.1 m_G_lay.2.2.1 m_G_lay.2.2.2.1 m_G_lay.2.2.2.2 ∈ sg_GT := sg_inGT (List.mem_of_getElem? (i := 890) rfl) rfl
theorem cy_G_lay : sg_CY m_G_lay 4 := ⟨by decide +kernel, rfl, sg_inGT (List.mem_of_getElem? (i := 1) (by decide +kernel)) rfl, cw_G_lay, ⟨by decide +kernel, by decide +kernel, by decide +kernel⟩, by decide⟩
theorem cv_G_lay : sg_CV m_G_lay 4 := ⟨cy_G_lay, sg_inGT (List.mem_of_getElem? (i := 888) (by decide +kernel)) rfl, sg_inGT (List.mem_of_getElem? (i := 889) (by decide +kernel)) rfl⟩
def m_G_longest : SgY := (10, yX10_longest, cX10_longest, 2, some .int)
set_option maxRecDepth 100000 in
theorem cw_G_longest : Cond.code m_G_longest.2.1 m_G_longest.2.2.1 m_G_longest.2.2.2.1 m_G_longest.2.2.2.2 ∈ sg_GT := sg_inGT (List.mem_of_getElem? (i := 713) rfl) rfl
theorem cy_G_longest : sg_CY m_G_longest 1 := ⟨by decide +kernel, rfl, sg_inGT (List.mem_of_getElem? (i := 1) (by decide +kernel)) rfl, cw_G_longest, ⟨by decide +kernel, by decide +kernel, by decide +kernel⟩, by decide⟩
theorem cv_G_longest : sg_CV m_G_longest 1 := ⟨cy_G_longest, sg_inGT (List.mem_of_getElem? (i := 711) (by decide +kernel)) rfl, sg_inGT (List.mem_of_getElem? (i := 712) (by decide +kernel)) rfl⟩
def m_G_lose : SgY := (10, yX10_lose, cX10_lose, 2, some .int)
set_option maxRecDepth 100000 in
theorem cw_G_lose : Cond.code m_G_lose.2.1 m_G_lose.2.2.1 m_G_lose.2.2.2.1 m_G_lose.2.2.2.2 ∈ sg_GT := sg_inGT (List.mem_of_getElem? (i := 881) rfl) rfl
theorem cy_G_lose : sg_CY m_G_lose 1 := ⟨by decide +kernel, rfl, sg_inGT (List.mem_of_getElem? (i := 1) (by decide +kernel)) rfl, cw_G_lose, ⟨by decide +kernel, by decide +kernel, by decide +kernel⟩, by decide⟩
theorem cv_G_lose : sg_CV m_G_lose 1 := ⟨cy_G_lose, sg_inGT (List.mem_of_getElem? (i := 879) (by decide +kernel)) rfl, sg_inGT (List.mem_of_getElem? (i := 880) (by decide +kernel)) rfl⟩
def m_G_never : SgY := (10, yX10_never, cX10_never, 1, some .int)
set_option maxRecDepth 100000 in
theorem cw_G_never : Cond.code m_G_never.2.1 m_G_never.2.2.1 m_G_never.2.2.2.1 m_G_never.2.2.2.2 ∈ sg_GT := sg_inGT (List.mem_of_getElem? (i := 792) rfl) rfl
theorem cy_G_never : sg_CY m_G_never 0 := ⟨by decide +kernel, rfl, sg_inGT (List.mem_of_getElem? (i := 1) (by decide +kernel)) rfl, cw_G_never, ⟨by decide +kernel, by decide +kernel, by decide +kernel⟩, by decide⟩
theorem cv_G_never : sg_CV m_G_never 0 := ⟨cy_G_never, sg_inGT (List.mem_of_getElem? (i := 790) (by decide +kernel)) rfl, sg_inGT (List.mem_of_getElem? (i := 791) (by decide +kernel)) rfl⟩
def m_G_person : SgY := (10, yX10_person, cX10_person, 3, some .int)
set_option maxRecDepth 100000 in
theorem cw_G_person : Cond.code m_G_person.2.1 m_G_person.2.2.1 m_G_person.2.2.2.1 m_G_person.2.2.2.2 ∈ sg_GT := sg_inGT (List.mem_of_getElem? (i := 644) rfl) rfl
theorem cy_G_person : sg_CY m_G_person 2 := ⟨by decide +kernel, rfl, sg_inGT (List.mem_of_getElem? (i := 1) (by decide +kernel)) rfl, cw_G_person, ⟨by decide +kernel, by decide +kernel, by decide +kernel⟩, by decide⟩
theorem cv_G_person : sg_CV m_G_person 2 := ⟨cy_G_person, sg_inGT (List.mem_of_getElem? (i := 642) (by decide +kernel)) rfl, sg_inGT (List.mem_of_getElem? (i := 643) (by decide +kernel)) rfl⟩
def m_G_post : SgY := (10, yX10_post, cX10_post, 3, some .int)
set_option maxRecDepth 100000 in
theorem cw_G_post : Cond.code m_G_post.2.1 m_G_post.2.2.1 m_G_post.2.2.2.1 m_G_post.2.2.2.2 ∈ sg_GT := sg_inGT (List.mem_of_getElem? (i := 636) rfl) rfl
theorem cy_G_post : sg_CY m_G_post 2 := ⟨by decide +kernel, rfl, sg_inGT (List.mem_of_getElem? (i := 1) (by decide +kernel)) rfl, cw_G_post, ⟨by decide +kernel, by decide +kernel, by decide +kernel⟩, by decide⟩
theorem cv_G_post : sg_CV m_G_post 2 := ⟨cy_G_post, sg_inGT (List.mem_of_getElem? (i := 634) (by decide +kernel)) rfl, sg_inGT (List.mem_of_getElem? (i := 635) (by decide +kernel)) rfl⟩
def m_G_quiet : SgY := (10, yX10_quiet, cX10_quiet, 1, some .int)
set_option maxRecDepth 100000 in
theorem cw_G_quiet : Cond.code m_G_quiet.2.1 m_G_quiet.2.2.1 m_G_quiet.2.2.2.1 m_G_quiet.2.2.2.2 ∈ sg_GT := sg_inGT (List.mem_of_getElem? (i := 729) rfl) rfl
theorem cy_G_quiet : sg_CY m_G_quiet 0 := ⟨by decide +kernel, rfl, sg_inGT (List.mem_of_getElem? (i := 1) (by decide +kernel)) rfl, cw_G_quiet, ⟨by decide +kernel, by decide +kernel, by decide +kernel⟩, by decide⟩
theorem cv_G_quiet : sg_CV m_G_quiet 0 := ⟨cy_G_quiet, sg_inGT (List.mem_of_getElem? (i := 727) (by decide +kernel)) rfl, sg_inGT (List.mem_of_getElem? (i := 728) (by decide +kernel)) rfl⟩
def m_G_read : SgY := (10, yX10_read, cX10_read, 8, some .int)
set_option maxRecDepth 100000 in
theorem cw_G_read : Cond.code m_G_read.2.1 m_G_read.2.2.1 m_G_read.2.2.2.1 m_G_read.2.2.2.2 ∈ sg_GT := sg_inGT (List.mem_of_getElem? (i := 668) rfl) rfl
theorem cy_G_read : sg_CY m_G_read 1 := ⟨by decide +kernel, rfl, sg_inGT (List.mem_of_getElem? (i := 1) (by decide +kernel)) rfl, cw_G_read, ⟨by decide +kernel, by decide +kernel, by decide +kernel⟩, by decide⟩
theorem cv_G_read : sg_CV m_G_read 1 := ⟨cy_G_read, sg_inGT (List.mem_of_getElem? (i := 666) (by decide +kernel)) rfl, sg_inGT (List.mem_of_getElem? (i := 667) (by decide +kernel)) rfl⟩
def m_G_seen : SgY := (10, yX10_seen, cX10_seen, 4, some .int)
set_option maxRecDepth 100000 in
theorem cw_G_seen : Cond.code m_G_seen.2.1 m_G_seen.2.2.1 m_G_seen.2.2.2.1 m_G_seen.2.2.2.2 ∈ sg_GT := sg_inGT (List.mem_of_getElem? (i := 780) rfl) rfl
theorem cy_G_seen : sg_CY m_G_seen 3 := ⟨by decide +kernel, rfl, sg_inGT (List.mem_of_getElem? (i := 1) (by decide +kernel)) rfl, cw_G_seen, ⟨by decide +kernel, by decide +kernel, by decide +kernel⟩, by decide⟩
theorem cv_G_seen : sg_CV m_G_seen 3 := ⟨cy_G_seen, sg_inGT (List.mem_of_getElem? (i := 778) (by decide +kernel)) rfl, sg_inGT (List.mem_of_getElem? (i := 779) (by decide +kernel)) rfl⟩
def m_G_sheet : SgY := (10, yX10_sheet, cX10_sheet, 4, some .int)
set_option maxRecDepth 100000 in
theorem cw_G_sheet : Cond.code m_G_sheet.2.1 m_G_sheet.2.2.1 m_G_sheet.2.2.2.1 m_G_sheet.2.2.2.2 ∈ sg_GT := sg_inGT (List.mem_of_getElem? (i := 873) rfl) rfl
theorem cy_G_sheet : sg_CY m_G_sheet 3 := ⟨by decide +kernel, rfl, sg_inGT (List.mem_of_getElem? (i := 1) (by decide +kernel)) rfl, cw_G_sheet, ⟨by decide +kernel, by decide +kernel, by decide +kernel⟩, by decide⟩
theorem cv_G_sheet : sg_CV m_G_sheet 3 := ⟨cy_G_sheet, sg_inGT (List.mem_of_getElem? (i := 871) (by decide +kernel)) rfl, sg_inGT (List.mem_of_getElem? (i := 872) (by decide +kernel)) rfl⟩
def m_G_spare : SgY := (10, yX10_spare, cX10_spare, 2, some .int)
set_option maxRecDepth 100000 in
theorem cw_G_spare : Cond.code m_G_spare.2.1 m_G_spare.2.2.1 m_G_spare.2.2.2.1 m_G_spare.2.2.2.2 ∈ sg_GT := sg_inGT (List.mem_of_getElem? (i := 762) rfl) rfl
theorem cy_G_spare : sg_CY m_G_spare 1 := ⟨by decide +kernel, rfl, sg_inGT (List.mem_of_getElem? (i := 1) (by decide +kernel)) rfl, cw_G_spare, ⟨by decide +kernel, by decide +kernel, by decide +kernel⟩, by decide⟩
theorem cv_G_spare : sg_CV m_G_spare 1 := ⟨cy_G_spare, sg_inGT (List.mem_of_getElem? (i := 760) (by decide +kernel)) rfl, sg_inGT (List.mem_of_getElem? (i := 761) (by decide +kernel)) rfl⟩
def m_G_stood : SgY := (10, yX10_stood, cX10_stood, 4, some .int)
set_option maxRecDepth 100000 in
theorem cw_G_stood : Cond.code m_G_stood.2.1 m_G_stood.2.2.1 m_G_stood.2.2.2.1 m_G_stood.2.2.2.2 ∈ sg_GT := sg_inGT (List.mem_of_getElem? (i := 697) rfl) rfl
theorem cy_G_stood : sg_CY m_G_stood 3 := ⟨by decide +kernel, rfl, sg_inGT (List.mem_of_getElem? (i := 1) (by decide +kernel)) rfl, cw_G_stood, ⟨by decide +kernel, by decide +kernel, by decide +kernel⟩, by decide⟩
theorem cv_G_stood : sg_CV m_G_stood 3 := ⟨cy_G_stood, sg_inGT (List.mem_of_getElem? (i := 695) (by decide +kernel)) rfl, sg_inGT (List.mem_of_getElem? (i := 696) (by decide +kernel)) rfl⟩
def m_G_stroll : SgY := (10, yX10_stroll, cX10_stroll, 3, some .int)
set_option maxRecDepth 100000 in
theorem cw_G_stroll : Cond.code m_G_stroll.2.1 m_G_stroll.2.2.1 m_G_stroll.2.2.2.1 m_G_stroll.2.2.2.2 ∈ sg_GT := sg_inGT (List.mem_of_getElem? (i := 737) rfl) rfl
theorem cy_G_stroll : sg_CY m_G_stroll 2 := ⟨by decide +kernel, rfl, sg_inGT (List.mem_of_getElem? (i := 1) (by decide +kernel)) rfl, cw_G_stroll, ⟨by decide +kernel, by decide +kernel, by decide +kernel⟩, by decide⟩
theorem cv_G_stroll : sg_CV m_G_stroll 2 := ⟨cy_G_stroll, sg_inGT (List.mem_of_getElem? (i := 735) (by decide +kernel)) rfl, sg_inGT (List.mem_of_getElem? (i := 736) (by decide +kernel)) rfl⟩
def m_G_timesOfBit : SgY := (10, yX10_timesOfBit, cX10_timesOfBit, 5, some .int)
set_option maxRecDepth 100000 in
theorem cw_G_timesOfBit : Cond.code m_G_timesOfBit.2.1 m_G_timesOfBit.2.2.1 m_G_timesOfBit.2.2.2.1 m_G_timesOfBit.2.2.2.2 ∈ sg_GT := sg_inGT (List.mem_of_getElem? (i := 693) rfl) rfl
theorem cy_G_timesOfBit : sg_CY m_G_timesOfBit 3 := ⟨by decide +kernel, rfl, sg_inGT (List.mem_of_getElem? (i := 1) (by decide +kernel)) rfl, cw_G_timesOfBit, ⟨by decide +kernel, by decide +kernel, by decide +kernel⟩, by decide⟩
theorem cs_G_timesOfBit : sg_CS m_G_timesOfBit 3 := ⟨cy_G_timesOfBit, sg_inGT (List.mem_of_getElem? (i := 692) (by decide +kernel)) rfl⟩
def m_G_type : SgY := (10, yX10_type, cX10_type, 4, some .int)
set_option maxRecDepth 100000 in
theorem cw_G_type : Cond.code m_G_type.2.1 m_G_type.2.2.1 m_G_type.2.2.2.1 m_G_type.2.2.2.2 ∈ sg_GT := sg_inGT (List.mem_of_getElem? (i := 601) rfl) rfl
theorem cy_G_type : sg_CY m_G_type 2 := ⟨by decide +kernel, rfl, sg_inGT (List.mem_of_getElem? (i := 1) (by decide +kernel)) rfl, cw_G_type, ⟨by decide +kernel, by decide +kernel, by decide +kernel⟩, by decide⟩
theorem cv_G_type : sg_CV m_G_type 2 := ⟨cy_G_type, sg_inGT (List.mem_of_getElem? (i := 599) (by decide +kernel)) rfl, sg_inGT (List.mem_of_getElem? (i := 600) (by decide +kernel)) rfl⟩
def m_G_undo : SgY := (10, yX10_undo, cX10_undo, 3, some .int)
set_option maxRecDepth 100000 in
theorem cw_G_undo : Cond.code m_G_undo.2.1 m_G_undo.2.2.1 m_G_undo.2.2.2.1 m_G_undo.2.2.2.2 ∈ sg_GT := sg_inGT (List.mem_of_getElem? (i := 623) rfl) rfl
theorem cy_G_undo : sg_CY m_G_undo 1 := ⟨by decide +kernel, rfl, sg_inGT (List.mem_of_getElem? (i := 1) (by decide +kernel)) rfl, cw_G_undo, ⟨by decide +kernel, by decide +kernel, by decide +kernel⟩, by decide⟩
theorem cv_G_undo : sg_CV m_G_undo 1 := ⟨cy_G_undo, sg_inGT (List.mem_of_getElem? (i := 621) (by decide +kernel)) rfl, sg_inGT (List.mem_of_getElem? (i := 622) (by decide +kernel)) rfl⟩
def m_G_was : SgY := (10, yX10_was, cX10_was, 3, some .int)
set_option maxRecDepth 100000 in
theorem cw_G_was : Cond.code m_G_was.2.1 m_G_was.2.2.1 m_G_was.2.2.2.1 m_G_was.2.2.2.2 ∈ sg_GT := sg_inGT (List.mem_of_getElem? (i := 809) rfl) rfl
theorem cy_G_was : sg_CY m_G_was 2 := ⟨by decide +kernel, rfl, sg_inGT (List.mem_of_getElem? (i := 1) (by decide +kernel)) rfl, cw_G_was, ⟨by decide +kernel, by decide +kernel, by decide +kernel⟩, by decide⟩
theorem cv_G_was : sg_CV m_G_was 2 := ⟨cy_G_was, sg_inGT (List.mem_of_getElem? (i := 807) (by decide +kernel)) rfl, sg_inGT (List.mem_of_getElem? (i := 808) (by decide +kernel)) rfl⟩
def m_G_wipe : SgY := (10, yX10_wipe, cX10_wipe, 3, some .int)
set_option maxRecDepth 100000 in
theorem cw_G_wipe : Cond.code m_G_wipe.2.1 m_G_wipe.2.2.1 m_G_wipe.2.2.2.1 m_G_wipe.2.2.2.2 ∈ sg_GT := sg_inGT (List.mem_of_getElem? (i := 615) rfl) rfl
theorem cy_G_wipe : sg_CY m_G_wipe 1 := ⟨by decide +kernel, rfl, sg_inGT (List.mem_of_getElem? (i := 1) (by decide +kernel)) rfl, cw_G_wipe, ⟨by decide +kernel, by decide +kernel, by decide +kernel⟩, by decide⟩
theorem cv_G_wipe : sg_CV m_G_wipe 1 := ⟨cy_G_wipe, sg_inGT (List.mem_of_getElem? (i := 613) (by decide +kernel)) rfl, sg_inGT (List.mem_of_getElem? (i := 614) (by decide +kernel)) rfl⟩
def m_G_write : SgY := (10, yX10_write, cX10_write, 6, some .int)
set_option maxRecDepth 100000 in
theorem cw_G_write : Cond.code m_G_write.2.1 m_G_write.2.2.1 m_G_write.2.2.2.1 m_G_write.2.2.2.2 ∈ sg_GT := sg_inGT (List.mem_of_getElem? (i := 919) rfl) rfl
theorem cy_G_write : sg_CY m_G_write 2 := ⟨by decide +kernel, rfl, sg_inGT (List.mem_of_getElem? (i := 1) (by decide +kernel)) rfl, cw_G_write, ⟨by decide +kernel, by decide +kernel, by decide +kernel⟩, by decide⟩
theorem cv_G_write : sg_CV m_G_write 2 := ⟨cy_G_write, sg_inGT (List.mem_of_getElem? (i := 917) (by decide +kernel)) rfl, sg_inGT (List.mem_of_getElem? (i := 918) (by decide +kernel)) rfl⟩
def m_H_coldsOf : SgY := (3, yX3_coldsOf, cX3_coldsOf, 5, some .int)
set_option maxRecDepth 100000 in
theorem cw_H_coldsOf : Cond.code m_H_coldsOf.2.1 m_H_coldsOf.2.2.1 m_H_coldsOf.2.2.2.1 m_H_coldsOf.2.2.2.2 ∈ sg_GT := sg_inGT (List.mem_of_getElem? (i := 818) rfl) rfl
theorem cy_H_coldsOf : sg_CY m_H_coldsOf 1 := ⟨by decide +kernel, rfl, sg_inGT (List.mem_of_getElem? (i := 17) (by decide +kernel)) rfl, cw_H_coldsOf, ⟨by decide +kernel, by decide +kernel, by decide +kernel⟩, by decide⟩
theorem cv_H_coldsOf : sg_CV m_H_coldsOf 1 := ⟨cy_H_coldsOf, sg_inGT (List.mem_of_getElem? (i := 816) (by decide +kernel)) rfl, sg_inGT (List.mem_of_getElem? (i := 817) (by decide +kernel)) rfl⟩
def m_H_comesOutSo : SgY := (3, yX3_comesOutSo, cX3_comesOutSo, 3, some .boolean)
set_option maxRecDepth 100000 in
theorem cw_H_comesOutSo : Cond.code m_H_comesOutSo.2.1 m_H_comesOutSo.2.2.1 m_H_comesOutSo.2.2.2.1 m_H_comesOutSo.2.2.2.2 ∈ sg_GT := sg_inGT (List.mem_of_getElem? (i := 805) rfl) rfl
theorem cy_H_comesOutSo : sg_CY m_H_comesOutSo 0 := ⟨by decide +kernel, rfl, sg_inGT (List.mem_of_getElem? (i := 17) (by decide +kernel)) rfl, cw_H_comesOutSo, ⟨by decide +kernel, by decide +kernel, by decide +kernel⟩, by decide⟩
theorem cv_H_comesOutSo : sg_CV m_H_comesOutSo 0 := ⟨cy_H_comesOutSo, sg_inGT (List.mem_of_getElem? (i := 804) (by decide +kernel)) rfl, sg_inP (List.mem_of_getElem? (i := 14) (by decide +kernel)) rfl⟩
def m_H_hourToAsk : SgY := (3, yX3_hourToAsk, cX3_hourToAsk, 7, some .int)
set_option maxRecDepth 100000 in
theorem cw_H_hourToAsk : Cond.code m_H_hourToAsk.2.1 m_H_hourToAsk.2.2.1 m_H_hourToAsk.2.2.2.1 m_H_hourToAsk.2.2.2.2 ∈ sg_GT := sg_inGT (List.mem_of_getElem? (i := 829) rfl) rfl
theorem cy_H_hourToAsk : sg_CY m_H_hourToAsk 1 := ⟨by decide +kernel, rfl, sg_inGT (List.mem_of_getElem? (i := 17) (by decide +kernel)) rfl, cw_H_hourToAsk, ⟨by decide +kernel, by decide +kernel, by decide +kernel⟩, by decide⟩
theorem cv_H_hourToAsk : sg_CV m_H_hourToAsk 1 := ⟨cy_H_hourToAsk, sg_inGT (List.mem_of_getElem? (i := 827) (by decide +kernel)) rfl, sg_inGT (List.mem_of_getElem? (i := 828) (by decide +kernel)) rfl⟩
def m_H_mostAlike : SgY := (3, yX3_mostAlike, cX3_mostAlike, 7, some .int)
set_option maxRecDepth 100000 in
theorem cw_H_mostAlike : Cond.code m_H_mostAlike.2.1 m_H_mostAlike.2.2.1 m_H_mostAlike.2.2.2.1 m_H_mostAlike.2.2.2.2 ∈ sg_GT := sg_inGT (List.mem_of_getElem? (i := 834) rfl) rfl
theorem cy_H_mostAlike : sg_CY m_H_mostAlike 2 := ⟨by decide +kernel, rfl, sg_inGT (List.mem_of_getElem? (i := 17) (by decide +kernel)) rfl, cw_H_mostAlike, ⟨by decide +kernel, by decide +kernel, by decide +kernel⟩, by decide⟩
theorem cv_H_mostAlike : sg_CV m_H_mostAlike 2 := ⟨cy_H_mostAlike, sg_inGT (List.mem_of_getElem? (i := 833) (by decide +kernel)) rfl, sg_inP (List.mem_of_getElem? (i := 15) (by decide +kernel)) rfl⟩
def m_H_needless : SgY := (3, yX3_needless, cX3_needless, 3, some .int)
set_option maxRecDepth 100000 in
theorem cw_H_needless : Cond.code m_H_needless.2.1 m_H_needless.2.2.1 m_H_needless.2.2.2.1 m_H_needless.2.2.2.2 ∈ sg_GT := sg_inGT (List.mem_of_getElem? (i := 796) rfl) rfl
theorem cy_H_needless : sg_CY m_H_needless 0 := ⟨by decide +kernel, rfl, sg_inGT (List.mem_of_getElem? (i := 17) (by decide +kernel)) rfl, cw_H_needless, ⟨by decide +kernel, by decide +kernel, by decide +kernel⟩, by decide⟩
theorem cv_H_needless : sg_CV m_H_needless 0 := ⟨cy_H_needless, sg_inGT (List.mem_of_getElem? (i := 794) (by decide +kernel)) rfl, sg_inGT (List.mem_of_getElem? (i := 795) (by decide +kernel)) rfl⟩
def m_H_see : SgY := (3, yX3_see, cX3_see, 4, some .int)
set_option maxRecDepth 100000 in
theorem cw_H_see : Cond.code m_H_see.2.1 m_H_see.2.2.1 m_H_see.2.2.2.1 m_H_see.2.2.2.2 ∈ sg_GT := sg_inGT (List.mem_of_getElem? (i := 784) rfl) rfl
theorem cy_H_see : sg_CY m_H_see 3 := ⟨by decide +kernel, rfl, sg_inGT (List.mem_of_getElem? (i := 17) (by decide +kernel)) rfl, cw_H_see, ⟨by decide +kernel, by decide +kernel, by decide +kernel⟩, by decide⟩
theorem cv_H_see : sg_CV m_H_see 3 := ⟨cy_H_see, sg_inGT (List.mem_of_getElem? (i := 782) (by decide +kernel)) rfl, sg_inGT (List.mem_of_getElem? (i := 783) (by decide +kernel)) rfl⟩
def m_H_sortsOf : SgY := (3, yX3_sortsOf, cX3_sortsOf, 5, some .int)
set_option maxRecDepth 100000 in
theorem cw_H_sortsOf : Cond.code m_H_sortsOf.2.1 m_H_sortsOf.2.2.1 m_H_sortsOf.2.2.2.1 m_H_sortsOf.2.2.2.2 ∈ sg_GT := sg_inGT (List.mem_of_getElem? (i := 813) rfl) rfl
theorem cy_H_sortsOf : sg_CY m_H_sortsOf 1 := ⟨by decide +kernel, rfl, sg_inGT (List.mem_of_getElem? (i := 17) (by decide +kernel)) rfl, cw_H_sortsOf, ⟨by decide +kernel, by decide +kernel, by decide +kernel⟩, by decide⟩
theorem cv_H_sortsOf : sg_CV m_H_sortsOf 1 := ⟨cy_H_sortsOf, sg_inGT (List.mem_of_getElem? (i := 811) (by decide +kernel)) rfl, sg_inGT (List.mem_of_getElem? (i := 812) (by decide +kernel)) rfl⟩
def m_I_bitCount : SgY := (26, yJ6_bitCount_0f7a4, cJ6_bitCount_0f7a4, 1, some .int)
set_option maxRecDepth 100000 in
theorem cw_I_bitCount : Cond.code m_I_bitCount.2.1 m_I_bitCount.2.2.1 m_I_bitCount.2.2.2.1 m_I_bitCount.2.2.2.2 ∈ sg_GT := sg_inGT (List.mem_of_getElem? (i := 427) rfl) rfl
theorem cy_I_bitCount : sg_CY m_I_bitCount 1 := ⟨by decide +kernel, rfl, sg_inGT (List.mem_of_getElem? (i := 15) (by decide +kernel)) rfl, cw_I_bitCount, ⟨by decide +kernel, by decide +kernel, by decide +kernel⟩, by decide⟩
theorem cs_I_bitCount : sg_CS m_I_bitCount 1 := ⟨cy_I_bitCount, sg_inGT (List.mem_of_getElem? (i := 426) (by decide +kernel)) rfl⟩
def m_K_clearWeather : SgY := (4, yX4_clearWeather, cX4_clearWeather, 1, none)
set_option maxRecDepth 100000 in
theorem cw_K_clearWeather : Cond.code m_K_clearWeather.2.1 m_K_clearWeather.2.2.1 m_K_clearWeather.2.2.2.1 m_K_clearWeather.2.2.2.2 ∈ sg_GT := sg_inGT (List.mem_of_getElem? (i := 375) rfl) rfl
theorem cy_K_clearWeather : sg_CY m_K_clearWeather 0 := ⟨by decide +kernel, rfl, sg_inGT (List.mem_of_getElem? (i := 2) (by decide +kernel)) rfl, cw_K_clearWeather, ⟨by decide +kernel, by decide +kernel, by decide +kernel⟩, by decide⟩
theorem cv_K_clearWeather : sg_CV m_K_clearWeather 0 := ⟨cy_K_clearWeather, sg_inGT (List.mem_of_getElem? (i := 373) (by decide +kernel)) rfl, sg_inGT (List.mem_of_getElem? (i := 374) (by decide +kernel)) rfl⟩
def m_K_forgottenWith : SgY := (4, yX4_forgottenWith, cX4_forgottenWith, 2, some .int)
set_option maxRecDepth 100000 in
theorem cw_K_forgottenWith : Cond.code m_K_forgottenWith.2.1 m_K_forgottenWith.2.2.1 m_K_forgottenWith.2.2.2.1 m_K_forgottenWith.2.2.2.2 ∈ sg_GT := sg_inGT (List.mem_of_getElem? (i := 775) rfl) rfl
theorem cy_K_forgottenWith : sg_CY m_K_forgottenWith 1 := ⟨by decide +kernel, rfl, sg_inGT (List.mem_of_getElem? (i := 2) (by decide +kernel)) rfl, cw_K_forgottenWith, ⟨by decide +kernel, by decide +kernel, by decide +kernel⟩, by decide⟩
theorem cv_K_forgottenWith : sg_CV m_K_forgottenWith 1 := ⟨cy_K_forgottenWith, sg_inGT (List.mem_of_getElem? (i := 773) (by decide +kernel)) rfl, sg_inGT (List.mem_of_getElem? (i := 774) (by decide +kernel)) rfl⟩
def m_K_supposeEvents : SgY := (4, yX4_supposeEvents, cX4_supposeEvents, 3, none)
set_option maxRecDepth 100000 in
theorem cw_K_supposeEvents : Cond.code m_K_supposeEvents.2.1 m_K_supposeEvents.2.2.1 m_K_supposeEvents.2.2.2.1 m_K_supposeEvents.2.2.2.2 ∈ sg_GT := sg_inGT (List.mem_of_getElem? (i := 801) rfl) rfl
theorem cy_K_supposeEvents : sg_CY m_K_supposeEvents 2 := ⟨by decide +kernel, rfl, sg_inGT (List.mem_of_getElem? (i := 2) (by decide +kernel)) rfl, cw_K_supposeEvents, ⟨by decide +kernel, by decide +kernel, by decide +kernel⟩, by decide⟩
theorem cv_K_supposeEvents : sg_CV m_K_supposeEvents 2 := ⟨cy_K_supposeEvents, sg_inGT (List.mem_of_getElem? (i := 799) (by decide +kernel)) rfl, sg_inGT (List.mem_of_getElem? (i := 800) (by decide +kernel)) rfl⟩
def m_K_tellAnew : SgY := (4, yX4_tellAnew, cX4_tellAnew, 1, none)
set_option maxRecDepth 100000 in
theorem cw_K_tellAnew : Cond.code m_K_tellAnew.2.1 m_K_tellAnew.2.2.1 m_K_tellAnew.2.2.2.1 m_K_tellAnew.2.2.2.2 ∈ sg_GT := sg_inGT (List.mem_of_getElem? (i := 236) rfl) rfl
theorem cy_K_tellAnew : sg_CY m_K_tellAnew 0 := ⟨by decide +kernel, rfl, sg_inGT (List.mem_of_getElem? (i := 2) (by decide +kernel)) rfl, cw_K_tellAnew, ⟨by decide +kernel, by decide +kernel, by decide +kernel⟩, by decide⟩
theorem cv_K_tellAnew : sg_CV m_K_tellAnew 0 := ⟨cy_K_tellAnew, sg_inGT (List.mem_of_getElem? (i := 234) (by decide +kernel)) rfl, sg_inGT (List.mem_of_getElem? (i := 235) (by decide +kernel)) rfl⟩
def m_K_textOf : SgY := (4, yX4_textOf, cX4_textOf, 2, some (.object "SneezeGuard$Text"))
set_option maxRecDepth 100000 in
theorem cw_K_textOf : Cond.code m_K_textOf.2.1 m_K_textOf.2.2.1 m_K_textOf.2.2.2.1 m_K_textOf.2.2.2.2 ∈ sg_GT := sg_inGT (List.mem_of_getElem? (i := 606) rfl) rfl
theorem cy_K_textOf : sg_CY m_K_textOf 1 := ⟨by decide +kernel, rfl, sg_inGT (List.mem_of_getElem? (i := 2) (by decide +kernel)) rfl, cw_K_textOf, ⟨by decide +kernel, by decide +kernel, by decide +kernel⟩, by decide⟩
theorem cv_K_textOf : sg_CV m_K_textOf 1 := ⟨cy_K_textOf, sg_inGT (List.mem_of_getElem? (i := 604) (by decide +kernel)) rfl, sg_inGT (List.mem_of_getElem? (i := 605) (by decide +kernel)) rfl⟩
def m_L_canEncode : SgY := (21, yJ1_canEncode_9a6ad, cJ1_canEncode_9a6ad, 1, some .boolean)
set_option maxRecDepth 100000 in
theorem cw_L_canEncode : Cond.code m_L_canEncode.2.1 m_L_canEncode.2.2.1 m_L_canEncode.2.2.2.1 m_L_canEncode.2.2.2.2 ∈ sg_GT := sg_inGT (List.mem_of_getElem? (i := 292) rfl) rfl
theorem cy_L_canEncode : sg_CY m_L_canEncode 1 := ⟨by decide +kernel, rfl, sg_inGT (List.mem_of_getElem? (i := 9) (by decide +kernel)) rfl, cw_L_canEncode, ⟨by decide +kernel, by decide +kernel, by decide +kernel⟩, by decide⟩
theorem cs_L_canEncode : sg_CS m_L_canEncode 1 := ⟨cy_L_canEncode, sg_inGT (List.mem_of_getElem? (i := 291) (by decide +kernel)) rfl⟩
def m_L_indexOf : SgY := (21, yJ1_indexOf_4cfef, cJ1_indexOf_4cfef, 4, some .int)
set_option maxRecDepth 100000 in
theorem cw_L_indexOf : Cond.code m_L_indexOf.2.1 m_L_indexOf.2.2.1 m_L_indexOf.2.2.2.1 m_L_indexOf.2.2.2.2 ∈ sg_GT := sg_inGT (List.mem_of_getElem? (i := 289) rfl) rfl
theorem cy_L_indexOf : sg_CY m_L_indexOf 4 := ⟨by decide +kernel, rfl, sg_inGT (List.mem_of_getElem? (i := 9) (by decide +kernel)) rfl, cw_L_indexOf, ⟨by decide +kernel, by decide +kernel, by decide +kernel⟩, by decide⟩
theorem cs_L_indexOf : sg_CS m_L_indexOf 4 := ⟨cy_L_indexOf, sg_inGT (List.mem_of_getElem? (i := 288) (by decide +kernel)) rfl⟩
def m_L_indexOfChar : SgY := (21, yJ1_indexOfChar_4cfef, cJ1_indexOfChar_4cfef, 6, some .int)
set_option maxRecDepth 100000 in
theorem cw_L_indexOfChar : Cond.code m_L_indexOfChar.2.1 m_L_indexOfChar.2.2.1 m_L_indexOfChar.2.2.2.1 m_L_indexOfChar.2.2.2.2 ∈ sg_GT := sg_inGT (List.mem_of_getElem? (i := 301) rfl) rfl
theorem cy_L_indexOfChar : sg_CY m_L_indexOfChar 4 := ⟨by decide +kernel, rfl, sg_inGT (List.mem_of_getElem? (i := 9) (by decide +kernel)) rfl, cw_L_indexOfChar, ⟨by decide +kernel, by decide +kernel, by decide +kernel⟩, by decide⟩
theorem cs_L_indexOfChar : sg_CS m_L_indexOfChar 4 := ⟨cy_L_indexOfChar, sg_inGT (List.mem_of_getElem? (i := 300) (by decide +kernel)) rfl⟩
def m_M_alike : SgY := (11, yX11_alike, cX11_alike, 7, some .int)
set_option maxRecDepth 100000 in
theorem cw_M_alike : Cond.code m_M_alike.2.1 m_M_alike.2.2.1 m_M_alike.2.2.2.1 m_M_alike.2.2.2.2 ∈ sg_GT := sg_inGT (List.mem_of_getElem? (i := 1394) rfl) rfl
theorem cy_M_alike : sg_CY m_M_alike 2 := ⟨by decide +kernel, rfl, sg_inGT (List.mem_of_getElem? (i := 20) (by decide +kernel)) rfl, cw_M_alike, ⟨by decide +kernel, by decide +kernel, by decide +kernel⟩, by decide⟩
theorem cv_M_alike : sg_CV m_M_alike 2 := ⟨cy_M_alike, sg_inGT (List.mem_of_getElem? (i := 1393) (by decide +kernel)) rfl, sg_inP (List.mem_of_getElem? (i := 56) (by decide +kernel)) rfl⟩
def m_M_all : SgY := (11, yX11_all, cX11_all, 1, some .int)
set_option maxRecDepth 100000 in
theorem cw_M_all : Cond.code m_M_all.2.1 m_M_all.2.2.1 m_M_all.2.2.2.1 m_M_all.2.2.2.2 ∈ sg_GT := sg_inGT (List.mem_of_getElem? (i := 1285) rfl) rfl
theorem cy_M_all : sg_CY m_M_all 0 := ⟨by decide +kernel, rfl, sg_inGT (List.mem_of_getElem? (i := 20) (by decide +kernel)) rfl, cw_M_all, ⟨by decide +kernel, by decide +kernel, by decide +kernel⟩, by decide⟩
theorem cv_M_all : sg_CV m_M_all 0 := ⟨cy_M_all, sg_inGT (List.mem_of_getElem? (i := 1283) (by decide +kernel)) rfl, sg_inGT (List.mem_of_getElem? (i := 1284) (by decide +kernel)) rfl⟩
def m_M_allNow : SgY := (11, yX11_allNow, cX11_allNow, 3, some .int)
set_option maxRecDepth 100000 in
theorem cw_M_allNow : Cond.code m_M_allNow.2.1 m_M_allNow.2.2.1 m_M_allNow.2.2.2.1 m_M_allNow.2.2.2.2 ∈ sg_GT := sg_inGT (List.mem_of_getElem? (i := 1289) rfl) rfl
theorem cy_M_allNow : sg_CY m_M_allNow 0 := ⟨by decide +kernel, rfl, sg_inGT (List.mem_of_getElem? (i := 20) (by decide +kernel)) rfl, cw_M_allNow, ⟨by decide +kernel, by decide +kernel, by decide +kernel⟩, by decide⟩
theorem cv_M_allNow : sg_CV m_M_allNow 0 := ⟨cy_M_allNow, sg_inGT (List.mem_of_getElem? (i := 1288) (by decide +kernel)) rfl, sg_inP (List.mem_of_getElem? (i := 42) (by decide +kernel)) rfl⟩
def m_M_apart : SgY := (11, yX11_apart, cX11_apart, 2, some .int)
set_option maxRecDepth 100000 in
theorem cw_M_apart : Cond.code m_M_apart.2.1 m_M_apart.2.2.1 m_M_apart.2.2.2.1 m_M_apart.2.2.2.2 ∈ sg_GT := sg_inGT (List.mem_of_getElem? (i := 1238) rfl) rfl
theorem cy_M_apart : sg_CY m_M_apart 2 := ⟨by decide +kernel, rfl, sg_inGT (List.mem_of_getElem? (i := 20) (by decide +kernel)) rfl, cw_M_apart, ⟨by decide +kernel, by decide +kernel, by decide +kernel⟩, by decide⟩
theorem cs_M_apart : sg_CS m_M_apart 2 := ⟨cy_M_apart, sg_inGT (List.mem_of_getElem? (i := 1237) (by decide +kernel)) rfl⟩
def m_M_ask : SgY := (11, yX11_ask, cX11_ask, 2, some .int)
set_option maxRecDepth 100000 in
theorem cw_M_ask : Cond.code m_M_ask.2.1 m_M_ask.2.2.1 m_M_ask.2.2.2.1 m_M_ask.2.2.2.2 ∈ sg_GT := sg_inGT (List.mem_of_getElem? (i := 1386) rfl) rfl
theorem cy_M_ask : sg_CY m_M_ask 1 := ⟨by decide +kernel, rfl, sg_inGT (List.mem_of_getElem? (i := 20) (by decide +kernel)) rfl, cw_M_ask, ⟨by decide +kernel, by decide +kernel, by decide +kernel⟩, by decide⟩
theorem cv_M_ask : sg_CV m_M_ask 1 := ⟨cy_M_ask, sg_inGT (List.mem_of_getElem? (i := 1384) (by decide +kernel)) rfl, sg_inGT (List.mem_of_getElem? (i := 1385) (by decide +kernel)) rfl⟩
def m_M_askOf : SgY := (11, yX11_askOf, cX11_askOf, 5, some .int)
set_option maxRecDepth 100000 in
theorem cw_M_askOf : Cond.code m_M_askOf.2.1 m_M_askOf.2.2.1 m_M_askOf.2.2.2.1 m_M_askOf.2.2.2.2 ∈ sg_GT := sg_inGT (List.mem_of_getElem? (i := 1390) rfl) rfl
theorem cy_M_askOf : sg_CY m_M_askOf 1 := ⟨by decide +kernel, rfl, sg_inGT (List.mem_of_getElem? (i := 20) (by decide +kernel)) rfl, cw_M_askOf, ⟨by decide +kernel, by decide +kernel, by decide +kernel⟩, by decide⟩
theorem cv_M_askOf : sg_CV m_M_askOf 1 := ⟨cy_M_askOf, sg_inGT (List.mem_of_getElem? (i := 1389) (by decide +kernel)) rfl, sg_inP (List.mem_of_getElem? (i := 55) (by decide +kernel)) rfl⟩
def m_M_at : SgY := (11, yX11_at, cX11_at, 4, some .int)
set_option maxRecDepth 100000 in
theorem cw_M_at : Cond.code m_M_at.2.1 m_M_at.2.2.1 m_M_at.2.2.2.1 m_M_at.2.2.2.2 ∈ sg_GT := sg_inGT (List.mem_of_getElem? (i := 1204) rfl) rfl
theorem cy_M_at : sg_CY m_M_at 3 := ⟨by decide +kernel, rfl, sg_inGT (List.mem_of_getElem? (i := 20) (by decide +kernel)) rfl, cw_M_at, ⟨by decide +kernel, by decide +kernel, by decide +kernel⟩, by decide⟩
theorem cv_M_at : sg_CV m_M_at 3 := ⟨cy_M_at, sg_inGT (List.mem_of_getElem? (i := 1202) (by decide +kernel)) rfl, sg_inGT (List.mem_of_getElem? (i := 1203) (by decide +kernel)) rfl⟩
def m_M_atBy : SgY := (11, yX11_atBy, cX11_atBy, 5, some .int)
set_option maxRecDepth 100000 in
theorem cw_M_atBy : Cond.code m_M_atBy.2.1 m_M_atBy.2.2.1 m_M_atBy.2.2.2.1 m_M_atBy.2.2.2.2 ∈ sg_GT := sg_inGT (List.mem_of_getElem? (i := 1246) rfl) rfl
theorem cy_M_atBy : sg_CY m_M_atBy 3 := ⟨by decide +kernel, rfl, sg_inGT (List.mem_of_getElem? (i := 20) (by decide +kernel)) rfl, cw_M_atBy, ⟨by decide +kernel, by decide +kernel, by decide +kernel⟩, by decide⟩
theorem cv_M_atBy : sg_CV m_M_atBy 3 := ⟨cy_M_atBy, sg_inGT (List.mem_of_getElem? (i := 1245) (by decide +kernel)) rfl, sg_inP (List.mem_of_getElem? (i := 37) (by decide +kernel)) rfl⟩
def m_M_back : SgY := (11, yX11_back, cX11_back, 1, some .int)
set_option maxRecDepth 100000 in
theorem cw_M_back : Cond.code m_M_back.2.1 m_M_back.2.2.1 m_M_back.2.2.2.1 m_M_back.2.2.2.2 ∈ sg_GT := sg_inGT (List.mem_of_getElem? (i := 1195) rfl) rfl
theorem cy_M_back : sg_CY m_M_back 0 := ⟨by decide +kernel, rfl, sg_inGT (List.mem_of_getElem? (i := 20) (by decide +kernel)) rfl, cw_M_back, ⟨by decide +kernel, by decide +kernel, by decide +kernel⟩, by decide⟩
theorem cv_M_back : sg_CV m_M_back 0 := ⟨cy_M_back, sg_inGT (List.mem_of_getElem? (i := 1193) (by decide +kernel)) rfl, sg_inGT (List.mem_of_getElem? (i := 1194) (by decide +kernel)) rfl⟩
def m_M_busy : SgY := (11, yX11_busy, cX11_busy, 1, some .int)
set_option maxRecDepth 100000 in
theorem cw_M_busy : Cond.code m_M_busy.2.1 m_M_busy.2.2.1 m_M_busy.2.2.2.1 m_M_busy.2.2.2.2 ∈ sg_GT := sg_inGT (List.mem_of_getElem? (i := 1293) rfl) rfl
theorem cy_M_busy : sg_CY m_M_busy 0 := ⟨by decide +kernel, rfl, sg_inGT (List.mem_of_getElem? (i := 20) (by decide +kernel)) rfl, cw_M_busy, ⟨by decide +kernel, by decide +kernel, by decide +kernel⟩, by decide⟩
theorem cv_M_busy : sg_CV m_M_busy 0 := ⟨cy_M_busy, sg_inGT (List.mem_of_getElem? (i := 1291) (by decide +kernel)) rfl, sg_inGT (List.mem_of_getElem? (i := 1292) (by decide +kernel)) rfl⟩
def m_M_busyNow : SgY := (11, yX11_busyNow, cX11_busyNow, 4, some .int)
set_option maxRecDepth 100000 in
theorem cw_M_busyNow : Cond.code m_M_busyNow.2.1 m_M_busyNow.2.2.1 m_M_busyNow.2.2.2.1 m_M_busyNow.2.2.2.2 ∈ sg_GT := sg_inGT (List.mem_of_getElem? (i := 1297) rfl) rfl
theorem cy_M_busyNow : sg_CY m_M_busyNow 0 := ⟨by decide +kernel, rfl, sg_inGT (List.mem_of_getElem? (i := 20) (by decide +kernel)) rfl, cw_M_busyNow, ⟨by decide +kernel, by decide +kernel, by decide +kernel⟩, by decide⟩
theorem cv_M_busyNow : sg_CV m_M_busyNow 0 := ⟨cy_M_busyNow, sg_inGT (List.mem_of_getElem? (i := 1296) (by decide +kernel)) rfl, sg_inP (List.mem_of_getElem? (i := 43) (by decide +kernel)) rfl⟩
def m_M_chance : SgY := (11, yX11_chance, cX11_chance, 4, some .long)
set_option maxRecDepth 100000 in
theorem cw_M_chance : Cond.code m_M_chance.2.1 m_M_chance.2.2.1 m_M_chance.2.2.2.1 m_M_chance.2.2.2.2 ∈ sg_GT := sg_inGT (List.mem_of_getElem? (i := 1398) rfl) rfl
theorem cy_M_chance : sg_CY m_M_chance 3 := ⟨by decide +kernel, rfl, sg_inGT (List.mem_of_getElem? (i := 20) (by decide +kernel)) rfl, cw_M_chance, ⟨by decide +kernel, by decide +kernel, by decide +kernel⟩, by decide⟩
theorem cv_M_chance : sg_CV m_M_chance 3 := ⟨cy_M_chance, sg_inGT (List.mem_of_getElem? (i := 1396) (by decide +kernel)) rfl, sg_inGT (List.mem_of_getElem? (i := 1397) (by decide +kernel)) rfl⟩
def m_M_chanceOf : SgY := (11, yX11_chanceOf, cX11_chanceOf, 10, some .long)
set_option maxRecDepth 100000 in
theorem cw_M_chanceOf : Cond.code m_M_chanceOf.2.1 m_M_chanceOf.2.2.1 m_M_chanceOf.2.2.2.1 m_M_chanceOf.2.2.2.2 ∈ sg_GT := sg_inGT (List.mem_of_getElem? (i := 1403) rfl) rfl
theorem cy_M_chanceOf : sg_CY m_M_chanceOf 3 := ⟨by decide +kernel, rfl, sg_inGT (List.mem_of_getElem? (i := 20) (by decide +kernel)) rfl, cw_M_chanceOf, ⟨by decide +kernel, by decide +kernel, by decide +kernel⟩, by decide⟩
theorem cv_M_chanceOf : sg_CV m_M_chanceOf 3 := ⟨cy_M_chanceOf, sg_inGT (List.mem_of_getElem? (i := 1402) (by decide +kernel)) rfl, sg_inP (List.mem_of_getElem? (i := 57) (by decide +kernel)) rfl⟩
def m_M_changes : SgY := (11, yX11_changes, cX11_changes, 2, some .int)
set_option maxRecDepth 100000 in
theorem cw_M_changes : Cond.code m_M_changes.2.1 m_M_changes.2.2.1 m_M_changes.2.2.2.1 m_M_changes.2.2.2.2 ∈ sg_GT := sg_inGT (List.mem_of_getElem? (i := 1258) rfl) rfl
theorem cy_M_changes : sg_CY m_M_changes 1 := ⟨by decide +kernel, rfl, sg_inGT (List.mem_of_getElem? (i := 20) (by decide +kernel)) rfl, cw_M_changes, ⟨by decide +kernel, by decide +kernel, by decide +kernel⟩, by decide⟩
theorem cv_M_changes : sg_CV m_M_changes 1 := ⟨cy_M_changes, sg_inGT (List.mem_of_getElem? (i := 1256) (by decide +kernel)) rfl, sg_inGT (List.mem_of_getElem? (i := 1257) (by decide +kernel)) rfl⟩
def m_M_changesIn : SgY := (11, yX11_changesIn, cX11_changesIn, 4, some .int)
set_option maxRecDepth 100000 in
theorem cw_M_changesIn : Cond.code m_M_changesIn.2.1 m_M_changesIn.2.2.1 m_M_changesIn.2.2.2.1 m_M_changesIn.2.2.2.2 ∈ sg_GT := sg_inGT (List.mem_of_getElem? (i := 1262) rfl) rfl
theorem cy_M_changesIn : sg_CY m_M_changesIn 1 := ⟨by decide +kernel, rfl, sg_inGT (List.mem_of_getElem? (i := 20) (by decide +kernel)) rfl, cw_M_changesIn, ⟨by decide +kernel, by decide +kernel, by decide +kernel⟩, by decide⟩
theorem cv_M_changesIn : sg_CV m_M_changesIn 1 := ⟨cy_M_changesIn, sg_inGT (List.mem_of_getElem? (i := 1261) (by decide +kernel)) rfl, sg_inP (List.mem_of_getElem? (i := 39) (by decide +kernel)) rfl⟩
def m_M_coldsOf : SgY := (11, yX11_coldsOf, cX11_coldsOf, 6, some .int)
set_option maxRecDepth 100000 in
theorem cw_M_coldsOf : Cond.code m_M_coldsOf.2.1 m_M_coldsOf.2.2.1 m_M_coldsOf.2.2.2.1 m_M_coldsOf.2.2.2.2 ∈ sg_GT := sg_inGT (List.mem_of_getElem? (i := 1382) rfl) rfl
theorem cy_M_coldsOf : sg_CY m_M_coldsOf 1 := ⟨by decide +kernel, rfl, sg_inGT (List.mem_of_getElem? (i := 20) (by decide +kernel)) rfl, cw_M_coldsOf, ⟨by decide +kernel, by decide +kernel, by decide +kernel⟩, by decide⟩
theorem cv_M_coldsOf : sg_CV m_M_coldsOf 1 := ⟨cy_M_coldsOf, sg_inGT (List.mem_of_getElem? (i := 1381) (by decide +kernel)) rfl, sg_inP (List.mem_of_getElem? (i := 54) (by decide +kernel)) rfl⟩
def m_M_copy : SgY := (11, yX11_copy, cX11_copy, 7, some .int)
set_option maxRecDepth 100000 in
theorem cw_M_copy : Cond.code m_M_copy.2.1 m_M_copy.2.2.1 m_M_copy.2.2.2.1 m_M_copy.2.2.2.2 ∈ sg_GT := sg_inGT (List.mem_of_getElem? (i := 1121) rfl) rfl
theorem cy_M_copy : sg_CY m_M_copy 5 := ⟨by decide +kernel, rfl, sg_inGT (List.mem_of_getElem? (i := 20) (by decide +kernel)) rfl, cw_M_copy, ⟨by decide +kernel, by decide +kernel, by decide +kernel⟩, by decide⟩
theorem cv_M_copy : sg_CV m_M_copy 5 := ⟨cy_M_copy, sg_inGT (List.mem_of_getElem? (i := 1119) (by decide +kernel)) rfl, sg_inGT (List.mem_of_getElem? (i := 1120) (by decide +kernel)) rfl⟩
def m_M_count : SgY := (11, yX11_count, cX11_count, 2, some .int)
set_option maxRecDepth 100000 in
theorem cw_M_count : Cond.code m_M_count.2.1 m_M_count.2.2.1 m_M_count.2.2.2.1 m_M_count.2.2.2.2 ∈ sg_GT := sg_inGT (List.mem_of_getElem? (i := 1435) rfl) rfl
theorem cy_M_count : sg_CY m_M_count 1 := ⟨by decide +kernel, rfl, sg_inGT (List.mem_of_getElem? (i := 20) (by decide +kernel)) rfl, cw_M_count, ⟨by decide +kernel, by decide +kernel, by decide +kernel⟩, by decide⟩
theorem cv_M_count : sg_CV m_M_count 1 := ⟨cy_M_count, sg_inGT (List.mem_of_getElem? (i := 1433) (by decide +kernel)) rfl, sg_inGT (List.mem_of_getElem? (i := 1434) (by decide +kernel)) rfl⟩
def m_M_cut : SgY := (11, yX11_cut, cX11_cut, 2, some .int)
set_option maxRecDepth 100000 in
theorem cw_M_cut : Cond.code m_M_cut.2.1 m_M_cut.2.2.1 m_M_cut.2.2.2.1 m_M_cut.2.2.2.2 ∈ sg_GT := sg_inGT (List.mem_of_getElem? (i := 1112) rfl) rfl
theorem cy_M_cut : sg_CY m_M_cut 2 := ⟨by decide +kernel, rfl, sg_inGT (List.mem_of_getElem? (i := 20) (by decide +kernel)) rfl, cw_M_cut, ⟨by decide +kernel, by decide +kernel, by decide +kernel⟩, by decide⟩
theorem cs_M_cut : sg_CS m_M_cut 2 := ⟨cy_M_cut, sg_inGT (List.mem_of_getElem? (i := 1111) (by decide +kernel)) rfl⟩
def m_M_decades : SgY := (11, yX11_decades, cX11_decades, 4, some .int)
set_option maxRecDepth 100000 in
theorem cw_M_decades : Cond.code m_M_decades.2.1 m_M_decades.2.2.1 m_M_decades.2.2.2.1 m_M_decades.2.2.2.2 ∈ sg_GT := sg_inGT (List.mem_of_getElem? (i := 1414) rfl) rfl
theorem cy_M_decades : sg_CY m_M_decades 3 := ⟨by decide +kernel, rfl, sg_inGT (List.mem_of_getElem? (i := 20) (by decide +kernel)) rfl, cw_M_decades, ⟨by decide +kernel, by decide +kernel, by decide +kernel⟩, by decide⟩
theorem cv_M_decades : sg_CV m_M_decades 3 := ⟨cy_M_decades, sg_inGT (List.mem_of_getElem? (i := 1412) (by decide +kernel)) rfl, sg_inGT (List.mem_of_getElem? (i := 1413) (by decide +kernel)) rfl⟩
def m_M_decadesOf : SgY := (11, yX11_decadesOf, cX11_decadesOf, 8, some .int)
set_option maxRecDepth 100000 in
theorem cw_M_decadesOf : Cond.code m_M_decadesOf.2.1 m_M_decadesOf.2.2.1 m_M_decadesOf.2.2.2.1 m_M_decadesOf.2.2.2.2 ∈ sg_GT := sg_inGT (List.mem_of_getElem? (i := 1419) rfl) rfl
theorem cy_M_decadesOf : sg_CY m_M_decadesOf 3 := ⟨by decide +kernel, rfl, sg_inGT (List.mem_of_getElem? (i := 20) (by decide +kernel)) rfl, cw_M_decadesOf, ⟨by decide +kernel, by decide +kernel, by decide +kernel⟩, by decide⟩
theorem cv_M_decadesOf : sg_CV m_M_decadesOf 3 := ⟨cy_M_decadesOf, sg_inGT (List.mem_of_getElem? (i := 1418) (by decide +kernel)) rfl, sg_inP (List.mem_of_getElem? (i := 58) (by decide +kernel)) rfl⟩
def m_M_digest : SgY := (11, yX11_digest, cX11_digest, 4, some .long)
set_option maxRecDepth 100000 in
theorem cw_M_digest : Cond.code m_M_digest.2.1 m_M_digest.2.2.1 m_M_digest.2.2.2.1 m_M_digest.2.2.2.2 ∈ sg_GT := sg_inGT (List.mem_of_getElem? (i := 1439) rfl) rfl
theorem cy_M_digest : sg_CY m_M_digest 0 := ⟨by decide +kernel, rfl, sg_inGT (List.mem_of_getElem? (i := 20) (by decide +kernel)) rfl, cw_M_digest, ⟨by decide +kernel, by decide +kernel, by decide +kernel⟩, by decide⟩
theorem cv_M_digest : sg_CV m_M_digest 0 := ⟨cy_M_digest, sg_inGT (List.mem_of_getElem? (i := 1437) (by decide +kernel)) rfl, sg_inGT (List.mem_of_getElem? (i := 1438) (by decide +kernel)) rfl⟩
def m_M_dust : SgY := (11, yX11_dust, cX11_dust, 3, some .int)
set_option maxRecDepth 100000 in
theorem cw_M_dust : Cond.code m_M_dust.2.1 m_M_dust.2.2.1 m_M_dust.2.2.2.1 m_M_dust.2.2.2.2 ∈ sg_GT := sg_inGT (List.mem_of_getElem? (i := 1320) rfl) rfl
theorem cy_M_dust : sg_CY m_M_dust 2 := ⟨by decide +kernel, rfl, sg_inGT (List.mem_of_getElem? (i := 20) (by decide +kernel)) rfl, cw_M_dust, ⟨by decide +kernel, by decide +kernel, by decide +kernel⟩, by decide⟩
theorem cv_M_dust : sg_CV m_M_dust 2 := ⟨cy_M_dust, sg_inGT (List.mem_of_getElem? (i := 1318) (by decide +kernel)) rfl, sg_inGT (List.mem_of_getElem? (i := 1319) (by decide +kernel)) rfl⟩
def m_M_dustOf : SgY := (11, yX11_dustOf, cX11_dustOf, 7, some .int)
set_option maxRecDepth 100000 in
theorem cw_M_dustOf : Cond.code m_M_dustOf.2.1 m_M_dustOf.2.2.1 m_M_dustOf.2.2.2.1 m_M_dustOf.2.2.2.2 ∈ sg_GT := sg_inGT (List.mem_of_getElem? (i := 1324) rfl) rfl
theorem cy_M_dustOf : sg_CY m_M_dustOf 2 := ⟨by decide +kernel, rfl, sg_inGT (List.mem_of_getElem? (i := 20) (by decide +kernel)) rfl, cw_M_dustOf, ⟨by decide +kernel, by decide +kernel, by decide +kernel⟩, by decide⟩
theorem cv_M_dustOf : sg_CV m_M_dustOf 2 := ⟨cy_M_dustOf, sg_inGT (List.mem_of_getElem? (i := 1323) (by decide +kernel)) rfl, sg_inP (List.mem_of_getElem? (i := 46) (by decide +kernel)) rfl⟩
def m_M_event : SgY := (11, yX11_event, cX11_event, 4, some .int)
set_option maxRecDepth 100000 in
theorem cw_M_event : Cond.code m_M_event.2.1 m_M_event.2.2.1 m_M_event.2.2.2.1 m_M_event.2.2.2.2 ∈ sg_GT := sg_inGT (List.mem_of_getElem? (i := 1182) rfl) rfl
theorem cy_M_event : sg_CY m_M_event 3 := ⟨by decide +kernel, rfl, sg_inGT (List.mem_of_getElem? (i := 20) (by decide +kernel)) rfl, cw_M_event, ⟨by decide +kernel, by decide +kernel, by decide +kernel⟩, by decide⟩
theorem cv_M_event : sg_CV m_M_event 3 := ⟨cy_M_event, sg_inGT (List.mem_of_getElem? (i := 1180) (by decide +kernel)) rfl, sg_inGT (List.mem_of_getElem? (i := 1181) (by decide +kernel)) rfl⟩
def m_M_fault : SgY := (11, yX11_fault, cX11_fault, 2, some .int)
set_option maxRecDepth 100000 in
theorem cw_M_fault : Cond.code m_M_fault.2.1 m_M_fault.2.2.1 m_M_fault.2.2.2.1 m_M_fault.2.2.2.2 ∈ sg_GT := sg_inGT (List.mem_of_getElem? (i := 1141) rfl) rfl
theorem cy_M_fault : sg_CY m_M_fault 1 := ⟨by decide +kernel, rfl, sg_inGT (List.mem_of_getElem? (i := 20) (by decide +kernel)) rfl, cw_M_fault, ⟨by decide +kernel, by decide +kernel, by decide +kernel⟩, by decide⟩
theorem cv_M_fault : sg_CV m_M_fault 1 := ⟨cy_M_fault, sg_inGT (List.mem_of_getElem? (i := 1139) (by decide +kernel)) rfl, sg_inGT (List.mem_of_getElem? (i := 1140) (by decide +kernel)) rfl⟩
def m_M_figureOf : SgY := (11, yX11_figureOf, cX11_figureOf, 3, some .int)
set_option maxRecDepth 100000 in
theorem cw_M_figureOf : Cond.code m_M_figureOf.2.1 m_M_figureOf.2.2.1 m_M_figureOf.2.2.2.1 m_M_figureOf.2.2.2.2 ∈ sg_GT := sg_inGT (List.mem_of_getElem? (i := 1155) rfl) rfl
theorem cy_M_figureOf : sg_CY m_M_figureOf 3 := ⟨by decide +kernel, rfl, sg_inGT (List.mem_of_getElem? (i := 20) (by decide +kernel)) rfl, cw_M_figureOf, ⟨by decide +kernel, by decide +kernel, by decide +kernel⟩, by decide⟩
theorem cs_M_figureOf : sg_CS m_M_figureOf 3 := ⟨cy_M_figureOf, sg_inGT (List.mem_of_getElem? (i := 1154) (by decide +kernel)) rfl⟩
def m_M_find : SgY := (11, yX11_find, cX11_find, 1, none)
set_option maxRecDepth 100000 in
theorem cw_M_find : Cond.code m_M_find.2.1 m_M_find.2.2.1 m_M_find.2.2.2.1 m_M_find.2.2.2.2 ∈ sg_GT := sg_inGT (List.mem_of_getElem? (i := 1208) rfl) rfl
theorem cy_M_find : sg_CY m_M_find 0 := ⟨by decide +kernel, rfl, sg_inGT (List.mem_of_getElem? (i := 20) (by decide +kernel)) rfl, cw_M_find, ⟨by decide +kernel, by decide +kernel, by decide +kernel⟩, by decide⟩
theorem cv_M_find : sg_CV m_M_find 0 := ⟨cy_M_find, sg_inGT (List.mem_of_getElem? (i := 1207) (by decide +kernel)) rfl, sg_inP (List.mem_of_getElem? (i := 29) (by decide +kernel)) rfl⟩
def m_M_finds : SgY := (11, yX11_finds, cX11_finds, 2, some .int)
set_option maxRecDepth 100000 in
theorem cw_M_finds : Cond.code m_M_finds.2.1 m_M_finds.2.2.1 m_M_finds.2.2.2.1 m_M_finds.2.2.2.2 ∈ sg_GT := sg_inGT (List.mem_of_getElem? (i := 1097) rfl) rfl
theorem cy_M_finds : sg_CY m_M_finds 1 := ⟨by decide +kernel, rfl, sg_inGT (List.mem_of_getElem? (i := 20) (by decide +kernel)) rfl, cw_M_finds, ⟨by decide +kernel, by decide +kernel, by decide +kernel⟩, by decide⟩
theorem cv_M_finds : sg_CV m_M_finds 1 := ⟨cy_M_finds, sg_inGT (List.mem_of_getElem? (i := 1096) (by decide +kernel)) rfl, sg_inP (List.mem_of_getElem? (i := 21) (by decide +kernel)) rfl⟩
def m_M_forget : SgY := (11, yX11_forget, cX11_forget, 2, some .int)
set_option maxRecDepth 100000 in
theorem cw_M_forget : Cond.code m_M_forget.2.1 m_M_forget.2.2.1 m_M_forget.2.2.2.1 m_M_forget.2.2.2.2 ∈ sg_GT := sg_inGT (List.mem_of_getElem? (i := 1354) rfl) rfl
theorem cy_M_forget : sg_CY m_M_forget 0 := ⟨by decide +kernel, rfl, sg_inGT (List.mem_of_getElem? (i := 20) (by decide +kernel)) rfl, cw_M_forget, ⟨by decide +kernel, by decide +kernel, by decide +kernel⟩, by decide⟩
theorem cv_M_forget : sg_CV m_M_forget 0 := ⟨cy_M_forget, sg_inGT (List.mem_of_getElem? (i := 1352) (by decide +kernel)) rfl, sg_inGT (List.mem_of_getElem? (i := 1353) (by decide +kernel)) rfl⟩
def m_M_forgotten : SgY := (11, yX11_forgotten, cX11_forgotten, 1, some .int)
set_option maxRecDepth 100000 in
theorem cw_M_forgotten : Cond.code m_M_forgotten.2.1 m_M_forgotten.2.2.1 m_M_forgotten.2.2.2.1 m_M_forgotten.2.2.2.2 ∈ sg_GT := sg_inGT (List.mem_of_getElem? (i := 1266) rfl) rfl
theorem cy_M_forgotten : sg_CY m_M_forgotten 0 := ⟨by decide +kernel, rfl, sg_inGT (List.mem_of_getElem? (i := 20) (by decide +kernel)) rfl, cw_M_forgotten, ⟨by decide +kernel, by decide +kernel, by decide +kernel⟩, by decide⟩
theorem cv_M_forgotten : sg_CV m_M_forgotten 0 := ⟨cy_M_forgotten, sg_inGT (List.mem_of_getElem? (i := 1264) (by decide +kernel)) rfl, sg_inGT (List.mem_of_getElem? (i := 1265) (by decide +kernel)) rfl⟩
def m_M_forgottenNow : SgY := (11, yX11_forgottenNow, cX11_forgottenNow, 4, some .int)
set_option maxRecDepth 100000 in
theorem cw_M_forgottenNow : Cond.code m_M_forgottenNow.2.1 m_M_forgottenNow.2.2.1 m_M_forgottenNow.2.2.2.1 m_M_forgottenNow.2.2.2.2 ∈ sg_GT := sg_inGT (List.mem_of_getElem? (i := 1270) rfl) rfl
theorem cy_M_forgottenNow : sg_CY m_M_forgottenNow 0 := ⟨by decide +kernel, rfl, sg_inGT (List.mem_of_getElem? (i := 20) (by decide +kernel)) rfl, cw_M_forgottenNow, ⟨by decide +kernel, by decide +kernel, by decide +kernel⟩, by decide⟩
theorem cv_M_forgottenNow : sg_CV m_M_forgottenNow 0 := ⟨cy_M_forgottenNow, sg_inGT (List.mem_of_getElem? (i := 1269) (by decide +kernel)) rfl, sg_inP (List.mem_of_getElem? (i := 40) (by decide +kernel)) rfl⟩
def m_M_get : SgY := (11, yX11_get, cX11_get, 4, some .int)
set_option maxRecDepth 100000 in
theorem cw_M_get : Cond.code m_M_get.2.1 m_M_get.2.2.1 m_M_get.2.2.2.1 m_M_get.2.2.2.2 ∈ sg_GT := sg_inGT (List.mem_of_getElem? (i := 1116) rfl) rfl
theorem cy_M_get : sg_CY m_M_get 3 := ⟨by decide +kernel, rfl, sg_inGT (List.mem_of_getElem? (i := 20) (by decide +kernel)) rfl, cw_M_get, ⟨by decide +kernel, by decide +kernel, by decide +kernel⟩, by decide⟩
theorem cv_M_get : sg_CV m_M_get 3 := ⟨cy_M_get, sg_inGT (List.mem_of_getElem? (i := 1114) (by decide +kernel)) rfl, sg_inGT (List.mem_of_getElem? (i := 1115) (by decide +kernel)) rfl⟩
def m_M_goes : SgY := (11, yX11_goes, cX11_goes, 2, none)
set_option maxRecDepth 100000 in
theorem cw_M_goes : Cond.code m_M_goes.2.1 m_M_goes.2.2.1 m_M_goes.2.2.2.1 m_M_goes.2.2.2.2 ∈ sg_GT := sg_inGT (List.mem_of_getElem? (i := 1220) rfl) rfl
theorem cy_M_goes : sg_CY m_M_goes 1 := ⟨by decide +kernel, rfl, sg_inGT (List.mem_of_getElem? (i := 20) (by decide +kernel)) rfl, cw_M_goes, ⟨by decide +kernel, by decide +kernel, by decide +kernel⟩, by decide⟩
theorem cv_M_goes : sg_CV m_M_goes 1 := ⟨cy_M_goes, sg_inGT (List.mem_of_getElem? (i := 1219) (by decide +kernel)) rfl, sg_inP (List.mem_of_getElem? (i := 32) (by decide +kernel)) rfl⟩
def m_M_greater : SgY := (11, yX11_greater, cX11_greater, 2, some .int)
set_option maxRecDepth 100000 in
theorem cw_M_greater : Cond.code m_M_greater.2.1 m_M_greater.2.2.1 m_M_greater.2.2.2.1 m_M_greater.2.2.2.2 ∈ sg_GT := sg_inGT (List.mem_of_getElem? (i := 1281) rfl) rfl
theorem cy_M_greater : sg_CY m_M_greater 2 := ⟨by decide +kernel, rfl, sg_inGT (List.mem_of_getElem? (i := 20) (by decide +kernel)) rfl, cw_M_greater, ⟨by decide +kernel, by decide +kernel, by decide +kernel⟩, by decide⟩
theorem cs_M_greater : sg_CS m_M_greater 2 := ⟨cy_M_greater, sg_inGT (List.mem_of_getElem? (i := 1280) (by decide +kernel)) rfl⟩
def m_M_heardBy : SgY := (11, yX11_heardBy, cX11_heardBy, 5, some .int)
set_option maxRecDepth 100000 in
theorem cw_M_heardBy : Cond.code m_M_heardBy.2.1 m_M_heardBy.2.2.1 m_M_heardBy.2.2.2.1 m_M_heardBy.2.2.2.2 ∈ sg_GT := sg_inGT (List.mem_of_getElem? (i := 1235) rfl) rfl
theorem cy_M_heardBy : sg_CY m_M_heardBy 1 := ⟨by decide +kernel, rfl, sg_inGT (List.mem_of_getElem? (i := 20) (by decide +kernel)) rfl, cw_M_heardBy, ⟨by decide +kernel, by decide +kernel, by decide +kernel⟩, by decide⟩
theorem cv_M_heardBy : sg_CV m_M_heardBy 1 := ⟨cy_M_heardBy, sg_inGT (List.mem_of_getElem? (i := 1234) (by decide +kernel)) rfl, sg_inP (List.mem_of_getElem? (i := 35) (by decide +kernel)) rfl⟩
def m_M_hush : SgY := (11, yX11_hush, cX11_hush, 3, some .int)
set_option maxRecDepth 100000 in
theorem cw_M_hush : Cond.code m_M_hush.2.1 m_M_hush.2.2.1 m_M_hush.2.2.2.1 m_M_hush.2.2.2.2 ∈ sg_GT := sg_inGT (List.mem_of_getElem? (i := 1328) rfl) rfl
theorem cy_M_hush : sg_CY m_M_hush 2 := ⟨by decide +kernel, rfl, sg_inGT (List.mem_of_getElem? (i := 20) (by decide +kernel)) rfl, cw_M_hush, ⟨by decide +kernel, by decide +kernel, by decide +kernel⟩, by decide⟩
theorem cv_M_hush : sg_CV m_M_hush 2 := ⟨cy_M_hush, sg_inGT (List.mem_of_getElem? (i := 1326) (by decide +kernel)) rfl, sg_inGT (List.mem_of_getElem? (i := 1327) (by decide +kernel)) rfl⟩
def m_M_hushOf : SgY := (11, yX11_hushOf, cX11_hushOf, 7, some .int)
set_option maxRecDepth 100000 in
theorem cw_M_hushOf : Cond.code m_M_hushOf.2.1 m_M_hushOf.2.2.1 m_M_hushOf.2.2.2.1 m_M_hushOf.2.2.2.2 ∈ sg_GT := sg_inGT (List.mem_of_getElem? (i := 1332) rfl) rfl
theorem cy_M_hushOf : sg_CY m_M_hushOf 2 := ⟨by decide +kernel, rfl, sg_inGT (List.mem_of_getElem? (i := 20) (by decide +kernel)) rfl, cw_M_hushOf, ⟨by decide +kernel, by decide +kernel, by decide +kernel⟩, by decide⟩
theorem cv_M_hushOf : sg_CV m_M_hushOf 2 := ⟨cy_M_hushOf, sg_inGT (List.mem_of_getElem? (i := 1331) (by decide +kernel)) rfl, sg_inP (List.mem_of_getElem? (i := 47) (by decide +kernel)) rfl⟩
def m_M_in : SgY := (11, yX11_in, cX11_in, 6, some .boolean)
set_option maxRecDepth 100000 in
theorem cw_M_in : Cond.code m_M_in.2.1 m_M_in.2.2.1 m_M_in.2.2.2.1 m_M_in.2.2.2.2 ∈ sg_GT := sg_inGT (List.mem_of_getElem? (i := 1092) rfl) rfl
theorem cy_M_in : sg_CY m_M_in 3 := ⟨by decide +kernel, rfl, sg_inGT (List.mem_of_getElem? (i := 20) (by decide +kernel)) rfl, cw_M_in, ⟨by decide +kernel, by decide +kernel, by decide +kernel⟩, by decide⟩
theorem cs_M_in : sg_CS m_M_in 3 := ⟨cy_M_in, sg_inGT (List.mem_of_getElem? (i := 1091) (by decide +kernel)) rfl⟩
def m_M_isCaught : SgY := (11, yX11_isCaught, cX11_isCaught, 4, some .boolean)
set_option maxRecDepth 100000 in
theorem cw_M_isCaught : Cond.code m_M_isCaught.2.1 m_M_isCaught.2.2.1 m_M_isCaught.2.2.2.1 m_M_isCaught.2.2.2.2 ∈ sg_GT := sg_inGT (List.mem_of_getElem? (i := 1242) rfl) rfl
theorem cy_M_isCaught : sg_CY m_M_isCaught 1 := ⟨by decide +kernel, rfl, sg_inGT (List.mem_of_getElem? (i := 20) (by decide +kernel)) rfl, cw_M_isCaught, ⟨by decide +kernel, by decide +kernel, by decide +kernel⟩, by decide⟩
theorem cv_M_isCaught : sg_CV m_M_isCaught 1 := ⟨cy_M_isCaught, sg_inGT (List.mem_of_getElem? (i := 1241) (by decide +kernel)) rfl, sg_inP (List.mem_of_getElem? (i := 36) (by decide +kernel)) rfl⟩
def m_M_isHour : SgY := (11, yX11_isHour, cX11_isHour, 1, some .boolean)
set_option maxRecDepth 100000 in
theorem cw_M_isHour : Cond.code m_M_isHour.2.1 m_M_isHour.2.2.1 m_M_isHour.2.2.2.1 m_M_isHour.2.2.2.2 ∈ sg_GT := sg_inGT (List.mem_of_getElem? (i := 1185) rfl) rfl
theorem cy_M_isHour : sg_CY m_M_isHour 1 := ⟨by decide +kernel, rfl, sg_inGT (List.mem_of_getElem? (i := 20) (by decide +kernel)) rfl, cw_M_isHour, ⟨by decide +kernel, by decide +kernel, by decide +kernel⟩, by decide⟩
theorem cs_M_isHour : sg_CS m_M_isHour 1 := ⟨cy_M_isHour, sg_inGT (List.mem_of_getElem? (i := 1184) (by decide +kernel)) rfl⟩
def m_M_isIn : SgY := (11, yX11_isIn, cX11_isIn, 2, some .boolean)
set_option maxRecDepth 100000 in
theorem cw_M_isIn : Cond.code m_M_isIn.2.1 m_M_isIn.2.2.1 m_M_isIn.2.2.2.1 m_M_isIn.2.2.2.2 ∈ sg_GT := sg_inGT (List.mem_of_getElem? (i := 1231) rfl) rfl
theorem cy_M_isIn : sg_CY m_M_isIn 2 := ⟨by decide +kernel, rfl, sg_inGT (List.mem_of_getElem? (i := 20) (by decide +kernel)) rfl, cw_M_isIn, ⟨by decide +kernel, by decide +kernel, by decide +kernel⟩, by decide⟩
theorem cs_M_isIn : sg_CS m_M_isIn 2 := ⟨cy_M_isIn, sg_inGT (List.mem_of_getElem? (i := 1230) (by decide +kernel)) rfl⟩
def m_M_isPerson : SgY := (11, yX11_isPerson, cX11_isPerson, 2, some .boolean)
set_option maxRecDepth 100000 in
theorem cw_M_isPerson : Cond.code m_M_isPerson.2.1 m_M_isPerson.2.2.1 m_M_isPerson.2.2.2.1 m_M_isPerson.2.2.2.2 ∈ sg_GT := sg_inGT (List.mem_of_getElem? (i := 1178) rfl) rfl
theorem cy_M_isPerson : sg_CY m_M_isPerson 1 := ⟨by decide +kernel, rfl, sg_inGT (List.mem_of_getElem? (i := 20) (by decide +kernel)) rfl, cw_M_isPerson, ⟨by decide +kernel, by decide +kernel, by decide +kernel⟩, by decide⟩
theorem cv_M_isPerson : sg_CV m_M_isPerson 1 := ⟨cy_M_isPerson, sg_inGT (List.mem_of_getElem? (i := 1177) (by decide +kernel)) rfl, sg_inP (List.mem_of_getElem? (i := 27) (by decide +kernel)) rfl⟩
def m_M_isPost : SgY := (11, yX11_isPost, cX11_isPost, 2, some .boolean)
set_option maxRecDepth 100000 in
theorem cw_M_isPost : Cond.code m_M_isPost.2.1 m_M_isPost.2.2.1 m_M_isPost.2.2.2.1 m_M_isPost.2.2.2.2 ∈ sg_GT := sg_inGT (List.mem_of_getElem? (i := 1170) rfl) rfl
theorem cy_M_isPost : sg_CY m_M_isPost 1 := ⟨by decide +kernel, rfl, sg_inGT (List.mem_of_getElem? (i := 20) (by decide +kernel)) rfl, cw_M_isPost, ⟨by decide +kernel, by decide +kernel, by decide +kernel⟩, by decide⟩
theorem cv_M_isPost : sg_CV m_M_isPost 1 := ⟨cy_M_isPost, sg_inGT (List.mem_of_getElem? (i := 1169) (by decide +kernel)) rfl, sg_inP (List.mem_of_getElem? (i := 26) (by decide +kernel)) rfl⟩
def m_M_isSeen : SgY := (11, yX11_isSeen, cX11_isSeen, 4, some .boolean)
set_option maxRecDepth 100000 in
theorem cw_M_isSeen : Cond.code m_M_isSeen.2.1 m_M_isSeen.2.2.1 m_M_isSeen.2.2.2.1 m_M_isSeen.2.2.2.2 ∈ sg_GT := sg_inGT (List.mem_of_getElem? (i := 1366) rfl) rfl
theorem cy_M_isSeen : sg_CY m_M_isSeen 0 := ⟨by decide +kernel, rfl, sg_inGT (List.mem_of_getElem? (i := 20) (by decide +kernel)) rfl, cw_M_isSeen, ⟨by decide +kernel, by decide +kernel, by decide +kernel⟩, by decide⟩
theorem cv_M_isSeen : sg_CV m_M_isSeen 0 := ⟨cy_M_isSeen, sg_inGT (List.mem_of_getElem? (i := 1365) (by decide +kernel)) rfl, sg_inP (List.mem_of_getElem? (i := 51) (by decide +kernel)) rfl⟩
def m_M_isSheet : SgY := (11, yX11_isSheet, cX11_isSheet, 1, some .boolean)
set_option maxRecDepth 100000 in
theorem cw_M_isSheet : Cond.code m_M_isSheet.2.1 m_M_isSheet.2.2.1 m_M_isSheet.2.2.2.1 m_M_isSheet.2.2.2.2 ∈ sg_GT := sg_inGT (List.mem_of_getElem? (i := 1088) rfl) rfl
theorem cy_M_isSheet : sg_CY m_M_isSheet 1 := ⟨by decide +kernel, rfl, sg_inGT (List.mem_of_getElem? (i := 20) (by decide +kernel)) rfl, cw_M_isSheet, ⟨by decide +kernel, by decide +kernel, by decide +kernel⟩, by decide⟩
theorem cs_M_isSheet : sg_CS m_M_isSheet 1 := ⟨cy_M_isSheet, sg_inGT (List.mem_of_getElem? (i := 1087) (by decide +kernel)) rfl⟩
def m_M_isSneezing : SgY := (11, yX11_isSneezing, cX11_isSneezing, 4, some .boolean)
set_option maxRecDepth 100000 in
theorem cw_M_isSneezing : Cond.code m_M_isSneezing.2.1 m_M_isSneezing.2.2.1 m_M_isSneezing.2.2.2.1 m_M_isSneezing.2.2.2.2 ∈ sg_GT := sg_inGT (List.mem_of_getElem? (i := 1224) rfl) rfl
theorem cy_M_isSneezing : sg_CY m_M_isSneezing 2 := ⟨by decide +kernel, rfl, sg_inGT (List.mem_of_getElem? (i := 20) (by decide +kernel)) rfl, cw_M_isSneezing, ⟨by decide +kernel, by decide +kernel, by decide +kernel⟩, by decide⟩
theorem cv_M_isSneezing : sg_CV m_M_isSneezing 2 := ⟨cy_M_isSneezing, sg_inGT (List.mem_of_getElem? (i := 1223) (by decide +kernel)) rfl, sg_inP (List.mem_of_getElem? (i := 33) (by decide +kernel)) rfl⟩
def m_M_isSpared : SgY := (11, yX11_isSpared, cX11_isSpared, 2, some .boolean)
set_option maxRecDepth 100000 in
theorem cw_M_isSpared : Cond.code m_M_isSpared.2.1 m_M_isSpared.2.2.1 m_M_isSpared.2.2.2.1 m_M_isSpared.2.2.2.2 ∈ sg_GT := sg_inGT (List.mem_of_getElem? (i := 1345) rfl) rfl
theorem cy_M_isSpared : sg_CY m_M_isSpared 1 := ⟨by decide +kernel, rfl, sg_inGT (List.mem_of_getElem? (i := 20) (by decide +kernel)) rfl, cw_M_isSpared, ⟨by decide +kernel, by decide +kernel, by decide +kernel⟩, by decide⟩
theorem cv_M_isSpared : sg_CV m_M_isSpared 1 := ⟨cy_M_isSpared, sg_inGT (List.mem_of_getElem? (i := 1344) (by decide +kernel)) rfl, sg_inP (List.mem_of_getElem? (i := 49) (by decide +kernel)) rfl⟩
def m_M_isTold : SgY := (11, yX11_isTold, cX11_isTold, 7, some .boolean)
set_option maxRecDepth 100000 in
theorem cw_M_isTold : Cond.code m_M_isTold.2.1 m_M_isTold.2.2.1 m_M_isTold.2.2.2.1 m_M_isTold.2.2.2.2 ∈ sg_GT := sg_inGT (List.mem_of_getElem? (i := 1228) rfl) rfl
theorem cy_M_isTold : sg_CY m_M_isTold 3 := ⟨by decide +kernel, rfl, sg_inGT (List.mem_of_getElem? (i := 20) (by decide +kernel)) rfl, cw_M_isTold, ⟨by decide +kernel, by decide +kernel, by decide +kernel⟩, by decide⟩
theorem cv_M_isTold : sg_CV m_M_isTold 3 := ⟨cy_M_isTold, sg_inGT (List.mem_of_getElem? (i := 1227) (by decide +kernel)) rfl, sg_inP (List.mem_of_getElem? (i := 34) (by decide +kernel)) rfl⟩
def m_M_isTwo : SgY := (11, yX11_isTwo, cX11_isTwo, 1, some .boolean)
set_option maxRecDepth 100000 in
theorem cw_M_isTwo : Cond.code m_M_isTwo.2.1 m_M_isTwo.2.2.1 m_M_isTwo.2.2.2.1 m_M_isTwo.2.2.2.2 ∈ sg_GT := sg_inGT (List.mem_of_getElem? (i := 1128) rfl) rfl
theorem cy_M_isTwo : sg_CY m_M_isTwo 1 := ⟨by decide +kernel, rfl, sg_inGT (List.mem_of_getElem? (i := 20) (by decide +kernel)) rfl, cw_M_isTwo, ⟨by decide +kernel, by decide +kernel, by decide +kernel⟩, by decide⟩
theorem cs_M_isTwo : sg_CS m_M_isTwo 1 := ⟨cy_M_isTwo, sg_inGT (List.mem_of_getElem? (i := 1127) (by decide +kernel)) rfl⟩
def m_M_keeps : SgY := (11, yX11_keeps, cX11_keeps, 4, none)
set_option maxRecDepth 100000 in
theorem cw_M_keeps : Cond.code m_M_keeps.2.1 m_M_keeps.2.2.1 m_M_keeps.2.2.2.1 m_M_keeps.2.2.2.2 ∈ sg_GT := sg_inGT (List.mem_of_getElem? (i := 1191) rfl) rfl
theorem cy_M_keeps : sg_CY m_M_keeps 3 := ⟨by decide +kernel, rfl, sg_inGT (List.mem_of_getElem? (i := 20) (by decide +kernel)) rfl, cw_M_keeps, ⟨by decide +kernel, by decide +kernel, by decide +kernel⟩, by decide⟩
theorem cv_M_keeps : sg_CV m_M_keeps 3 := ⟨cy_M_keeps, sg_inGT (List.mem_of_getElem? (i := 1190) (by decide +kernel)) rfl, sg_inP (List.mem_of_getElem? (i := 28) (by decide +kernel)) rfl⟩
def m_M_lacks : SgY := (11, yX11_lacks, cX11_lacks, 4, some .int)
set_option maxRecDepth 100000 in
theorem cw_M_lacks : Cond.code m_M_lacks.2.1 m_M_lacks.2.2.1 m_M_lacks.2.2.2.1 m_M_lacks.2.2.2.2 ∈ sg_GT := sg_inGT (List.mem_of_getElem? (i := 1109) rfl) rfl
theorem cy_M_lacks : sg_CY m_M_lacks 3 := ⟨by decide +kernel, rfl, sg_inGT (List.mem_of_getElem? (i := 20) (by decide +kernel)) rfl, cw_M_lacks, ⟨by decide +kernel, by decide +kernel, by decide +kernel⟩, by decide⟩
theorem cv_M_lacks : sg_CV m_M_lacks 3 := ⟨cy_M_lacks, sg_inGT (List.mem_of_getElem? (i := 1108) (by decide +kernel)) rfl, sg_inP (List.mem_of_getElem? (i := 22) (by decide +kernel)) rfl⟩
def m_M_lay : SgY := (11, yX11_lay, cX11_lay, 6, some .int)
set_option maxRecDepth 100000 in
theorem cw_M_lay : Cond.code m_M_lay.2.1 m_M_lay.2.2.1 m_M_lay.2.2.2.1 m_M_lay.2.2.2.2 ∈ sg_GT := sg_inGT (List.mem_of_getElem? (i := 1105) rfl) rfl
theorem cy_M_lay : sg_CY m_M_lay 4 := ⟨by decide +kernel, rfl, sg_inGT (List.mem_of_getElem? (i := 20) (by decide +kernel)) rfl, cw_M_lay, ⟨by decide +kernel, by decide +kernel, by decide +kernel⟩, by decide⟩
theorem cv_M_lay : sg_CV m_M_lay 4 := ⟨cy_M_lay, sg_inGT (List.mem_of_getElem? (i := 1103) (by decide +kernel)) rfl, sg_inGT (List.mem_of_getElem? (i := 1104) (by decide +kernel)) rfl⟩
def m_M_lesser : SgY := (11, yX11_lesser, cX11_lesser, 2, some .int)
set_option maxRecDepth 100000 in
theorem cw_M_lesser : Cond.code m_M_lesser.2.1 m_M_lesser.2.2.1 m_M_lesser.2.2.2.1 m_M_lesser.2.2.2.2 ∈ sg_GT := sg_inGT (List.mem_of_getElem? (i := 1316) rfl) rfl
theorem cy_M_lesser : sg_CY m_M_lesser 2 := ⟨by decide +kernel, rfl, sg_inGT (List.mem_of_getElem? (i := 20) (by decide +kernel)) rfl, cw_M_lesser, ⟨by decide +kernel, by decide +kernel, by decide +kernel⟩, by decide⟩
theorem cs_M_lesser : sg_CS m_M_lesser 2 := ⟨cy_M_lesser, sg_inGT (List.mem_of_getElem? (i := 1315) (by decide +kernel)) rfl⟩
def m_M_lives : SgY := (11, yX11_lives, cX11_lives, 2, none)
set_option maxRecDepth 100000 in
theorem cw_M_lives : Cond.code m_M_lives.2.1 m_M_lives.2.2.1 m_M_lives.2.2.2.1 m_M_lives.2.2.2.2 ∈ sg_GT := sg_inGT (List.mem_of_getElem? (i := 1212) rfl) rfl
theorem cy_M_lives : sg_CY m_M_lives 0 := ⟨by decide +kernel, rfl, sg_inGT (List.mem_of_getElem? (i := 20) (by decide +kernel)) rfl, cw_M_lives, ⟨by decide +kernel, by decide +kernel, by decide +kernel⟩, by decide⟩
theorem cv_M_lives : sg_CV m_M_lives 0 := ⟨cy_M_lives, sg_inGT (List.mem_of_getElem? (i := 1211) (by decide +kernel)) rfl, sg_inP (List.mem_of_getElem? (i := 30) (by decide +kernel)) rfl⟩
def m_M_longest : SgY := (11, yX11_longest, cX11_longest, 2, some .int)
set_option maxRecDepth 100000 in
theorem cw_M_longest : Cond.code m_M_longest.2.1 m_M_longest.2.2.1 m_M_longest.2.2.2.1 m_M_longest.2.2.2.2 ∈ sg_GT := sg_inGT (List.mem_of_getElem? (i := 1274) rfl) rfl
theorem cy_M_longest : sg_CY m_M_longest 1 := ⟨by decide +kernel, rfl, sg_inGT (List.mem_of_getElem? (i := 20) (by decide +kernel)) rfl, cw_M_longest, ⟨by decide +kernel, by decide +kernel, by decide +kernel⟩, by decide⟩
theorem cv_M_longest : sg_CV m_M_longest 1 := ⟨cy_M_longest, sg_inGT (List.mem_of_getElem? (i := 1272) (by decide +kernel)) rfl, sg_inGT (List.mem_of_getElem? (i := 1273) (by decide +kernel)) rfl⟩
def m_M_longestBy : SgY := (11, yX11_longestBy, cX11_longestBy, 7, some .int)
set_option maxRecDepth 100000 in
theorem cw_M_longestBy : Cond.code m_M_longestBy.2.1 m_M_longestBy.2.2.1 m_M_longestBy.2.2.2.1 m_M_longestBy.2.2.2.2 ∈ sg_GT := sg_inGT (List.mem_of_getElem? (i := 1278) rfl) rfl
theorem cy_M_longestBy : sg_CY m_M_longestBy 1 := ⟨by decide +kernel, rfl, sg_inGT (List.mem_of_getElem? (i := 20) (by decide +kernel)) rfl, cw_M_longestBy, ⟨by decide +kernel, by decide +kernel, by decide +kernel⟩, by decide⟩
theorem cv_M_longestBy : sg_CV m_M_longestBy 1 := ⟨cy_M_longestBy, sg_inGT (List.mem_of_getElem? (i := 1277) (by decide +kernel)) rfl, sg_inP (List.mem_of_getElem? (i := 41) (by decide +kernel)) rfl⟩
def m_M_lose : SgY := (11, yX11_lose, cX11_lose, 2, some .int)
set_option maxRecDepth 100000 in
theorem cw_M_lose : Cond.code m_M_lose.2.1 m_M_lose.2.2.1 m_M_lose.2.2.2.1 m_M_lose.2.2.2.2 ∈ sg_GT := sg_inGT (List.mem_of_getElem? (i := 1101) rfl) rfl
theorem cy_M_lose : sg_CY m_M_lose 1 := ⟨by decide +kernel, rfl, sg_inGT (List.mem_of_getElem? (i := 20) (by decide +kernel)) rfl, cw_M_lose, ⟨by decide +kernel, by decide +kernel, by decide +kernel⟩, by decide⟩
theorem cv_M_lose : sg_CV m_M_lose 1 := ⟨cy_M_lose, sg_inGT (List.mem_of_getElem? (i := 1099) (by decide +kernel)) rfl, sg_inGT (List.mem_of_getElem? (i := 1100) (by decide +kernel)) rfl⟩
def m_M_lot : SgY := (11, yX11_lot, cX11_lot, 2, some .int)
set_option maxRecDepth 100000 in
theorem cw_M_lot : Cond.code m_M_lot.2.1 m_M_lot.2.2.1 m_M_lot.2.2.2.1 m_M_lot.2.2.2.2 ∈ sg_GT := sg_inGT (List.mem_of_getElem? (i := 1423) rfl) rfl
theorem cy_M_lot : sg_CY m_M_lot 1 := ⟨by decide +kernel, rfl, sg_inGT (List.mem_of_getElem? (i := 20) (by decide +kernel)) rfl, cw_M_lot, ⟨by decide +kernel, by decide +kernel, by decide +kernel⟩, by decide⟩
theorem cv_M_lot : sg_CV m_M_lot 1 := ⟨cy_M_lot, sg_inGT (List.mem_of_getElem? (i := 1422) (by decide +kernel)) rfl, sg_inP (List.mem_of_getElem? (i := 59) (by decide +kernel)) rfl⟩
def m_M_never : SgY := (11, yX11_never, cX11_never, 1, some .int)
set_option maxRecDepth 100000 in
theorem cw_M_never : Cond.code m_M_never.2.1 m_M_never.2.2.1 m_M_never.2.2.2.1 m_M_never.2.2.2.2 ∈ sg_GT := sg_inGT (List.mem_of_getElem? (i := 1358) rfl) rfl
theorem cy_M_never : sg_CY m_M_never 0 := ⟨by decide +kernel, rfl, sg_inGT (List.mem_of_getElem? (i := 20) (by decide +kernel)) rfl, cw_M_never, ⟨by decide +kernel, by decide +kernel, by decide +kernel⟩, by decide⟩
theorem cv_M_never : sg_CV m_M_never 0 := ⟨cy_M_never, sg_inGT (List.mem_of_getElem? (i := 1356) (by decide +kernel)) rfl, sg_inGT (List.mem_of_getElem? (i := 1357) (by decide +kernel)) rfl⟩
def m_M_neverNow : SgY := (11, yX11_neverNow, cX11_neverNow, 3, some .int)
set_option maxRecDepth 100000 in
theorem cw_M_neverNow : Cond.code m_M_neverNow.2.1 m_M_neverNow.2.2.1 m_M_neverNow.2.2.2.1 m_M_neverNow.2.2.2.2 ∈ sg_GT := sg_inGT (List.mem_of_getElem? (i := 1362) rfl) rfl
theorem cy_M_neverNow : sg_CY m_M_neverNow 0 := ⟨by decide +kernel, rfl, sg_inGT (List.mem_of_getElem? (i := 20) (by decide +kernel)) rfl, cw_M_neverNow, ⟨by decide +kernel, by decide +kernel, by decide +kernel⟩, by decide⟩
theorem cv_M_neverNow : sg_CV m_M_neverNow 0 := ⟨cy_M_neverNow, sg_inGT (List.mem_of_getElem? (i := 1361) (by decide +kernel)) rfl, sg_inP (List.mem_of_getElem? (i := 50) (by decide +kernel)) rfl⟩
def m_M_no : SgY := (11, yX11_no, cX11_no, 1, some .long)
set_option maxRecDepth 100000 in
theorem cw_M_no : Cond.code m_M_no.2.1 m_M_no.2.2.1 m_M_no.2.2.2.1 m_M_no.2.2.2.2 ∈ sg_GT := sg_inGT (List.mem_of_getElem? (i := 1409) rfl) rfl
theorem cy_M_no : sg_CY m_M_no 1 := ⟨by decide +kernel, rfl, sg_inGT (List.mem_of_getElem? (i := 20) (by decide +kernel)) rfl, cw_M_no, ⟨by decide +kernel, by decide +kernel, by decide +kernel⟩, by decide⟩
theorem cs_M_no : sg_CS m_M_no 1 := ⟨cy_M_no, sg_inGT (List.mem_of_getElem? (i := 1408) (by decide +kernel)) rfl⟩
def m_M_ones : SgY := (11, yX11_ones, cX11_ones, 3, some .int)
set_option maxRecDepth 100000 in
theorem cw_M_ones : Cond.code m_M_ones.2.1 m_M_ones.2.2.1 m_M_ones.2.2.2.1 m_M_ones.2.2.2.2 ∈ sg_GT := sg_inGT (List.mem_of_getElem? (i := 1427) rfl) rfl
theorem cy_M_ones : sg_CY m_M_ones 1 := ⟨by decide +kernel, rfl, sg_inGT (List.mem_of_getElem? (i := 20) (by decide +kernel)) rfl, cw_M_ones, ⟨by decide +kernel, by decide +kernel, by decide +kernel⟩, by decide⟩
theorem cs_M_ones : sg_CS m_M_ones 1 := ⟨cy_M_ones, sg_inGT (List.mem_of_getElem? (i := 1426) (by decide +kernel)) rfl⟩
def m_M_part : SgY := (11, yX11_part, cX11_part, 11, some .long)
set_option maxRecDepth 100000 in
theorem cw_M_part : Cond.code m_M_part.2.1 m_M_part.2.2.1 m_M_part.2.2.2.1 m_M_part.2.2.2.2 ∈ sg_GT := sg_inGT (List.mem_of_getElem? (i := 1406) rfl) rfl
theorem cy_M_part : sg_CY m_M_part 3 := ⟨by decide +kernel, rfl, sg_inGT (List.mem_of_getElem? (i := 20) (by decide +kernel)) rfl, cw_M_part, ⟨by decide +kernel, by decide +kernel, by decide +kernel⟩, by decide⟩
theorem cs_M_part : sg_CS m_M_part 3 := ⟨cy_M_part, sg_inGT (List.mem_of_getElem? (i := 1405) (by decide +kernel)) rfl⟩
def m_M_passes : SgY := (11, yX11_passes, cX11_passes, 4, none)
set_option maxRecDepth 100000 in
theorem cw_M_passes : Cond.code m_M_passes.2.1 m_M_passes.2.2.1 m_M_passes.2.2.2.1 m_M_passes.2.2.2.2 ∈ sg_GT := sg_inGT (List.mem_of_getElem? (i := 1216) rfl) rfl
theorem cy_M_passes : sg_CY m_M_passes 1 := ⟨by decide +kernel, rfl, sg_inGT (List.mem_of_getElem? (i := 20) (by decide +kernel)) rfl, cw_M_passes, ⟨by decide +kernel, by decide +kernel, by decide +kernel⟩, by decide⟩
theorem cv_M_passes : sg_CV m_M_passes 1 := ⟨cy_M_passes, sg_inGT (List.mem_of_getElem? (i := 1215) (by decide +kernel)) rfl, sg_inP (List.mem_of_getElem? (i := 31) (by decide +kernel)) rfl⟩
def m_M_person : SgY := (11, yX11_person, cX11_person, 3, some .int)
set_option maxRecDepth 100000 in
theorem cw_M_person : Cond.code m_M_person.2.1 m_M_person.2.2.1 m_M_person.2.2.2.1 m_M_person.2.2.2.2 ∈ sg_GT := sg_inGT (List.mem_of_getElem? (i := 1174) rfl) rfl
theorem cy_M_person : sg_CY m_M_person 2 := ⟨by decide +kernel, rfl, sg_inGT (List.mem_of_getElem? (i := 20) (by decide +kernel)) rfl, cw_M_person, ⟨by decide +kernel, by decide +kernel, by decide +kernel⟩, by decide⟩
theorem cv_M_person : sg_CV m_M_person 2 := ⟨cy_M_person, sg_inGT (List.mem_of_getElem? (i := 1172) (by decide +kernel)) rfl, sg_inGT (List.mem_of_getElem? (i := 1173) (by decide +kernel)) rfl⟩
def m_M_personOf : SgY := (11, yX11_personOf, cX11_personOf, 2, some .int)
set_option maxRecDepth 100000 in
theorem cw_M_personOf : Cond.code m_M_personOf.2.1 m_M_personOf.2.2.1 m_M_personOf.2.2.2.1 m_M_personOf.2.2.2.2 ∈ sg_GT := sg_inGT (List.mem_of_getElem? (i := 1162) rfl) rfl
theorem cy_M_personOf : sg_CY m_M_personOf 2 := ⟨by decide +kernel, rfl, sg_inGT (List.mem_of_getElem? (i := 20) (by decide +kernel)) rfl, cw_M_personOf, ⟨by decide +kernel, by decide +kernel, by decide +kernel⟩, by decide⟩
theorem cs_M_personOf : sg_CS m_M_personOf 2 := ⟨cy_M_personOf, sg_inGT (List.mem_of_getElem? (i := 1161) (by decide +kernel)) rfl⟩
def m_M_post : SgY := (11, yX11_post, cX11_post, 3, some .int)
set_option maxRecDepth 100000 in
theorem cw_M_post : Cond.code m_M_post.2.1 m_M_post.2.2.1 m_M_post.2.2.2.1 m_M_post.2.2.2.2 ∈ sg_GT := sg_inGT (List.mem_of_getElem? (i := 1166) rfl) rfl
theorem cy_M_post : sg_CY m_M_post 2 := ⟨by decide +kernel, rfl, sg_inGT (List.mem_of_getElem? (i := 20) (by decide +kernel)) rfl, cw_M_post, ⟨by decide +kernel, by decide +kernel, by decide +kernel⟩, by decide⟩
theorem cv_M_post : sg_CV m_M_post 2 := ⟨cy_M_post, sg_inGT (List.mem_of_getElem? (i := 1164) (by decide +kernel)) rfl, sg_inGT (List.mem_of_getElem? (i := 1165) (by decide +kernel)) rfl⟩
def m_M_postOf : SgY := (11, yX11_postOf, cX11_postOf, 2, some .int)
set_option maxRecDepth 100000 in
theorem cw_M_postOf : Cond.code m_M_postOf.2.1 m_M_postOf.2.2.1 m_M_postOf.2.2.2.1 m_M_postOf.2.2.2.2 ∈ sg_GT := sg_inGT (List.mem_of_getElem? (i := 1152) rfl) rfl
theorem cy_M_postOf : sg_CY m_M_postOf 2 := ⟨by decide +kernel, rfl, sg_inGT (List.mem_of_getElem? (i := 20) (by decide +kernel)) rfl, cw_M_postOf, ⟨by decide +kernel, by decide +kernel, by decide +kernel⟩, by decide⟩
theorem cs_M_postOf : sg_CS m_M_postOf 2 := ⟨cy_M_postOf, sg_inGT (List.mem_of_getElem? (i := 1151) (by decide +kernel)) rfl⟩
def m_M_quiet : SgY := (11, yX11_quiet, cX11_quiet, 1, some .int)
set_option maxRecDepth 100000 in
theorem cw_M_quiet : Cond.code m_M_quiet.2.1 m_M_quiet.2.2.1 m_M_quiet.2.2.2.1 m_M_quiet.2.2.2.2 ∈ sg_GT := sg_inGT (List.mem_of_getElem? (i := 1301) rfl) rfl
theorem cy_M_quiet : sg_CY m_M_quiet 0 := ⟨by decide +kernel, rfl, sg_inGT (List.mem_of_getElem? (i := 20) (by decide +kernel)) rfl, cw_M_quiet, ⟨by decide +kernel, by decide +kernel, by decide +kernel⟩, by decide⟩
theorem cv_M_quiet : sg_CV m_M_quiet 0 := ⟨cy_M_quiet, sg_inGT (List.mem_of_getElem? (i := 1299) (by decide +kernel)) rfl, sg_inGT (List.mem_of_getElem? (i := 1300) (by decide +kernel)) rfl⟩
def m_M_quietNow : SgY := (11, yX11_quietNow, cX11_quietNow, 3, some .int)
set_option maxRecDepth 100000 in
theorem cw_M_quietNow : Cond.code m_M_quietNow.2.1 m_M_quietNow.2.2.1 m_M_quietNow.2.2.2.1 m_M_quietNow.2.2.2.2 ∈ sg_GT := sg_inGT (List.mem_of_getElem? (i := 1305) rfl) rfl
theorem cy_M_quietNow : sg_CY m_M_quietNow 0 := ⟨by decide +kernel, rfl, sg_inGT (List.mem_of_getElem? (i := 20) (by decide +kernel)) rfl, cw_M_quietNow, ⟨by decide +kernel, by decide +kernel, by decide +kernel⟩, by decide⟩
theorem cv_M_quietNow : sg_CV m_M_quietNow 0 := ⟨cy_M_quietNow, sg_inGT (List.mem_of_getElem? (i := 1304) (by decide +kernel)) rfl, sg_inP (List.mem_of_getElem? (i := 44) (by decide +kernel)) rfl⟩
def m_M_read : SgY := (11, yX11_read, cX11_read, 5, some .int)
set_option maxRecDepth 100000 in
theorem cw_M_read : Cond.code m_M_read.2.1 m_M_read.2.2.1 m_M_read.2.2.2.1 m_M_read.2.2.2.2 ∈ sg_GT := sg_inGT (List.mem_of_getElem? (i := 1199) rfl) rfl
theorem cy_M_read : sg_CY m_M_read 1 := ⟨by decide +kernel, rfl, sg_inGT (List.mem_of_getElem? (i := 20) (by decide +kernel)) rfl, cw_M_read, ⟨by decide +kernel, by decide +kernel, by decide +kernel⟩, by decide⟩
theorem cv_M_read : sg_CV m_M_read 1 := ⟨cy_M_read, sg_inGT (List.mem_of_getElem? (i := 1197) (by decide +kernel)) rfl, sg_inGT (List.mem_of_getElem? (i := 1198) (by decide +kernel)) rfl⟩
def m_M_readsPeople : SgY := (11, yX11_readsPeople, cX11_readsPeople, 5, some .int)
set_option maxRecDepth 100000 in
theorem cw_M_readsPeople : Cond.code m_M_readsPeople.2.1 m_M_readsPeople.2.2.1 m_M_readsPeople.2.2.2.1 m_M_readsPeople.2.2.2.2 ∈ sg_GT := sg_inGT (List.mem_of_getElem? (i := 1159) rfl) rfl
theorem cy_M_readsPeople : sg_CY m_M_readsPeople 0 := ⟨by decide +kernel, rfl, sg_inGT (List.mem_of_getElem? (i := 20) (by decide +kernel)) rfl, cw_M_readsPeople, ⟨by decide +kernel, by decide +kernel, by decide +kernel⟩, by decide⟩
theorem cv_M_readsPeople : sg_CV m_M_readsPeople 0 := ⟨cy_M_readsPeople, sg_inGT (List.mem_of_getElem? (i := 1158) (by decide +kernel)) rfl, sg_inP (List.mem_of_getElem? (i := 25) (by decide +kernel)) rfl⟩
def m_M_readsPosts : SgY := (11, yX11_readsPosts, cX11_readsPosts, 5, some .int)
set_option maxRecDepth 100000 in
theorem cw_M_readsPosts : Cond.code m_M_readsPosts.2.1 m_M_readsPosts.2.2.1 m_M_readsPosts.2.2.2.1 m_M_readsPosts.2.2.2.2 ∈ sg_GT := sg_inGT (List.mem_of_getElem? (i := 1149) rfl) rfl
theorem cy_M_readsPosts : sg_CY m_M_readsPosts 0 := ⟨by decide +kernel, rfl, sg_inGT (List.mem_of_getElem? (i := 20) (by decide +kernel)) rfl, cw_M_readsPosts, ⟨by decide +kernel, by decide +kernel, by decide +kernel⟩, by decide⟩
theorem cv_M_readsPosts : sg_CV m_M_readsPosts 0 := ⟨cy_M_readsPosts, sg_inGT (List.mem_of_getElem? (i := 1148) (by decide +kernel)) rfl, sg_inP (List.mem_of_getElem? (i := 24) (by decide +kernel)) rfl⟩
def m_M_readsText : SgY := (11, yX11_readsText, cX11_readsText, 2, some .int)
set_option maxRecDepth 100000 in
theorem cw_M_readsText : Cond.code m_M_readsText.2.1 m_M_readsText.2.2.1 m_M_readsText.2.2.2.1 m_M_readsText.2.2.2.2 ∈ sg_GT := sg_inGT (List.mem_of_getElem? (i := 1145) rfl) rfl
theorem cy_M_readsText : sg_CY m_M_readsText 1 := ⟨by decide +kernel, rfl, sg_inGT (List.mem_of_getElem? (i := 20) (by decide +kernel)) rfl, cw_M_readsText, ⟨by decide +kernel, by decide +kernel, by decide +kernel⟩, by decide⟩
theorem cv_M_readsText : sg_CV m_M_readsText 1 := ⟨cy_M_readsText, sg_inGT (List.mem_of_getElem? (i := 1144) (by decide +kernel)) rfl, sg_inP (List.mem_of_getElem? (i := 23) (by decide +kernel)) rfl⟩
def m_M_seen : SgY := (11, yX11_seen, cX11_seen, 4, some .int)
set_option maxRecDepth 100000 in
theorem cw_M_seen : Cond.code m_M_seen.2.1 m_M_seen.2.2.1 m_M_seen.2.2.2.1 m_M_seen.2.2.2.2 ∈ sg_GT := sg_inGT (List.mem_of_getElem? (i := 1349) rfl) rfl
theorem cy_M_seen : sg_CY m_M_seen 3 := ⟨by decide +kernel, rfl, sg_inGT (List.mem_of_getElem? (i := 20) (by decide +kernel)) rfl, cw_M_seen, ⟨by decide +kernel, by decide +kernel, by decide +kernel⟩, by decide⟩
theorem cv_M_seen : sg_CV m_M_seen 3 := ⟨cy_M_seen, sg_inGT (List.mem_of_getElem? (i := 1347) (by decide +kernel)) rfl, sg_inGT (List.mem_of_getElem? (i := 1348) (by decide +kernel)) rfl⟩
def m_M_sheet : SgY := (11, yX11_sheet, cX11_sheet, 5, some .int)
set_option maxRecDepth 100000 in
theorem cw_M_sheet : Cond.code m_M_sheet.2.1 m_M_sheet.2.2.1 m_M_sheet.2.2.2.1 m_M_sheet.2.2.2.2 ∈ sg_GT := sg_inGT (List.mem_of_getElem? (i := 1085) rfl) rfl
theorem cy_M_sheet : sg_CY m_M_sheet 3 := ⟨by decide +kernel, rfl, sg_inGT (List.mem_of_getElem? (i := 20) (by decide +kernel)) rfl, cw_M_sheet, ⟨by decide +kernel, by decide +kernel, by decide +kernel⟩, by decide⟩
theorem cv_M_sheet : sg_CV m_M_sheet 3 := ⟨cy_M_sheet, sg_inGT (List.mem_of_getElem? (i := 1083) (by decide +kernel)) rfl, sg_inGT (List.mem_of_getElem? (i := 1084) (by decide +kernel)) rfl⟩
def m_M_sortOf : SgY := (11, yX11_sortOf, cX11_sortOf, 5, some .int)
set_option maxRecDepth 100000 in
theorem cw_M_sortOf : Cond.code m_M_sortOf.2.1 m_M_sortOf.2.2.1 m_M_sortOf.2.2.2.1 m_M_sortOf.2.2.2.2 ∈ sg_GT := sg_inGT (List.mem_of_getElem? (i := 1378) rfl) rfl
theorem cy_M_sortOf : sg_CY m_M_sortOf 1 := ⟨by decide +kernel, rfl, sg_inGT (List.mem_of_getElem? (i := 20) (by decide +kernel)) rfl, cw_M_sortOf, ⟨by decide +kernel, by decide +kernel, by decide +kernel⟩, by decide⟩
theorem cv_M_sortOf : sg_CV m_M_sortOf 1 := ⟨cy_M_sortOf, sg_inGT (List.mem_of_getElem? (i := 1377) (by decide +kernel)) rfl, sg_inP (List.mem_of_getElem? (i := 53) (by decide +kernel)) rfl⟩
def m_M_spare : SgY := (11, yX11_spare, cX11_spare, 2, some .int)
set_option maxRecDepth 100000 in
theorem cw_M_spare : Cond.code m_M_spare.2.1 m_M_spare.2.2.1 m_M_spare.2.2.2.1 m_M_spare.2.2.2.2 ∈ sg_GT := sg_inGT (List.mem_of_getElem? (i := 1336) rfl) rfl
theorem cy_M_spare : sg_CY m_M_spare 1 := ⟨by decide +kernel, rfl, sg_inGT (List.mem_of_getElem? (i := 20) (by decide +kernel)) rfl, cw_M_spare, ⟨by decide +kernel, by decide +kernel, by decide +kernel⟩, by decide⟩
theorem cv_M_spare : sg_CV m_M_spare 1 := ⟨cy_M_spare, sg_inGT (List.mem_of_getElem? (i := 1334) (by decide +kernel)) rfl, sg_inGT (List.mem_of_getElem? (i := 1335) (by decide +kernel)) rfl⟩
def m_M_spareBy : SgY := (11, yX11_spareBy, cX11_spareBy, 4, some .int)
set_option maxRecDepth 100000 in
theorem cw_M_spareBy : Cond.code m_M_spareBy.2.1 m_M_spareBy.2.2.1 m_M_spareBy.2.2.2.1 m_M_spareBy.2.2.2.2 ∈ sg_GT := sg_inGT (List.mem_of_getElem? (i := 1341) rfl) rfl
theorem cy_M_spareBy : sg_CY m_M_spareBy 1 := ⟨by decide +kernel, rfl, sg_inGT (List.mem_of_getElem? (i := 20) (by decide +kernel)) rfl, cw_M_spareBy, ⟨by decide +kernel, by decide +kernel, by decide +kernel⟩, by decide⟩
theorem cv_M_spareBy : sg_CV m_M_spareBy 1 := ⟨cy_M_spareBy, sg_inGT (List.mem_of_getElem? (i := 1340) (by decide +kernel)) rfl, sg_inP (List.mem_of_getElem? (i := 48) (by decide +kernel)) rfl⟩
def m_M_stood : SgY := (11, yX11_stood, cX11_stood, 4, some .int)
set_option maxRecDepth 100000 in
theorem cw_M_stood : Cond.code m_M_stood.2.1 m_M_stood.2.2.1 m_M_stood.2.2.2.1 m_M_stood.2.2.2.2 ∈ sg_GT := sg_inGT (List.mem_of_getElem? (i := 1250) rfl) rfl
theorem cy_M_stood : sg_CY m_M_stood 3 := ⟨by decide +kernel, rfl, sg_inGT (List.mem_of_getElem? (i := 20) (by decide +kernel)) rfl, cw_M_stood, ⟨by decide +kernel, by decide +kernel, by decide +kernel⟩, by decide⟩
theorem cv_M_stood : sg_CV m_M_stood 3 := ⟨cy_M_stood, sg_inGT (List.mem_of_getElem? (i := 1248) (by decide +kernel)) rfl, sg_inGT (List.mem_of_getElem? (i := 1249) (by decide +kernel)) rfl⟩
def m_M_stoodOf : SgY := (11, yX11_stoodOf, cX11_stoodOf, 5, some .int)
set_option maxRecDepth 100000 in
theorem cw_M_stoodOf : Cond.code m_M_stoodOf.2.1 m_M_stoodOf.2.2.1 m_M_stoodOf.2.2.2.1 m_M_stoodOf.2.2.2.2 ∈ sg_GT := sg_inGT (List.mem_of_getElem? (i := 1254) rfl) rfl
theorem cy_M_stoodOf : sg_CY m_M_stoodOf 3 := ⟨by decide +kernel, rfl, sg_inGT (List.mem_of_getElem? (i := 20) (by decide +kernel)) rfl, cw_M_stoodOf, ⟨by decide +kernel, by decide +kernel, by decide +kernel⟩, by decide⟩
theorem cv_M_stoodOf : sg_CV m_M_stoodOf 3 := ⟨cy_M_stoodOf, sg_inGT (List.mem_of_getElem? (i := 1253) (by decide +kernel)) rfl, sg_inP (List.mem_of_getElem? (i := 38) (by decide +kernel)) rfl⟩
def m_M_stroll : SgY := (11, yX11_stroll, cX11_stroll, 3, some .int)
set_option maxRecDepth 100000 in
theorem cw_M_stroll : Cond.code m_M_stroll.2.1 m_M_stroll.2.2.1 m_M_stroll.2.2.2.1 m_M_stroll.2.2.2.2 ∈ sg_GT := sg_inGT (List.mem_of_getElem? (i := 1309) rfl) rfl
theorem cy_M_stroll : sg_CY m_M_stroll 2 := ⟨by decide +kernel, rfl, sg_inGT (List.mem_of_getElem? (i := 20) (by decide +kernel)) rfl, cw_M_stroll, ⟨by decide +kernel, by decide +kernel, by decide +kernel⟩, by decide⟩
theorem cv_M_stroll : sg_CV m_M_stroll 2 := ⟨cy_M_stroll, sg_inGT (List.mem_of_getElem? (i := 1307) (by decide +kernel)) rfl, sg_inGT (List.mem_of_getElem? (i := 1308) (by decide +kernel)) rfl⟩
def m_M_strollOf : SgY := (11, yX11_strollOf, cX11_strollOf, 8, some .int)
set_option maxRecDepth 100000 in
theorem cw_M_strollOf : Cond.code m_M_strollOf.2.1 m_M_strollOf.2.2.1 m_M_strollOf.2.2.2.1 m_M_strollOf.2.2.2.2 ∈ sg_GT := sg_inGT (List.mem_of_getElem? (i := 1313) rfl) rfl
theorem cy_M_strollOf : sg_CY m_M_strollOf 2 := ⟨by decide +kernel, rfl, sg_inGT (List.mem_of_getElem? (i := 20) (by decide +kernel)) rfl, cw_M_strollOf, ⟨by decide +kernel, by decide +kernel, by decide +kernel⟩, by decide⟩
theorem cv_M_strollOf : sg_CV m_M_strollOf 2 := ⟨cy_M_strollOf, sg_inGT (List.mem_of_getElem? (i := 1312) (by decide +kernel)) rfl, sg_inP (List.mem_of_getElem? (i := 45) (by decide +kernel)) rfl⟩
def m_M_tellsHour : SgY := (11, yX11_tellsHour, cX11_tellsHour, 8, some .long)
set_option maxRecDepth 100000 in
theorem cw_M_tellsHour : Cond.code m_M_tellsHour.2.1 m_M_tellsHour.2.2.1 m_M_tellsHour.2.2.2.1 m_M_tellsHour.2.2.2.2 ∈ sg_GT := sg_inGT (List.mem_of_getElem? (i := 1458) rfl) rfl
theorem cy_M_tellsHour : sg_CY m_M_tellsHour 3 := ⟨by decide +kernel, rfl, sg_inGT (List.mem_of_getElem? (i := 20) (by decide +kernel)) rfl, cw_M_tellsHour, ⟨by decide +kernel, by decide +kernel, by decide +kernel⟩, by decide⟩
theorem cv_M_tellsHour : sg_CV m_M_tellsHour 3 := ⟨cy_M_tellsHour, sg_inGT (List.mem_of_getElem? (i := 1457) (by decide +kernel)) rfl, sg_inP (List.mem_of_getElem? (i := 63) (by decide +kernel)) rfl⟩
def m_M_tellsPerson : SgY := (11, yX11_tellsPerson, cX11_tellsPerson, 7, some .long)
set_option maxRecDepth 100000 in
theorem cw_M_tellsPerson : Cond.code m_M_tellsPerson.2.1 m_M_tellsPerson.2.2.1 m_M_tellsPerson.2.2.2.1 m_M_tellsPerson.2.2.2.2 ∈ sg_GT := sg_inGT (List.mem_of_getElem? (i := 1454) rfl) rfl
theorem cy_M_tellsPerson : sg_CY m_M_tellsPerson 2 := ⟨by decide +kernel, rfl, sg_inGT (List.mem_of_getElem? (i := 20) (by decide +kernel)) rfl, cw_M_tellsPerson, ⟨by decide +kernel, by decide +kernel, by decide +kernel⟩, by decide⟩
theorem cv_M_tellsPerson : sg_CV m_M_tellsPerson 2 := ⟨cy_M_tellsPerson, sg_inGT (List.mem_of_getElem? (i := 1453) (by decide +kernel)) rfl, sg_inP (List.mem_of_getElem? (i := 62) (by decide +kernel)) rfl⟩
def m_M_tellsPost : SgY := (11, yX11_tellsPost, cX11_tellsPost, 6, some .long)
set_option maxRecDepth 100000 in
theorem cw_M_tellsPost : Cond.code m_M_tellsPost.2.1 m_M_tellsPost.2.2.1 m_M_tellsPost.2.2.2.1 m_M_tellsPost.2.2.2.2 ∈ sg_GT := sg_inGT (List.mem_of_getElem? (i := 1446) rfl) rfl
theorem cy_M_tellsPost : sg_CY m_M_tellsPost 2 := ⟨by decide +kernel, rfl, sg_inGT (List.mem_of_getElem? (i := 20) (by decide +kernel)) rfl, cw_M_tellsPost, ⟨by decide +kernel, by decide +kernel, by decide +kernel⟩, by decide⟩
theorem cv_M_tellsPost : sg_CV m_M_tellsPost 2 := ⟨cy_M_tellsPost, sg_inGT (List.mem_of_getElem? (i := 1445) (by decide +kernel)) rfl, sg_inP (List.mem_of_getElem? (i := 60) (by decide +kernel)) rfl⟩
def m_M_tellsStood : SgY := (11, yX11_tellsStood, cX11_tellsStood, 8, some .long)
set_option maxRecDepth 100000 in
theorem cw_M_tellsStood : Cond.code m_M_tellsStood.2.1 m_M_tellsStood.2.2.1 m_M_tellsStood.2.2.2.1 m_M_tellsStood.2.2.2.2 ∈ sg_GT := sg_inGT (List.mem_of_getElem? (i := 1450) rfl) rfl
theorem cy_M_tellsStood : sg_CY m_M_tellsStood 3 := ⟨by decide +kernel, rfl, sg_inGT (List.mem_of_getElem? (i := 20) (by decide +kernel)) rfl, cw_M_tellsStood, ⟨by decide +kernel, by decide +kernel, by decide +kernel⟩, by decide⟩
theorem cv_M_tellsStood : sg_CV m_M_tellsStood 3 := ⟨cy_M_tellsStood, sg_inGT (List.mem_of_getElem? (i := 1449) (by decide +kernel)) rfl, sg_inP (List.mem_of_getElem? (i := 61) (by decide +kernel)) rfl⟩
def m_M_type : SgY := (11, yX11_type, cX11_type, 3, some .int)
set_option maxRecDepth 100000 in
theorem cw_M_type : Cond.code m_M_type.2.1 m_M_type.2.2.1 m_M_type.2.2.2.1 m_M_type.2.2.2.2 ∈ sg_GT := sg_inGT (List.mem_of_getElem? (i := 1125) rfl) rfl
theorem cy_M_type : sg_CY m_M_type 2 := ⟨by decide +kernel, rfl, sg_inGT (List.mem_of_getElem? (i := 20) (by decide +kernel)) rfl, cw_M_type, ⟨by decide +kernel, by decide +kernel, by decide +kernel⟩, by decide⟩
theorem cv_M_type : sg_CV m_M_type 2 := ⟨cy_M_type, sg_inGT (List.mem_of_getElem? (i := 1123) (by decide +kernel)) rfl, sg_inGT (List.mem_of_getElem? (i := 1124) (by decide +kernel)) rfl⟩
def m_M_undo : SgY := (11, yX11_undo, cX11_undo, 2, some .int)
set_option maxRecDepth 100000 in
theorem cw_M_undo : Cond.code m_M_undo.2.1 m_M_undo.2.2.1 m_M_undo.2.2.2.1 m_M_undo.2.2.2.2 ∈ sg_GT := sg_inGT (List.mem_of_getElem? (i := 1137) rfl) rfl
theorem cy_M_undo : sg_CY m_M_undo 1 := ⟨by decide +kernel, rfl, sg_inGT (List.mem_of_getElem? (i := 20) (by decide +kernel)) rfl, cw_M_undo, ⟨by decide +kernel, by decide +kernel, by decide +kernel⟩, by decide⟩
theorem cv_M_undo : sg_CV m_M_undo 1 := ⟨cy_M_undo, sg_inGT (List.mem_of_getElem? (i := 1135) (by decide +kernel)) rfl, sg_inGT (List.mem_of_getElem? (i := 1136) (by decide +kernel)) rfl⟩
def m_M_was : SgY := (11, yX11_was, cX11_was, 3, some .int)
set_option maxRecDepth 100000 in
theorem cw_M_was : Cond.code m_M_was.2.1 m_M_was.2.2.1 m_M_was.2.2.2.1 m_M_was.2.2.2.2 ∈ sg_GT := sg_inGT (List.mem_of_getElem? (i := 1370) rfl) rfl
theorem cy_M_was : sg_CY m_M_was 2 := ⟨by decide +kernel, rfl, sg_inGT (List.mem_of_getElem? (i := 20) (by decide +kernel)) rfl, cw_M_was, ⟨by decide +kernel, by decide +kernel, by decide +kernel⟩, by decide⟩
theorem cv_M_was : sg_CV m_M_was 2 := ⟨cy_M_was, sg_inGT (List.mem_of_getElem? (i := 1368) (by decide +kernel)) rfl, sg_inGT (List.mem_of_getElem? (i := 1369) (by decide +kernel)) rfl⟩
def m_M_wasOf : SgY := (11, yX11_wasOf, cX11_wasOf, 3, some .int)
set_option maxRecDepth 100000 in
theorem cw_M_wasOf : Cond.code m_M_wasOf.2.1 m_M_wasOf.2.2.1 m_M_wasOf.2.2.2.1 m_M_wasOf.2.2.2.2 ∈ sg_GT := sg_inGT (List.mem_of_getElem? (i := 1374) rfl) rfl
theorem cy_M_wasOf : sg_CY m_M_wasOf 2 := ⟨by decide +kernel, rfl, sg_inGT (List.mem_of_getElem? (i := 20) (by decide +kernel)) rfl, cw_M_wasOf, ⟨by decide +kernel, by decide +kernel, by decide +kernel⟩, by decide⟩
theorem cv_M_wasOf : sg_CV m_M_wasOf 2 := ⟨cy_M_wasOf, sg_inGT (List.mem_of_getElem? (i := 1373) (by decide +kernel)) rfl, sg_inP (List.mem_of_getElem? (i := 52) (by decide +kernel)) rfl⟩
def m_M_wipe : SgY := (11, yX11_wipe, cX11_wipe, 3, some .int)
set_option maxRecDepth 100000 in
theorem cw_M_wipe : Cond.code m_M_wipe.2.1 m_M_wipe.2.2.1 m_M_wipe.2.2.2.1 m_M_wipe.2.2.2.2 ∈ sg_GT := sg_inGT (List.mem_of_getElem? (i := 1133) rfl) rfl
theorem cy_M_wipe : sg_CY m_M_wipe 1 := ⟨by decide +kernel, rfl, sg_inGT (List.mem_of_getElem? (i := 20) (by decide +kernel)) rfl, cw_M_wipe, ⟨by decide +kernel, by decide +kernel, by decide +kernel⟩, by decide⟩
theorem cv_M_wipe : sg_CV m_M_wipe 1 := ⟨cy_M_wipe, sg_inGT (List.mem_of_getElem? (i := 1131) (by decide +kernel)) rfl, sg_inGT (List.mem_of_getElem? (i := 1132) (by decide +kernel)) rfl⟩
def m_M_write : SgY := (11, yX11_write, cX11_write, 5, some .int)
set_option maxRecDepth 100000 in
theorem cw_M_write : Cond.code m_M_write.2.1 m_M_write.2.2.1 m_M_write.2.2.2.1 m_M_write.2.2.2.2 ∈ sg_GT := sg_inGT (List.mem_of_getElem? (i := 1431) rfl) rfl
theorem cy_M_write : sg_CY m_M_write 2 := ⟨by decide +kernel, rfl, sg_inGT (List.mem_of_getElem? (i := 20) (by decide +kernel)) rfl, cw_M_write, ⟨by decide +kernel, by decide +kernel, by decide +kernel⟩, by decide⟩
theorem cv_M_write : sg_CV m_M_write 2 := ⟨cy_M_write, sg_inGT (List.mem_of_getElem? (i := 1429) (by decide +kernel)) rfl, sg_inGT (List.mem_of_getElem? (i := 1430) (by decide +kernel)) rfl⟩
def m_P_planDust : SgY := (5, yX5_planDust, cX5_planDust, 4, none)
set_option maxRecDepth 100000 in
theorem cw_P_planDust : Cond.code m_P_planDust.2.1 m_P_planDust.2.2.1 m_P_planDust.2.2.2.1 m_P_planDust.2.2.2.2 ∈ sg_GT := sg_inGT (List.mem_of_getElem? (i := 750) rfl) rfl
theorem cy_P_planDust : sg_CY m_P_planDust 1 := ⟨by decide +kernel, rfl, sg_inGT (List.mem_of_getElem? (i := 16) (by decide +kernel)) rfl, cw_P_planDust, ⟨by decide +kernel, by decide +kernel, by decide +kernel⟩, by decide⟩
theorem cv_P_planDust : sg_CV m_P_planDust 1 := ⟨cy_P_planDust, sg_inGT (List.mem_of_getElem? (i := 748) (by decide +kernel)) rfl, sg_inGT (List.mem_of_getElem? (i := 749) (by decide +kernel)) rfl⟩
def m_P_planHush : SgY := (5, yX5_planHush, cX5_planHush, 4, none)
set_option maxRecDepth 100000 in
theorem cw_P_planHush : Cond.code m_P_planHush.2.1 m_P_planHush.2.2.1 m_P_planHush.2.2.2.1 m_P_planHush.2.2.2.2 ∈ sg_GT := sg_inGT (List.mem_of_getElem? (i := 758) rfl) rfl
theorem cy_P_planHush : sg_CY m_P_planHush 1 := ⟨by decide +kernel, rfl, sg_inGT (List.mem_of_getElem? (i := 16) (by decide +kernel)) rfl, cw_P_planHush, ⟨by decide +kernel, by decide +kernel, by decide +kernel⟩, by decide⟩
theorem cv_P_planHush : sg_CV m_P_planHush 1 := ⟨cy_P_planHush, sg_inGT (List.mem_of_getElem? (i := 756) (by decide +kernel)) rfl, sg_inGT (List.mem_of_getElem? (i := 757) (by decide +kernel)) rfl⟩
def m_P_planSpare : SgY := (5, yX5_planSpare, cX5_planSpare, 4, none)
set_option maxRecDepth 100000 in
theorem cw_P_planSpare : Cond.code m_P_planSpare.2.1 m_P_planSpare.2.2.1 m_P_planSpare.2.2.2.1 m_P_planSpare.2.2.2.2 ∈ sg_GT := sg_inGT (List.mem_of_getElem? (i := 766) rfl) rfl
theorem cy_P_planSpare : sg_CY m_P_planSpare 0 := ⟨by decide +kernel, rfl, sg_inGT (List.mem_of_getElem? (i := 16) (by decide +kernel)) rfl, cw_P_planSpare, ⟨by decide +kernel, by decide +kernel, by decide +kernel⟩, by decide⟩
theorem cv_P_planSpare : sg_CV m_P_planSpare 0 := ⟨cy_P_planSpare, sg_inGT (List.mem_of_getElem? (i := 764) (by decide +kernel)) rfl, sg_inGT (List.mem_of_getElem? (i := 765) (by decide +kernel)) rfl⟩
def m_P_planStroll : SgY := (5, yX5_planStroll, cX5_planStroll, 4, none)
set_option maxRecDepth 100000 in
theorem cw_P_planStroll : Cond.code m_P_planStroll.2.1 m_P_planStroll.2.2.1 m_P_planStroll.2.2.2.1 m_P_planStroll.2.2.2.2 ∈ sg_GT := sg_inGT (List.mem_of_getElem? (i := 741) rfl) rfl
theorem cy_P_planStroll : sg_CY m_P_planStroll 1 := ⟨by decide +kernel, rfl, sg_inGT (List.mem_of_getElem? (i := 16) (by decide +kernel)) rfl, cw_P_planStroll, ⟨by decide +kernel, by decide +kernel, by decide +kernel⟩, by decide⟩
theorem cv_P_planStroll : sg_CV m_P_planStroll 1 := ⟨cy_P_planStroll, sg_inGT (List.mem_of_getElem? (i := 739) (by decide +kernel)) rfl, sg_inGT (List.mem_of_getElem? (i := 740) (by decide +kernel)) rfl⟩
def m_P_setSpare : SgY := (5, yX5_setSpare, cX5_setSpare, 4, none)
set_option maxRecDepth 100000 in
theorem cw_P_setSpare : Cond.code m_P_setSpare.2.1 m_P_setSpare.2.2.1 m_P_setSpare.2.2.2.1 m_P_setSpare.2.2.2.2 ∈ sg_GT := sg_inGT (List.mem_of_getElem? (i := 770) rfl) rfl
theorem cy_P_setSpare : sg_CY m_P_setSpare 3 := ⟨by decide +kernel, rfl, sg_inGT (List.mem_of_getElem? (i := 16) (by decide +kernel)) rfl, cw_P_setSpare, ⟨by decide +kernel, by decide +kernel, by decide +kernel⟩, by decide⟩
theorem cv_P_setSpare : sg_CV m_P_setSpare 3 := ⟨cy_P_setSpare, sg_inGT (List.mem_of_getElem? (i := 769) (by decide +kernel)) rfl, sg_inP (List.mem_of_getElem? (i := 13) (by decide +kernel)) rfl⟩
def m_S_checkBoundsBeginEnd : SgY := (20, yJ0_checkBoundsBeginEnd_23922, cJ0_checkBoundsBeginEnd_23922, 3, none)
set_option maxRecDepth 100000 in
theorem cw_S_checkBoundsBeginEnd : Cond.code m_S_checkBoundsBeginEnd.2.1 m_S_checkBoundsBeginEnd.2.2.1 m_S_checkBoundsBeginEnd.2.2.2.1 m_S_checkBoundsBeginEnd.2.2.2.2 ∈ sg_GT := sg_inGT (List.mem_of_getElem? (i := 319) rfl) rfl
theorem cy_S_checkBoundsBeginEnd : sg_CY m_S_checkBoundsBeginEnd 3 := ⟨by decide +kernel, rfl, sg_inGT (List.mem_of_getElem? (i := 8) (by decide +kernel)) rfl, cw_S_checkBoundsBeginEnd, ⟨by decide +kernel, by decide +kernel, by decide +kernel⟩, by decide⟩
theorem cs_S_checkBoundsBeginEnd : sg_CS m_S_checkBoundsBeginEnd 3 := ⟨cy_S_checkBoundsBeginEnd, sg_inGT (List.mem_of_getElem? (i := 318) (by decide +kernel)) rfl⟩
def m_S_coder : SgY := (20, yJ0_coder_7d493, cJ0_coder_7d493, 1, some .byte)
set_option maxRecDepth 100000 in
theorem cw_S_coder : Cond.code m_S_coder.2.1 m_S_coder.2.2.1 m_S_coder.2.2.2.1 m_S_coder.2.2.2.2 ∈ sg_GT := sg_inGT (List.mem_of_getElem? (i := 286) rfl) rfl
theorem cy_S_coder : sg_CY m_S_coder 0 := ⟨by decide +kernel, rfl, sg_inGT (List.mem_of_getElem? (i := 8) (by decide +kernel)) rfl, cw_S_coder, ⟨by decide +kernel, by decide +kernel, by decide +kernel⟩, by decide⟩
theorem cv_S_coder : sg_CV m_S_coder 0 := ⟨cy_S_coder, sg_inGT (List.mem_of_getElem? (i := 284) (by decide +kernel)) rfl, sg_inGT (List.mem_of_getElem? (i := 285) (by decide +kernel)) rfl⟩
def m_S_indexOf1 : SgY := (20, yJ0_indexOf_0f7a4, cJ0_indexOf_0f7a4, 2, some .int)
set_option maxRecDepth 100000 in
theorem cw_S_indexOf1 : Cond.code m_S_indexOf1.2.1 m_S_indexOf1.2.2.1 m_S_indexOf1.2.2.2.1 m_S_indexOf1.2.2.2.2 ∈ sg_GT := sg_inGT (List.mem_of_getElem? (i := 268) rfl) rfl
theorem cy_S_indexOf1 : sg_CY m_S_indexOf1 1 := ⟨by decide +kernel, rfl, sg_inGT (List.mem_of_getElem? (i := 8) (by decide +kernel)) rfl, cw_S_indexOf1, ⟨by decide +kernel, by decide +kernel, by decide +kernel⟩, by decide⟩
theorem cv_S_indexOf1 : sg_CV m_S_indexOf1 1 := ⟨cy_S_indexOf1, sg_inGT (List.mem_of_getElem? (i := 266) (by decide +kernel)) rfl, sg_inGT (List.mem_of_getElem? (i := 267) (by decide +kernel)) rfl⟩
def m_S_indexOf2 : SgY := (20, yJ0_indexOf_7cf53, cJ0_indexOf_7cf53, 3, some .int)
set_option maxRecDepth 100000 in
theorem cw_S_indexOf2 : Cond.code m_S_indexOf2.2.1 m_S_indexOf2.2.2.1 m_S_indexOf2.2.2.2.1 m_S_indexOf2.2.2.2.2 ∈ sg_GT := sg_inGT (List.mem_of_getElem? (i := 272) rfl) rfl
theorem cy_S_indexOf2 : sg_CY m_S_indexOf2 2 := ⟨by decide +kernel, rfl, sg_inGT (List.mem_of_getElem? (i := 8) (by decide +kernel)) rfl, cw_S_indexOf2, ⟨by decide +kernel, by decide +kernel, by decide +kernel⟩, by decide⟩
theorem cv_S_indexOf2 : sg_CV m_S_indexOf2 2 := ⟨cy_S_indexOf2, sg_inGT (List.mem_of_getElem? (i := 270) (by decide +kernel)) rfl, sg_inGT (List.mem_of_getElem? (i := 271) (by decide +kernel)) rfl⟩
def m_S_isLatin1 : SgY := (20, yJ0_isLatin1_aae02, cJ0_isLatin1_aae02, 1, some .boolean)
set_option maxRecDepth 100000 in
theorem cw_S_isLatin1 : Cond.code m_S_isLatin1.2.1 m_S_isLatin1.2.2.1 m_S_isLatin1.2.2.2.1 m_S_isLatin1.2.2.2.2 ∈ sg_GT := sg_inGT (List.mem_of_getElem? (i := 276) rfl) rfl
theorem cy_S_isLatin1 : sg_CY m_S_isLatin1 0 := ⟨by decide +kernel, rfl, sg_inGT (List.mem_of_getElem? (i := 8) (by decide +kernel)) rfl, cw_S_isLatin1, ⟨by decide +kernel, by decide +kernel, by decide +kernel⟩, by decide⟩
theorem cv_S_isLatin1 : sg_CV m_S_isLatin1 0 := ⟨cy_S_isLatin1, sg_inGT (List.mem_of_getElem? (i := 274) (by decide +kernel)) rfl, sg_inGT (List.mem_of_getElem? (i := 275) (by decide +kernel)) rfl⟩
def m_S_length : SgY := (20, yJ0_length_8abf5, cJ0_length_8abf5, 1, some .int)
set_option maxRecDepth 100000 in
theorem cw_S_length : Cond.code m_S_length.2.1 m_S_length.2.2.1 m_S_length.2.2.2.1 m_S_length.2.2.2.2 ∈ sg_GT := sg_inGT (List.mem_of_getElem? (i := 282) rfl) rfl
theorem cy_S_length : sg_CY m_S_length 0 := ⟨by decide +kernel, rfl, sg_inGT (List.mem_of_getElem? (i := 8) (by decide +kernel)) rfl, cw_S_length, ⟨by decide +kernel, by decide +kernel, by decide +kernel⟩, by decide⟩
theorem cv_S_length : sg_CV m_S_length 0 := ⟨cy_S_length, sg_inGT (List.mem_of_getElem? (i := 280) (by decide +kernel)) rfl, sg_inGT (List.mem_of_getElem? (i := 281) (by decide +kernel)) rfl⟩
def m_T_add : SgY := (7, yX7_add, cX7_add, 2, some .int)
set_option maxRecDepth 100000 in
theorem cw_T_add : Cond.code m_T_add.2.1 m_T_add.2.2.1 m_T_add.2.2.2.1 m_T_add.2.2.2.2 ∈ sg_GT := sg_inGT (List.mem_of_getElem? (i := 610) rfl) rfl
theorem cy_T_add : sg_CY m_T_add 1 := ⟨by decide +kernel, rfl, sg_inGT (List.mem_of_getElem? (i := 3) (by decide +kernel)) rfl, cw_T_add, ⟨by decide +kernel, by decide +kernel, by decide +kernel⟩, by decide⟩
theorem cv_T_add : sg_CV m_T_add 1 := ⟨cy_T_add, sg_inGT (List.mem_of_getElem? (i := 608) (by decide +kernel)) rfl, sg_inGT (List.mem_of_getElem? (i := 609) (by decide +kernel)) rfl⟩
def m_T_clear : SgY := (7, yX7_clear, cX7_clear, 2, some .int)
set_option maxRecDepth 100000 in
theorem cw_T_clear : Cond.code m_T_clear.2.1 m_T_clear.2.2.1 m_T_clear.2.2.2.1 m_T_clear.2.2.2.2 ∈ sg_GT := sg_inGT (List.mem_of_getElem? (i := 619) rfl) rfl
theorem cy_T_clear : sg_CY m_T_clear 0 := ⟨by decide +kernel, rfl, sg_inGT (List.mem_of_getElem? (i := 3) (by decide +kernel)) rfl, cw_T_clear, ⟨by decide +kernel, by decide +kernel, by decide +kernel⟩, by decide⟩
theorem cv_T_clear : sg_CV m_T_clear 0 := ⟨cy_T_clear, sg_inGT (List.mem_of_getElem? (i := 617) (by decide +kernel)) rfl, sg_inGT (List.mem_of_getElem? (i := 618) (by decide +kernel)) rfl⟩
def m_T_dropLast : SgY := (7, yX7_dropLast, cX7_dropLast, 1, some .int)
set_option maxRecDepth 100000 in
theorem cw_T_dropLast : Cond.code m_T_dropLast.2.1 m_T_dropLast.2.2.1 m_T_dropLast.2.2.2.1 m_T_dropLast.2.2.2.2 ∈ sg_GT := sg_inGT (List.mem_of_getElem? (i := 627) rfl) rfl
theorem cy_T_dropLast : sg_CY m_T_dropLast 0 := ⟨by decide +kernel, rfl, sg_inGT (List.mem_of_getElem? (i := 3) (by decide +kernel)) rfl, cw_T_dropLast, ⟨by decide +kernel, by decide +kernel, by decide +kernel⟩, by decide⟩
theorem cv_T_dropLast : sg_CV m_T_dropLast 0 := ⟨cy_T_dropLast, sg_inGT (List.mem_of_getElem? (i := 625) (by decide +kernel)) rfl, sg_inGT (List.mem_of_getElem? (i := 626) (by decide +kernel)) rfl⟩
def m_T_firstFault : SgY := (7, yX7_firstFault, cX7_firstFault, 3, some .int)
set_option maxRecDepth 100000 in
theorem cw_T_firstFault : Cond.code m_T_firstFault.2.1 m_T_firstFault.2.2.1 m_T_firstFault.2.2.2.1 m_T_firstFault.2.2.2.2 ∈ sg_GT := sg_inGT (List.mem_of_getElem? (i := 248) rfl) rfl
theorem cy_T_firstFault : sg_CY m_T_firstFault 0 := ⟨by decide +kernel, rfl, sg_inGT (List.mem_of_getElem? (i := 3) (by decide +kernel)) rfl, cw_T_firstFault, ⟨by decide +kernel, by decide +kernel, by decide +kernel⟩, by decide⟩
theorem cv_T_firstFault : sg_CV m_T_firstFault 0 := ⟨cy_T_firstFault, sg_inGT (List.mem_of_getElem? (i := 246) (by decide +kernel)) rfl, sg_inGT (List.mem_of_getElem? (i := 247) (by decide +kernel)) rfl⟩
def m_T_number : SgY := (7, yX7_number, cX7_number, 4, some .int)
set_option maxRecDepth 100000 in
theorem cw_T_number : Cond.code m_T_number.2.1 m_T_number.2.2.1 m_T_number.2.2.2.1 m_T_number.2.2.2.2 ∈ sg_GT := sg_inGT (List.mem_of_getElem? (i := 355) rfl) rfl
theorem cy_T_number : sg_CY m_T_number 2 := ⟨by decide +kernel, rfl, sg_inGT (List.mem_of_getElem? (i := 3) (by decide +kernel)) rfl, cw_T_number, ⟨by decide +kernel, by decide +kernel, by decide +kernel⟩, by decide⟩
theorem cv_T_number : sg_CV m_T_number 2 := ⟨cy_T_number, sg_inGT (List.mem_of_getElem? (i := 353) (by decide +kernel)) rfl, sg_inGT (List.mem_of_getElem? (i := 354) (by decide +kernel)) rfl⟩
def m_T_signs : SgY := (7, yX7_signs, cX7_signs, 2, some (.object "java/lang/String"))
set_option maxRecDepth 100000 in
theorem cw_T_signs : Cond.code m_T_signs.2.1 m_T_signs.2.2.1 m_T_signs.2.2.2.1 m_T_signs.2.2.2.2 ∈ sg_GT := sg_inGT (List.mem_of_getElem? (i := 252) rfl) rfl
theorem cy_T_signs : sg_CY m_T_signs 1 := ⟨by decide +kernel, rfl, sg_inGT (List.mem_of_getElem? (i := 3) (by decide +kernel)) rfl, cw_T_signs, ⟨by decide +kernel, by decide +kernel, by decide +kernel⟩, by decide⟩
theorem cv_T_signs : sg_CV m_T_signs 1 := ⟨cy_T_signs, sg_inGT (List.mem_of_getElem? (i := 251) (by decide +kernel)) rfl, sg_inP (List.mem_of_getElem? (i := 0) (by decide +kernel)) rfl⟩
def m_T_signsOfPerson : SgY := (7, yX7_signsOfPerson, cX7_signsOfPerson, 1, some (.object "java/lang/String"))
set_option maxRecDepth 100000 in
theorem cw_T_signsOfPerson : Cond.code m_T_signsOfPerson.2.1 m_T_signsOfPerson.2.2.1 m_T_signsOfPerson.2.2.2.1 m_T_signsOfPerson.2.2.2.2 ∈ sg_GT := sg_inGT (List.mem_of_getElem? (i := 261) rfl) rfl
theorem cy_T_signsOfPerson : sg_CY m_T_signsOfPerson 1 := ⟨by decide +kernel, rfl, sg_inGT (List.mem_of_getElem? (i := 3) (by decide +kernel)) rfl, cw_T_signsOfPerson, ⟨by decide +kernel, by decide +kernel, by decide +kernel⟩, by decide⟩
theorem cs_T_signsOfPerson : sg_CS m_T_signsOfPerson 1 := ⟨cy_T_signsOfPerson, sg_inGT (List.mem_of_getElem? (i := 260) (by decide +kernel)) rfl⟩
def m_T_signsOfPost : SgY := (7, yX7_signsOfPost, cX7_signsOfPost, 1, some (.object "java/lang/String"))
set_option maxRecDepth 100000 in
theorem cw_T_signsOfPost : Cond.code m_T_signsOfPost.2.1 m_T_signsOfPost.2.2.1 m_T_signsOfPost.2.2.2.1 m_T_signsOfPost.2.2.2.2 ∈ sg_GT := sg_inGT (List.mem_of_getElem? (i := 255) rfl) rfl
theorem cy_T_signsOfPost : sg_CY m_T_signsOfPost 1 := ⟨by decide +kernel, rfl, sg_inGT (List.mem_of_getElem? (i := 3) (by decide +kernel)) rfl, cw_T_signsOfPost, ⟨by decide +kernel, by decide +kernel, by decide +kernel⟩, by decide⟩
theorem cs_T_signsOfPost : sg_CS m_T_signsOfPost 1 := ⟨cy_T_signsOfPost, sg_inGT (List.mem_of_getElem? (i := 254) (by decide +kernel)) rfl⟩
def m_T_things : SgY := (7, yX7_things, cX7_things, 1, some .int)
set_option maxRecDepth 100000 in
theorem cw_T_things : Cond.code m_T_things.2.1 m_T_things.2.2.1 m_T_things.2.2.2.1 m_T_things.2.2.2.2 ∈ sg_GT := sg_inGT (List.mem_of_getElem? (i := 244) rfl) rfl
theorem cy_T_things : sg_CY m_T_things 0 := ⟨by decide +kernel, rfl, sg_inGT (List.mem_of_getElem? (i := 3) (by decide +kernel)) rfl, cw_T_things, ⟨by decide +kernel, by decide +kernel, by decide +kernel⟩, by decide⟩
theorem cv_T_things : sg_CV m_T_things 0 := ⟨cy_T_things, sg_inGT (List.mem_of_getElem? (i := 242) (by decide +kernel)) rfl, sg_inGT (List.mem_of_getElem? (i := 243) (by decide +kernel)) rfl⟩
def m_W_hearersByDistance : SgY := (8, yX8_hearersByDistance, cX8_hearersByDistance, 5, some .int)
set_option maxRecDepth 100000 in
theorem cw_W_hearersByDistance : Cond.code m_W_hearersByDistance.2.1 m_W_hearersByDistance.2.2.1 m_W_hearersByDistance.2.2.2.1 m_W_hearersByDistance.2.2.2.2 ∈ sg_GT := sg_inGT (List.mem_of_getElem? (i := 364) rfl) rfl
theorem cy_W_hearersByDistance : sg_CY m_W_hearersByDistance 2 := ⟨by decide +kernel, rfl, sg_inGT (List.mem_of_getElem? (i := 4) (by decide +kernel)) rfl, cw_W_hearersByDistance, ⟨by decide +kernel, by decide +kernel, by decide +kernel⟩, by decide⟩
theorem cv_W_hearersByDistance : sg_CV m_W_hearersByDistance 2 := ⟨cy_W_hearersByDistance, sg_inGT (List.mem_of_getElem? (i := 363) (by decide +kernel)) rfl, sg_inP (List.mem_of_getElem? (i := 1) (by decide +kernel)) rfl⟩
def m_W_hearersOf : SgY := (8, yX8_hearersOf, cX8_hearersOf, 4, some .int)
set_option maxRecDepth 100000 in
theorem cw_W_hearersOf : Cond.code m_W_hearersOf.2.1 m_W_hearersOf.2.2.1 m_W_hearersOf.2.2.2.1 m_W_hearersOf.2.2.2.2 ∈ sg_GT := sg_inGT (List.mem_of_getElem? (i := 424) rfl) rfl
theorem cy_W_hearersOf : sg_CY m_W_hearersOf 2 := ⟨by decide +kernel, rfl, sg_inGT (List.mem_of_getElem? (i := 4) (by decide +kernel)) rfl, cw_W_hearersOf, ⟨by decide +kernel, by decide +kernel, by decide +kernel⟩, by decide⟩
theorem cv_W_hearersOf : sg_CV m_W_hearersOf 2 := ⟨cy_W_hearersOf, sg_inGT (List.mem_of_getElem? (i := 422) (by decide +kernel)) rfl, sg_inGT (List.mem_of_getElem? (i := 423) (by decide +kernel)) rfl⟩
def m_W_loadPeople : SgY := (8, yX8_loadPeople, cX8_loadPeople, 3, none)
set_option maxRecDepth 100000 in
theorem cw_W_loadPeople : Cond.code m_W_loadPeople.2.1 m_W_loadPeople.2.2.1 m_W_loadPeople.2.2.2.1 m_W_loadPeople.2.2.2.2 ∈ sg_GT := sg_inGT (List.mem_of_getElem? (i := 371) rfl) rfl
theorem cy_W_loadPeople : sg_CY m_W_loadPeople 1 := ⟨by decide +kernel, rfl, sg_inGT (List.mem_of_getElem? (i := 4) (by decide +kernel)) rfl, cw_W_loadPeople, ⟨by decide +kernel, by decide +kernel, by decide +kernel⟩, by decide⟩
theorem cv_W_loadPeople : sg_CV m_W_loadPeople 1 := ⟨cy_W_loadPeople, sg_inGT (List.mem_of_getElem? (i := 369) (by decide +kernel)) rfl, sg_inGT (List.mem_of_getElem? (i := 370) (by decide +kernel)) rfl⟩
def m_W_loadPosts : SgY := (8, yX8_loadPosts, cX8_loadPosts, 4, none)
set_option maxRecDepth 100000 in
theorem cw_W_loadPosts : Cond.code m_W_loadPosts.2.1 m_W_loadPosts.2.2.1 m_W_loadPosts.2.2.2.1 m_W_loadPosts.2.2.2.2 ∈ sg_GT := sg_inGT (List.mem_of_getElem? (i := 240) rfl) rfl
theorem cy_W_loadPosts : sg_CY m_W_loadPosts 1 := ⟨by decide +kernel, rfl, sg_inGT (List.mem_of_getElem? (i := 4) (by decide +kernel)) rfl, cw_W_loadPosts, ⟨by decide +kernel, by decide +kernel, by decide +kernel⟩, by decide⟩
theorem cv_W_loadPosts : sg_CV m_W_loadPosts 1 := ⟨cy_W_loadPosts, sg_inGT (List.mem_of_getElem? (i := 238) (by decide +kernel)) rfl, sg_inGT (List.mem_of_getElem? (i := 239) (by decide +kernel)) rfl⟩
def m_Y_add : SgY := (9, yX9_add, cX9_add, 4, none)
set_option maxRecDepth 100000 in
theorem cw_Y_add : Cond.code m_Y_add.2.1 m_Y_add.2.2.1 m_Y_add.2.2.2.1 m_Y_add.2.2.2.2 ∈ sg_GT := sg_inGT (List.mem_of_getElem? (i := 391) rfl) rfl
theorem cy_Y_add : sg_CY m_Y_add 3 := ⟨by decide +kernel, rfl, sg_inGT (List.mem_of_getElem? (i := 6) (by decide +kernel)) rfl, cw_Y_add, ⟨by decide +kernel, by decide +kernel, by decide +kernel⟩, by decide⟩
theorem cv_Y_add : sg_CV m_Y_add 3 := ⟨cy_Y_add, sg_inGT (List.mem_of_getElem? (i := 390) (by decide +kernel)) rfl, sg_inP (List.mem_of_getElem? (i := 2) (by decide +kernel)) rfl⟩
def m_Y_load : SgY := (9, yX9_load, cX9_load, 4, none)
set_option maxRecDepth 100000 in
theorem cw_Y_load : Cond.code m_Y_load.2.1 m_Y_load.2.2.1 m_Y_load.2.2.2.1 m_Y_load.2.2.2.2 ∈ sg_GT := sg_inGT (List.mem_of_getElem? (i := 383) rfl) rfl
theorem cy_Y_load : sg_CY m_Y_load 2 := ⟨by decide +kernel, rfl, sg_inGT (List.mem_of_getElem? (i := 6) (by decide +kernel)) rfl, cw_Y_load, ⟨by decide +kernel, by decide +kernel, by decide +kernel⟩, by decide⟩
theorem cv_Y_load : sg_CV m_Y_load 2 := ⟨cy_Y_load, sg_inGT (List.mem_of_getElem? (i := 381) (by decide +kernel)) rfl, sg_inGT (List.mem_of_getElem? (i := 382) (by decide +kernel)) rfl⟩
def m_Z_drop : SgY := (6, yX6_drop, cX6_drop, 3, some .int)
set_option maxRecDepth 100000 in
theorem cw_Z_drop : Cond.code m_Z_drop.2.1 m_Z_drop.2.2.1 m_Z_drop.2.2.2.1 m_Z_drop.2.2.2.2 ∈ sg_GT := sg_inGT (List.mem_of_getElem? (i := 885) rfl) rfl
theorem cy_Z_drop : sg_CY m_Z_drop 1 := ⟨by decide +kernel, rfl, sg_inGT (List.mem_of_getElem? (i := 19) (by decide +kernel)) rfl, cw_Z_drop, ⟨by decide +kernel, by decide +kernel, by decide +kernel⟩, by decide⟩
theorem cv_Z_drop : sg_CV m_Z_drop 1 := ⟨cy_Z_drop, sg_inGT (List.mem_of_getElem? (i := 883) (by decide +kernel)) rfl, sg_inGT (List.mem_of_getElem? (i := 884) (by decide +kernel)) rfl⟩
def m_Z_found : SgY := (6, yX6_found, cX6_found, 2, some .int)
set_option maxRecDepth 100000 in
theorem cw_Z_found : Cond.code m_Z_found.2.1 m_Z_found.2.2.1 m_Z_found.2.2.2.1 m_Z_found.2.2.2.2 ∈ sg_GT := sg_inGT (List.mem_of_getElem? (i := 677) rfl) rfl
theorem cy_Z_found : sg_CY m_Z_found 1 := ⟨by decide +kernel, rfl, sg_inGT (List.mem_of_getElem? (i := 19) (by decide +kernel)) rfl, cw_Z_found, ⟨by decide +kernel, by decide +kernel, by decide +kernel⟩, by decide⟩
theorem cv_Z_found : sg_CV m_Z_found 1 := ⟨cy_Z_found, sg_inGT (List.mem_of_getElem? (i := 676) (by decide +kernel)) rfl, sg_inP (List.mem_of_getElem? (i := 12) (by decide +kernel)) rfl⟩
def m_Z_hasRoom : SgY := (6, yX6_hasRoom, cX6_hasRoom, 3, some .boolean)
set_option maxRecDepth 100000 in
theorem cw_Z_hasRoom : Cond.code m_Z_hasRoom.2.1 m_Z_hasRoom.2.2.1 m_Z_hasRoom.2.2.2.1 m_Z_hasRoom.2.2.2.2 ∈ sg_GT := sg_inGT (List.mem_of_getElem? (i := 914) rfl) rfl
theorem cy_Z_hasRoom : sg_CY m_Z_hasRoom 3 := ⟨by decide +kernel, rfl, sg_inGT (List.mem_of_getElem? (i := 19) (by decide +kernel)) rfl, cw_Z_hasRoom, ⟨by decide +kernel, by decide +kernel, by decide +kernel⟩, by decide⟩
theorem cs_Z_hasRoom : sg_CS m_Z_hasRoom 3 := ⟨cy_Z_hasRoom, sg_inGT (List.mem_of_getElem? (i := 913) (by decide +kernel)) rfl⟩
def m_Z_item : SgY := (6, yX6_item, cX6_item, 3, some .int)
set_option maxRecDepth 100000 in
theorem cw_Z_item : Cond.code m_Z_item.2.1 m_Z_item.2.2.1 m_Z_item.2.2.2.1 m_Z_item.2.2.2.2 ∈ sg_GT := sg_inGT (List.mem_of_getElem? (i := 685) rfl) rfl
theorem cy_Z_item : sg_CY m_Z_item 2 := ⟨by decide +kernel, rfl, sg_inGT (List.mem_of_getElem? (i := 19) (by decide +kernel)) rfl, cw_Z_item, ⟨by decide +kernel, by decide +kernel, by decide +kernel⟩, by decide⟩
theorem cv_Z_item : sg_CV m_Z_item 2 := ⟨cy_Z_item, sg_inGT (List.mem_of_getElem? (i := 683) (by decide +kernel)) rfl, sg_inGT (List.mem_of_getElem? (i := 684) (by decide +kernel)) rfl⟩
def m_Z_lengthOf : SgY := (6, yX6_lengthOf, cX6_lengthOf, 2, some .int)
set_option maxRecDepth 100000 in
theorem cw_Z_lengthOf : Cond.code m_Z_lengthOf.2.1 m_Z_lengthOf.2.2.1 m_Z_lengthOf.2.2.2.1 m_Z_lengthOf.2.2.2.2 ∈ sg_GT := sg_inGT (List.mem_of_getElem? (i := 681) rfl) rfl
theorem cy_Z_lengthOf : sg_CY m_Z_lengthOf 1 := ⟨by decide +kernel, rfl, sg_inGT (List.mem_of_getElem? (i := 19) (by decide +kernel)) rfl, cw_Z_lengthOf, ⟨by decide +kernel, by decide +kernel, by decide +kernel⟩, by decide⟩
theorem cv_Z_lengthOf : sg_CV m_Z_lengthOf 1 := ⟨cy_Z_lengthOf, sg_inGT (List.mem_of_getElem? (i := 679) (by decide +kernel)) rfl, sg_inGT (List.mem_of_getElem? (i := 680) (by decide +kernel)) rfl⟩
def m_Z_make : SgY := (6, yX6_make, cX6_make, 4, some .int)
set_option maxRecDepth 100000 in
theorem cw_Z_make : Cond.code m_Z_make.2.1 m_Z_make.2.2.1 m_Z_make.2.2.2.1 m_Z_make.2.2.2.2 ∈ sg_GT := sg_inGT (List.mem_of_getElem? (i := 877) rfl) rfl
theorem cy_Z_make : sg_CY m_Z_make 3 := ⟨by decide +kernel, rfl, sg_inGT (List.mem_of_getElem? (i := 19) (by decide +kernel)) rfl, cw_Z_make, ⟨by decide +kernel, by decide +kernel, by decide +kernel⟩, by decide⟩
theorem cv_Z_make : sg_CV m_Z_make 3 := ⟨cy_Z_make, sg_inGT (List.mem_of_getElem? (i := 875) (by decide +kernel)) rfl, sg_inGT (List.mem_of_getElem? (i := 876) (by decide +kernel)) rfl⟩
def m_Z_move : SgY := (6, yX6_move, cX6_move, 6, some .int)
set_option maxRecDepth 100000 in
theorem cw_Z_move : Cond.code m_Z_move.2.1 m_Z_move.2.2.1 m_Z_move.2.2.2.1 m_Z_move.2.2.2.2 ∈ sg_GT := sg_inGT (List.mem_of_getElem? (i := 911) rfl) rfl
theorem cy_Z_move : sg_CY m_Z_move 5 := ⟨by decide +kernel, rfl, sg_inGT (List.mem_of_getElem? (i := 19) (by decide +kernel)) rfl, cw_Z_move, ⟨by decide +kernel, by decide +kernel, by decide +kernel⟩, by decide⟩
theorem cv_Z_move : sg_CV m_Z_move 5 := ⟨cy_Z_move, sg_inGT (List.mem_of_getElem? (i := 909) (by decide +kernel)) rfl, sg_inGT (List.mem_of_getElem? (i := 910) (by decide +kernel)) rfl⟩
def m_Z_put : SgY := (6, yX6_put, cX6_put, 4, none)
set_option maxRecDepth 100000 in
theorem cw_Z_put : Cond.code m_Z_put.2.1 m_Z_put.2.2.1 m_Z_put.2.2.2.1 m_Z_put.2.2.2.2 ∈ sg_GT := sg_inGT (List.mem_of_getElem? (i := 898) rfl) rfl
theorem cy_Z_put : sg_CY m_Z_put 3 := ⟨by decide +kernel, rfl, sg_inGT (List.mem_of_getElem? (i := 19) (by decide +kernel)) rfl, cw_Z_put, ⟨by decide +kernel, by decide +kernel, by decide +kernel⟩, by decide⟩
theorem cv_Z_put : sg_CV m_Z_put 3 := ⟨cy_Z_put, sg_inGT (List.mem_of_getElem? (i := 896) (by decide +kernel)) rfl, sg_inGT (List.mem_of_getElem? (i := 897) (by decide +kernel)) rfl⟩
def m_Z_refusalOf : SgY := (6, yX6_refusalOf, cX6_refusalOf, 2, some .int)
set_option maxRecDepth 100000 in
theorem cw_Z_refusalOf : Cond.code m_Z_refusalOf.2.1 m_Z_refusalOf.2.2.1 m_Z_refusalOf.2.2.2.1 m_Z_refusalOf.2.2.2.2 ∈ sg_GT := sg_inGT (List.mem_of_getElem? (i := 672) rfl) rfl
theorem cy_Z_refusalOf : sg_CY m_Z_refusalOf 1 := ⟨by decide +kernel, rfl, sg_inGT (List.mem_of_getElem? (i := 19) (by decide +kernel)) rfl, cw_Z_refusalOf, ⟨by decide +kernel, by decide +kernel, by decide +kernel⟩, by decide⟩
theorem cv_Z_refusalOf : sg_CV m_Z_refusalOf 1 := ⟨cy_Z_refusalOf, sg_inGT (List.mem_of_getElem? (i := 670) (by decide +kernel)) rfl, sg_inGT (List.mem_of_getElem? (i := 671) (by decide +kernel)) rfl⟩
def m_Z_refusalOfItem : SgY := (6, yX6_refusalOfItem, cX6_refusalOfItem, 4, some .int)
set_option maxRecDepth 100000 in
theorem cw_Z_refusalOfItem : Cond.code m_Z_refusalOfItem.2.1 m_Z_refusalOfItem.2.2.1 m_Z_refusalOfItem.2.2.2.1 m_Z_refusalOfItem.2.2.2.2 ∈ sg_GT := sg_inGT (List.mem_of_getElem? (i := 894) rfl) rfl
theorem cy_Z_refusalOfItem : sg_CY m_Z_refusalOfItem 3 := ⟨by decide +kernel, rfl, sg_inGT (List.mem_of_getElem? (i := 19) (by decide +kernel)) rfl, cw_Z_refusalOfItem, ⟨by decide +kernel, by decide +kernel, by decide +kernel⟩, by decide⟩
theorem cv_Z_refusalOfItem : sg_CV m_Z_refusalOfItem 3 := ⟨cy_Z_refusalOfItem, sg_inGT (List.mem_of_getElem? (i := 892) (by decide +kernel)) rfl, sg_inGT (List.mem_of_getElem? (i := 893) (by decide +kernel)) rfl⟩
theorem ml_4_60 : sg_ML 4 60 m_K_tellAnew := sg_inGT (List.mem_of_getElem? (i := 233) (by decide +kernel)) rfl
theorem ml_4_63 : sg_ML 4 63 m_W_loadPosts := sg_inGT (List.mem_of_getElem? (i := 237) (by decide +kernel)) rfl
theorem ml_8_33 : sg_ML 8 33 m_T_things := sg_inGT (List.mem_of_getElem? (i := 241) (by decide +kernel)) rfl
theorem ml_7_36 : sg_ML 7 36 m_T_firstFault := sg_inGT (List.mem_of_getElem? (i := 245) (by decide +kernel)) rfl
theorem ml_7_26 : sg_ML 7 26 m_T_signs := sg_inGT (List.mem_of_getElem? (i := 249) (by decide +kernel)) rfl
theorem ml_7_44 : sg_ML 7 44 m_T_signsOfPost := sg_inGT (List.mem_of_getElem? (i := 253) (by decide +kernel)) rfl
theorem ml_7_47 : sg_ML 7 47 m_T_signsOfPerson := sg_inGT (List.mem_of_getElem? (i := 259) (by decide +kernel)) rfl
theorem ml_7_30 : sg_ML 7 30 m_S_indexOf1 := sg_inGT (List.mem_of_getElem? (i := 265) (by decide +kernel)) rfl
theorem ml_20_633 : sg_ML 20 633 m_S_indexOf2 := sg_inGT (List.mem_of_getElem? (i := 269) (by decide +kernel)) rfl
theorem ml_20_492 : sg_ML 20 492 m_S_isLatin1 := sg_inGT (List.mem_of_getElem? (i := 273) (by decide +kernel)) rfl
theorem ml_20_505 : sg_ML 20 505 m_S_length := sg_inGT (List.mem_of_getElem? (i := 279) (by decide +kernel)) rfl
theorem ml_20_335 : sg_ML 20 335 m_S_coder := sg_inGT (List.mem_of_getElem? (i := 283) (by decide +kernel)) rfl
theorem ml_20_637 : sg_ML 20 637 m_L_indexOf := sg_inGT (List.mem_of_getElem? (i := 287) (by decide +kernel)) rfl
theorem ml_21_88 : sg_ML 21 88 m_L_canEncode := sg_inGT (List.mem_of_getElem? (i := 290) (by decide +kernel)) rfl
theorem mx_21_92 : Cond.methodLink (sg_cn 21) 92 Lib.Math.max.name ∈ sg_GT := sg_inGT (List.mem_of_getElem? (i := 293) (by decide +kernel)) rfl
theorem mx_21_38 : Cond.methodLink (sg_cn 21) 38 Lib.Math.min.name ∈ sg_GT := sg_inGT (List.mem_of_getElem? (i := 296) (by decide +kernel)) rfl
theorem ml_21_95 : sg_ML 21 95 m_L_indexOfChar := sg_inGT (List.mem_of_getElem? (i := 299) (by decide +kernel)) rfl
theorem mx_8_39 : Cond.methodLink (sg_cn 8) 39 Lib.Math.min.name ∈ sg_GT := sg_inGT (List.mem_of_getElem? (i := 351) (by decide +kernel)) rfl
theorem ml_8_49 : sg_ML 8 49 m_T_number := sg_inGT (List.mem_of_getElem? (i := 352) (by decide +kernel)) rfl
theorem ml_8_55 : sg_ML 8 55 m_W_hearersByDistance := sg_inGT (List.mem_of_getElem? (i := 361) (by decide +kernel)) rfl
theorem mx_8_61 : Cond.methodLink (sg_cn 8) 61 Lib.Math.abs.name ∈ sg_GT := sg_inGT (List.mem_of_getElem? (i := 365) (by decide +kernel)) rfl
theorem ml_4_67 : sg_ML 4 67 m_W_loadPeople := sg_inGT (List.mem_of_getElem? (i := 368) (by decide +kernel)) rfl
theorem ml_4_70 : sg_ML 4 70 m_K_clearWeather := sg_inGT (List.mem_of_getElem? (i := 372) (by decide +kernel)) rfl
theorem ml_4_82 : sg_ML 4 82 m_E_everyBit := sg_inGT (List.mem_of_getElem? (i := 376) (by decide +kernel)) rfl
theorem ml_4_86 : sg_ML 4 86 m_Y_load := sg_inGT (List.mem_of_getElem? (i := 380) (by decide +kernel)) rfl
theorem ml_9_44 : sg_ML 9 44 m_Y_add := sg_inGT (List.mem_of_getElem? (i := 388) (by decide +kernel)) rfl
theorem ml_4_73 : sg_ML 4 73 m_A_fill := sg_inGT (List.mem_of_getElem? (i := 392) (by decide +kernel)) rfl
theorem ml_4_79 : sg_ML 4 79 m_D_pass := sg_inGT (List.mem_of_getElem? (i := 395) (by decide +kernel)) rfl
theorem ml_1_50 : sg_ML 1 50 m_D_begin := sg_inGT (List.mem_of_getElem? (i := 399) (by decide +kernel)) rfl
theorem ml_1_80 : sg_ML 1 80 m_A_fill := sg_inGT (List.mem_of_getElem? (i := 403) (by decide +kernel)) rfl
theorem ml_1_53 : sg_ML 1 53 m_D_walk := sg_inGT (List.mem_of_getElem? (i := 404) (by decide +kernel)) rfl
theorem ml_1_57 : sg_ML 1 57 m_D_sneeze := sg_inGT (List.mem_of_getElem? (i := 409) (by decide +kernel)) rfl
theorem ml_1_117 : sg_ML 1 117 m_D_divides := sg_inGT (List.mem_of_getElem? (i := 414) (by decide +kernel)) rfl
theorem ml_1_60 : sg_ML 1 60 m_D_changeGuard := sg_inGT (List.mem_of_getElem? (i := 417) (by decide +kernel)) rfl
theorem ml_1_126 : sg_ML 1 126 m_W_hearersOf := sg_inGT (List.mem_of_getElem? (i := 421) (by decide +kernel)) rfl
theorem ml_1_130 : sg_ML 1 130 m_I_bitCount := sg_inGT (List.mem_of_getElem? (i := 425) (by decide +kernel)) rfl
theorem ml_1_63 : sg_ML 1 63 m_D_stand := sg_inGT (List.mem_of_getElem? (i := 431) (by decide +kernel)) rfl
theorem ml_1_66 : sg_ML 1 66 m_D_spreadColds := sg_inGT (List.mem_of_getElem? (i := 435) (by decide +kernel)) rfl
theorem ml_1_139 : sg_ML 1 139 m_D_othersInCellOf := sg_inGT (List.mem_of_getElem? (i := 439) (by decide +kernel)) rfl
theorem ml_6_23 : sg_ML 6 23 m_A_fill := sg_inGT (List.mem_of_getElem? (i := 567) (by decide +kernel)) rfl
theorem ml_30_13 : sg_ML 30 13 m_G_type := sg_inGT (List.mem_of_getElem? (i := 598) (by decide +kernel)) rfl
theorem ml_10_46 : sg_ML 10 46 m_G_isBelow := sg_inGT (List.mem_of_getElem? (i := 602) (by decide +kernel)) rfl
theorem ml_10_50 : sg_ML 10 50 m_K_textOf := sg_inGT (List.mem_of_getElem? (i := 603) (by decide +kernel)) rfl
theorem ml_10_54 : sg_ML 10 54 m_T_add := sg_inGT (List.mem_of_getElem? (i := 607) (by decide +kernel)) rfl
theorem ml_10_60 : sg_ML 10 60 m_K_tellAnew := sg_inGT (List.mem_of_getElem? (i := 611) (by decide +kernel)) rfl
theorem ml_30_18 : sg_ML 30 18 m_G_wipe := sg_inGT (List.mem_of_getElem? (i := 612) (by decide +kernel)) rfl
theorem ml_10_63 : sg_ML 10 63 m_T_clear := sg_inGT (List.mem_of_getElem? (i := 616) (by decide +kernel)) rfl
theorem ml_30_23 : sg_ML 30 23 m_G_undo := sg_inGT (List.mem_of_getElem? (i := 620) (by decide +kernel)) rfl
theorem ml_10_67 : sg_ML 10 67 m_T_dropLast := sg_inGT (List.mem_of_getElem? (i := 624) (by decide +kernel)) rfl
theorem ml_30_27 : sg_ML 30 27 m_G_fault := sg_inGT (List.mem_of_getElem? (i := 628) (by decide +kernel)) rfl
theorem ml_10_70 : sg_ML 10 70 m_T_firstFault := sg_inGT (List.mem_of_getElem? (i := 632) (by decide +kernel)) rfl
theorem ml_30_31 : sg_ML 30 31 m_G_post := sg_inGT (List.mem_of_getElem? (i := 633) (by decide +kernel)) rfl
theorem ml_10_73 : sg_ML 10 73 m_G_isPost := sg_inGT (List.mem_of_getElem? (i := 637) (by decide +kernel)) rfl
theorem ml_30_35 : sg_ML 30 35 m_G_person := sg_inGT (List.mem_of_getElem? (i := 641) (by decide +kernel)) rfl
theorem ml_10_90 : sg_ML 10 90 m_G_isPerson := sg_inGT (List.mem_of_getElem? (i := 645) (by decide +kernel)) rfl
theorem ml_30_39 : sg_ML 30 39 m_G_event := sg_inGT (List.mem_of_getElem? (i := 649) (by decide +kernel)) rfl
theorem ml_10_105 : sg_ML 10 105 m_E_mayBe := sg_inGT (List.mem_of_getElem? (i := 653) (by decide +kernel)) rfl
theorem ml_10_115 : sg_ML 10 115 m_E_add := sg_inGT (List.mem_of_getElem? (i := 657) (by decide +kernel)) rfl
theorem ml_30_44 : sg_ML 30 44 m_G_back := sg_inGT (List.mem_of_getElem? (i := 661) (by decide +kernel)) rfl
theorem ml_30_49 : sg_ML 30 49 m_G_read := sg_inGT (List.mem_of_getElem? (i := 665) (by decide +kernel)) rfl
theorem ml_10_120 : sg_ML 10 120 m_Z_refusalOf := sg_inGT (List.mem_of_getElem? (i := 669) (by decide +kernel)) rfl
theorem ml_6_33 : sg_ML 6 33 m_Z_found := sg_inGT (List.mem_of_getElem? (i := 674) (by decide +kernel)) rfl
theorem ml_10_123 : sg_ML 10 123 m_Z_lengthOf := sg_inGT (List.mem_of_getElem? (i := 678) (by decide +kernel)) rfl
theorem ml_10_126 : sg_ML 10 126 m_Z_item := sg_inGT (List.mem_of_getElem? (i := 682) (by decide +kernel)) rfl
theorem ml_6_50 : sg_ML 6 50 m_Z_lengthOf := sg_inGT (List.mem_of_getElem? (i := 686) (by decide +kernel)) rfl
theorem ml_30_53 : sg_ML 30 53 m_G_at := sg_inGT (List.mem_of_getElem? (i := 687) (by decide +kernel)) rfl
theorem ml_10_140 : sg_ML 10 140 m_G_timesOfBit := sg_inGT (List.mem_of_getElem? (i := 691) (by decide +kernel)) rfl
theorem ml_30_57 : sg_ML 30 57 m_G_stood := sg_inGT (List.mem_of_getElem? (i := 694) (by decide +kernel)) rfl
theorem ml_10_151 : sg_ML 10 151 m_D_changerOf := sg_inGT (List.mem_of_getElem? (i := 698) (by decide +kernel)) rfl
theorem ml_30_61 : sg_ML 30 61 m_G_changes := sg_inGT (List.mem_of_getElem? (i := 702) (by decide +kernel)) rfl
theorem ml_30_65 : sg_ML 30 65 m_G_forgotten := sg_inGT (List.mem_of_getElem? (i := 706) (by decide +kernel)) rfl
theorem ml_30_69 : sg_ML 30 69 m_G_longest := sg_inGT (List.mem_of_getElem? (i := 710) (by decide +kernel)) rfl
theorem ml_30_73 : sg_ML 30 73 m_G_all := sg_inGT (List.mem_of_getElem? (i := 714) (by decide +kernel)) rfl
theorem ml_30_77 : sg_ML 30 77 m_G_busy := sg_inGT (List.mem_of_getElem? (i := 718) (by decide +kernel)) rfl
theorem ml_10_169 : sg_ML 10 169 m_D_busiest := sg_inGT (List.mem_of_getElem? (i := 722) (by decide +kernel)) rfl
theorem ml_30_81 : sg_ML 30 81 m_G_quiet := sg_inGT (List.mem_of_getElem? (i := 726) (by decide +kernel)) rfl
theorem ml_10_172 : sg_ML 10 172 m_D_silent := sg_inGT (List.mem_of_getElem? (i := 730) (by decide +kernel)) rfl
theorem ml_30_85 : sg_ML 30 85 m_G_stroll := sg_inGT (List.mem_of_getElem? (i := 734) (by decide +kernel)) rfl
theorem ml_10_175 : sg_ML 10 175 m_P_planStroll := sg_inGT (List.mem_of_getElem? (i := 738) (by decide +kernel)) rfl
theorem ml_5_41 : sg_ML 5 41 m_D_pass := sg_inGT (List.mem_of_getElem? (i := 742) (by decide +kernel)) rfl
theorem ml_30_89 : sg_ML 30 89 m_G_dust := sg_inGT (List.mem_of_getElem? (i := 743) (by decide +kernel)) rfl
theorem ml_10_185 : sg_ML 10 185 m_P_planDust := sg_inGT (List.mem_of_getElem? (i := 747) (by decide +kernel)) rfl
theorem ml_30_93 : sg_ML 30 93 m_G_hush := sg_inGT (List.mem_of_getElem? (i := 751) (by decide +kernel)) rfl
theorem ml_10_188 : sg_ML 10 188 m_P_planHush := sg_inGT (List.mem_of_getElem? (i := 755) (by decide +kernel)) rfl
theorem ml_30_97 : sg_ML 30 97 m_G_spare := sg_inGT (List.mem_of_getElem? (i := 759) (by decide +kernel)) rfl
theorem ml_10_191 : sg_ML 10 191 m_P_planSpare := sg_inGT (List.mem_of_getElem? (i := 763) (by decide +kernel)) rfl
theorem ml_5_67 : sg_ML 5 67 m_P_setSpare := sg_inGT (List.mem_of_getElem? (i := 767) (by decide +kernel)) rfl
theorem ml_5_81 : sg_ML 5 81 m_E_everyBit := sg_inGT (List.mem_of_getElem? (i := 771) (by decide +kernel)) rfl
theorem ml_5_89 : sg_ML 5 89 m_K_forgottenWith := sg_inGT (List.mem_of_getElem? (i := 772) (by decide +kernel)) rfl
theorem ml_30_101 : sg_ML 30 101 m_G_seen := sg_inGT (List.mem_of_getElem? (i := 777) (by decide +kernel)) rfl
theorem ml_10_200 : sg_ML 10 200 m_H_see := sg_inGT (List.mem_of_getElem? (i := 781) (by decide +kernel)) rfl
theorem ml_30_105 : sg_ML 30 105 m_G_forget := sg_inGT (List.mem_of_getElem? (i := 785) (by decide +kernel)) rfl
theorem ml_30_109 : sg_ML 30 109 m_G_never := sg_inGT (List.mem_of_getElem? (i := 789) (by decide +kernel)) rfl
theorem ml_10_207 : sg_ML 10 207 m_H_needless := sg_inGT (List.mem_of_getElem? (i := 793) (by decide +kernel)) rfl
theorem ml_3_44 : sg_ML 3 44 m_E_everyBit := sg_inGT (List.mem_of_getElem? (i := 797) (by decide +kernel)) rfl
theorem ml_3_48 : sg_ML 3 48 m_K_supposeEvents := sg_inGT (List.mem_of_getElem? (i := 798) (by decide +kernel)) rfl
theorem ml_3_52 : sg_ML 3 52 m_H_comesOutSo := sg_inGT (List.mem_of_getElem? (i := 802) (by decide +kernel)) rfl
theorem ml_30_113 : sg_ML 30 113 m_G_was := sg_inGT (List.mem_of_getElem? (i := 806) (by decide +kernel)) rfl
theorem ml_10_210 : sg_ML 10 210 m_H_sortsOf := sg_inGT (List.mem_of_getElem? (i := 810) (by decide +kernel)) rfl
theorem ml_3_69 : sg_ML 3 69 m_D_pass := sg_inGT (List.mem_of_getElem? (i := 814) (by decide +kernel)) rfl
theorem ml_10_213 : sg_ML 10 213 m_H_coldsOf := sg_inGT (List.mem_of_getElem? (i := 815) (by decide +kernel)) rfl
theorem ml_30_117 : sg_ML 30 117 m_G_ask := sg_inGT (List.mem_of_getElem? (i := 822) (by decide +kernel)) rfl
theorem ml_10_216 : sg_ML 10 216 m_H_hourToAsk := sg_inGT (List.mem_of_getElem? (i := 826) (by decide +kernel)) rfl
theorem ml_3_86 : sg_ML 3 86 m_H_coldsOf := sg_inGT (List.mem_of_getElem? (i := 830) (by decide +kernel)) rfl
theorem ml_3_90 : sg_ML 3 90 m_H_mostAlike := sg_inGT (List.mem_of_getElem? (i := 831) (by decide +kernel)) rfl
theorem mx_3_98 : Cond.methodLink (sg_cn 3) 98 Lib.Math.max.name ∈ sg_GT := sg_inGT (List.mem_of_getElem? (i := 836) (by decide +kernel)) rfl
theorem ml_30_121 : sg_ML 30 121 m_G_chance := sg_inGT (List.mem_of_getElem? (i := 837) (by decide +kernel)) rfl
theorem ml_10_223 : sg_ML 10 223 m_C_fraction := sg_inGT (List.mem_of_getElem? (i := 842) (by decide +kernel)) rfl
theorem ml_0_34 : sg_ML 0 34 m_C_weigh := sg_inGT (List.mem_of_getElem? (i := 846) (by decide +kernel)) rfl
theorem ml_0_38 : sg_ML 0 38 m_E_everyBit := sg_inGT (List.mem_of_getElem? (i := 850) (by decide +kernel)) rfl
theorem ml_0_42 : sg_ML 0 42 m_I_bitCount := sg_inGT (List.mem_of_getElem? (i := 851) (by decide +kernel)) rfl
theorem ml_0_48 : sg_ML 0 48 m_K_forgottenWith := sg_inGT (List.mem_of_getElem? (i := 852) (by decide +kernel)) rfl
theorem ml_30_126 : sg_ML 30 126 m_G_decades := sg_inGT (List.mem_of_getElem? (i := 854) (by decide +kernel)) rfl
theorem ml_10_227 : sg_ML 10 227 m_C_dayByLots := sg_inGT (List.mem_of_getElem? (i := 858) (by decide +kernel)) rfl
theorem ml_0_58 : sg_ML 0 58 m_C_lotOf := sg_inGT (List.mem_of_getElem? (i := 862) (by decide +kernel)) rfl
theorem ml_0_61 : sg_ML 0 61 m_E_add := sg_inGT (List.mem_of_getElem? (i := 867) (by decide +kernel)) rfl
theorem ml_0_65 : sg_ML 0 65 m_K_supposeEvents := sg_inGT (List.mem_of_getElem? (i := 868) (by decide +kernel)) rfl
theorem ml_10_231 : sg_ML 10 231 m_I_bitCount := sg_inGT (List.mem_of_getElem? (i := 869) (by decide +kernel)) rfl
theorem ml_30_130 : sg_ML 30 130 m_G_sheet := sg_inGT (List.mem_of_getElem? (i := 870) (by decide +kernel)) rfl
theorem ml_10_236 : sg_ML 10 236 m_Z_make := sg_inGT (List.mem_of_getElem? (i := 874) (by decide +kernel)) rfl
theorem ml_30_134 : sg_ML 30 134 m_G_lose := sg_inGT (List.mem_of_getElem? (i := 878) (by decide +kernel)) rfl
theorem ml_10_239 : sg_ML 10 239 m_Z_drop := sg_inGT (List.mem_of_getElem? (i := 882) (by decide +kernel)) rfl
theorem ml_6_37 : sg_ML 6 37 m_Z_refusalOf := sg_inGT (List.mem_of_getElem? (i := 886) (by decide +kernel)) rfl
theorem ml_30_138 : sg_ML 30 138 m_G_lay := sg_inGT (List.mem_of_getElem? (i := 887) (by decide +kernel)) rfl
theorem ml_10_242 : sg_ML 10 242 m_Z_refusalOfItem := sg_inGT (List.mem_of_getElem? (i := 891) (by decide +kernel)) rfl
theorem ml_10_245 : sg_ML 10 245 m_Z_put := sg_inGT (List.mem_of_getElem? (i := 895) (by decide +kernel)) rfl
theorem ml_30_143 : sg_ML 30 143 m_G_get := sg_inGT (List.mem_of_getElem? (i := 899) (by decide +kernel)) rfl
theorem ml_30_147 : sg_ML 30 147 m_G_copy := sg_inGT (List.mem_of_getElem? (i := 904) (by decide +kernel)) rfl
theorem ml_10_250 : sg_ML 10 250 m_Z_move := sg_inGT (List.mem_of_getElem? (i := 908) (by decide +kernel)) rfl
theorem ml_6_40 : sg_ML 6 40 m_Z_hasRoom := sg_inGT (List.mem_of_getElem? (i := 912) (by decide +kernel)) rfl
theorem ml_30_152 : sg_ML 30 152 m_G_write := sg_inGT (List.mem_of_getElem? (i := 916) (by decide +kernel)) rfl
theorem mx_10_254 : Cond.methodLink (sg_cn 10) 254 Lib.Math.min.name ∈ sg_GT := sg_inGT (List.mem_of_getElem? (i := 920) (by decide +kernel)) rfl
theorem ml_30_156 : sg_ML 30 156 m_G_count := sg_inGT (List.mem_of_getElem? (i := 921) (by decide +kernel)) rfl
theorem ml_30_160 : sg_ML 30 160 m_G_digest := sg_inGT (List.mem_of_getElem? (i := 925) (by decide +kernel)) rfl
theorem ml_10_282 : sg_ML 10 282 m_G_count := sg_inGT (List.mem_of_getElem? (i := 931) (by decide +kernel)) rfl
theorem ml_10_285 : sg_ML 10 285 m_G_fault := sg_inGT (List.mem_of_getElem? (i := 932) (by decide +kernel)) rfl
theorem ml_10_288 : sg_ML 10 288 m_G_digestPost := sg_inGT (List.mem_of_getElem? (i := 933) (by decide +kernel)) rfl
theorem ml_10_301 : sg_ML 10 301 m_G_post := sg_inGT (List.mem_of_getElem? (i := 937) (by decide +kernel)) rfl
theorem ml_10_304 : sg_ML 10 304 m_G_digestHour := sg_inGT (List.mem_of_getElem? (i := 938) (by decide +kernel)) rfl
theorem ml_10_307 : sg_ML 10 307 m_G_stood := sg_inGT (List.mem_of_getElem? (i := 941) (by decide +kernel)) rfl
theorem ml_10_292 : sg_ML 10 292 m_G_digestPerson := sg_inGT (List.mem_of_getElem? (i := 942) (by decide +kernel)) rfl
theorem ml_10_309 : sg_ML 10 309 m_G_person := sg_inGT (List.mem_of_getElem? (i := 946) (by decide +kernel)) rfl
theorem ml_10_312 : sg_ML 10 312 m_G_at := sg_inGT (List.mem_of_getElem? (i := 947) (by decide +kernel)) rfl
theorem ml_10_315 : sg_ML 10 315 m_G_stroll := sg_inGT (List.mem_of_getElem? (i := 948) (by decide +kernel)) rfl
theorem ml_10_318 : sg_ML 10 318 m_G_was := sg_inGT (List.mem_of_getElem? (i := 949) (by decide +kernel)) rfl
theorem ml_10_295 : sg_ML 10 295 m_G_changes := sg_inGT (List.mem_of_getElem? (i := 950) (by decide +kernel)) rfl
theorem ml_10_297 : sg_ML 10 297 m_G_digestRest := sg_inGT (List.mem_of_getElem? (i := 951) (by decide +kernel)) rfl
theorem ml_10_321 : sg_ML 10 321 m_G_forgotten := sg_inGT (List.mem_of_getElem? (i := 955) (by decide +kernel)) rfl
theorem ml_10_323 : sg_ML 10 323 m_G_longest := sg_inGT (List.mem_of_getElem? (i := 956) (by decide +kernel)) rfl
theorem ml_10_325 : sg_ML 10 325 m_G_busy := sg_inGT (List.mem_of_getElem? (i := 957) (by decide +kernel)) rfl
theorem ml_10_328 : sg_ML 10 328 m_G_quiet := sg_inGT (List.mem_of_getElem? (i := 958) (by decide +kernel)) rfl
theorem ml_10_331 : sg_ML 10 331 m_G_dust := sg_inGT (List.mem_of_getElem? (i := 959) (by decide +kernel)) rfl
theorem ml_10_334 : sg_ML 10 334 m_G_hush := sg_inGT (List.mem_of_getElem? (i := 960) (by decide +kernel)) rfl
theorem ml_10_337 : sg_ML 10 337 m_G_spare := sg_inGT (List.mem_of_getElem? (i := 961) (by decide +kernel)) rfl
theorem ml_10_340 : sg_ML 10 340 m_G_never := sg_inGT (List.mem_of_getElem? (i := 962) (by decide +kernel)) rfl
theorem ml_10_343 : sg_ML 10 343 m_G_decades := sg_inGT (List.mem_of_getElem? (i := 963) (by decide +kernel)) rfl
theorem ml_30_133 : sg_ML 30 133 m_M_sheet := sg_inGT (List.mem_of_getElem? (i := 1082) (by decide +kernel)) rfl
theorem ml_11_107 : sg_ML 11 107 m_M_isSheet := sg_inGT (List.mem_of_getElem? (i := 1086) (by decide +kernel)) rfl
theorem ml_11_98 : sg_ML 11 98 m_M_in := sg_inGT (List.mem_of_getElem? (i := 1090) (by decide +kernel)) rfl
theorem ml_11_113 : sg_ML 11 113 m_M_finds := sg_inGT (List.mem_of_getElem? (i := 1094) (by decide +kernel)) rfl
theorem ml_30_137 : sg_ML 30 137 m_M_lose := sg_inGT (List.mem_of_getElem? (i := 1098) (by decide +kernel)) rfl
theorem ml_30_142 : sg_ML 30 142 m_M_lay := sg_inGT (List.mem_of_getElem? (i := 1102) (by decide +kernel)) rfl
theorem ml_11_117 : sg_ML 11 117 m_M_lacks := sg_inGT (List.mem_of_getElem? (i := 1106) (by decide +kernel)) rfl
theorem ml_11_121 : sg_ML 11 121 m_M_cut := sg_inGT (List.mem_of_getElem? (i := 1110) (by decide +kernel)) rfl
theorem ml_30_146 : sg_ML 30 146 m_M_get := sg_inGT (List.mem_of_getElem? (i := 1113) (by decide +kernel)) rfl
theorem ml_30_151 : sg_ML 30 151 m_M_copy := sg_inGT (List.mem_of_getElem? (i := 1118) (by decide +kernel)) rfl
theorem ml_30_17 : sg_ML 30 17 m_M_type := sg_inGT (List.mem_of_getElem? (i := 1122) (by decide +kernel)) rfl
theorem ml_11_126 : sg_ML 11 126 m_M_isTwo := sg_inGT (List.mem_of_getElem? (i := 1126) (by decide +kernel)) rfl
theorem ml_30_22 : sg_ML 30 22 m_M_wipe := sg_inGT (List.mem_of_getElem? (i := 1130) (by decide +kernel)) rfl
theorem ml_30_26 : sg_ML 30 26 m_M_undo := sg_inGT (List.mem_of_getElem? (i := 1134) (by decide +kernel)) rfl
theorem ml_30_30 : sg_ML 30 30 m_M_fault := sg_inGT (List.mem_of_getElem? (i := 1138) (by decide +kernel)) rfl
theorem ml_11_153 : sg_ML 11 153 m_M_readsText := sg_inGT (List.mem_of_getElem? (i := 1142) (by decide +kernel)) rfl
theorem ml_11_146 : sg_ML 11 146 m_M_readsPosts := sg_inGT (List.mem_of_getElem? (i := 1146) (by decide +kernel)) rfl
theorem ml_11_137 : sg_ML 11 137 m_M_postOf := sg_inGT (List.mem_of_getElem? (i := 1150) (by decide +kernel)) rfl
theorem ml_11_131 : sg_ML 11 131 m_M_figureOf := sg_inGT (List.mem_of_getElem? (i := 1153) (by decide +kernel)) rfl
theorem ml_11_150 : sg_ML 11 150 m_M_readsPeople := sg_inGT (List.mem_of_getElem? (i := 1156) (by decide +kernel)) rfl
theorem ml_11_143 : sg_ML 11 143 m_M_personOf := sg_inGT (List.mem_of_getElem? (i := 1160) (by decide +kernel)) rfl
theorem ml_30_34 : sg_ML 30 34 m_M_post := sg_inGT (List.mem_of_getElem? (i := 1163) (by decide +kernel)) rfl
theorem ml_11_158 : sg_ML 11 158 m_M_isPost := sg_inGT (List.mem_of_getElem? (i := 1167) (by decide +kernel)) rfl
theorem ml_30_38 : sg_ML 30 38 m_M_person := sg_inGT (List.mem_of_getElem? (i := 1171) (by decide +kernel)) rfl
theorem ml_11_161 : sg_ML 11 161 m_M_isPerson := sg_inGT (List.mem_of_getElem? (i := 1175) (by decide +kernel)) rfl
theorem ml_30_43 : sg_ML 30 43 m_M_event := sg_inGT (List.mem_of_getElem? (i := 1179) (by decide +kernel)) rfl
theorem ml_11_167 : sg_ML 11 167 m_M_isHour := sg_inGT (List.mem_of_getElem? (i := 1183) (by decide +kernel)) rfl
theorem ml_11_172 : sg_ML 11 172 m_M_keeps := sg_inGT (List.mem_of_getElem? (i := 1188) (by decide +kernel)) rfl
theorem ml_30_48 : sg_ML 30 48 m_M_back := sg_inGT (List.mem_of_getElem? (i := 1192) (by decide +kernel)) rfl
theorem ml_30_52 : sg_ML 30 52 m_M_read := sg_inGT (List.mem_of_getElem? (i := 1196) (by decide +kernel)) rfl
theorem ml_11_176 : sg_ML 11 176 m_M_event := sg_inGT (List.mem_of_getElem? (i := 1200) (by decide +kernel)) rfl
theorem ml_30_56 : sg_ML 30 56 m_M_at := sg_inGT (List.mem_of_getElem? (i := 1201) (by decide +kernel)) rfl
theorem ml_11_217 : sg_ML 11 217 m_M_find := sg_inGT (List.mem_of_getElem? (i := 1205) (by decide +kernel)) rfl
theorem ml_11_214 : sg_ML 11 214 m_M_lives := sg_inGT (List.mem_of_getElem? (i := 1209) (by decide +kernel)) rfl
theorem ml_11_211 : sg_ML 11 211 m_M_passes := sg_inGT (List.mem_of_getElem? (i := 1213) (by decide +kernel)) rfl
theorem ml_11_198 : sg_ML 11 198 m_M_goes := sg_inGT (List.mem_of_getElem? (i := 1217) (by decide +kernel)) rfl
theorem ml_11_202 : sg_ML 11 202 m_M_isSneezing := sg_inGT (List.mem_of_getElem? (i := 1221) (by decide +kernel)) rfl
theorem ml_11_191 : sg_ML 11 191 m_M_isTold := sg_inGT (List.mem_of_getElem? (i := 1225) (by decide +kernel)) rfl
theorem ml_11_187 : sg_ML 11 187 m_M_isIn := sg_inGT (List.mem_of_getElem? (i := 1229) (by decide +kernel)) rfl
theorem ml_11_205 : sg_ML 11 205 m_M_heardBy := sg_inGT (List.mem_of_getElem? (i := 1232) (by decide +kernel)) rfl
theorem ml_11_195 : sg_ML 11 195 m_M_apart := sg_inGT (List.mem_of_getElem? (i := 1236) (by decide +kernel)) rfl
theorem ml_11_208 : sg_ML 11 208 m_M_isCaught := sg_inGT (List.mem_of_getElem? (i := 1239) (by decide +kernel)) rfl
theorem ml_11_220 : sg_ML 11 220 m_M_atBy := sg_inGT (List.mem_of_getElem? (i := 1243) (by decide +kernel)) rfl
theorem ml_30_60 : sg_ML 30 60 m_M_stood := sg_inGT (List.mem_of_getElem? (i := 1247) (by decide +kernel)) rfl
theorem ml_11_223 : sg_ML 11 223 m_M_stoodOf := sg_inGT (List.mem_of_getElem? (i := 1251) (by decide +kernel)) rfl
theorem ml_30_64 : sg_ML 30 64 m_M_changes := sg_inGT (List.mem_of_getElem? (i := 1255) (by decide +kernel)) rfl
theorem ml_11_226 : sg_ML 11 226 m_M_changesIn := sg_inGT (List.mem_of_getElem? (i := 1259) (by decide +kernel)) rfl
theorem ml_30_68 : sg_ML 30 68 m_M_forgotten := sg_inGT (List.mem_of_getElem? (i := 1263) (by decide +kernel)) rfl
theorem ml_11_229 : sg_ML 11 229 m_M_forgottenNow := sg_inGT (List.mem_of_getElem? (i := 1267) (by decide +kernel)) rfl
theorem ml_30_72 : sg_ML 30 72 m_M_longest := sg_inGT (List.mem_of_getElem? (i := 1271) (by decide +kernel)) rfl
theorem ml_11_235 : sg_ML 11 235 m_M_longestBy := sg_inGT (List.mem_of_getElem? (i := 1275) (by decide +kernel)) rfl
theorem ml_11_232 : sg_ML 11 232 m_M_greater := sg_inGT (List.mem_of_getElem? (i := 1279) (by decide +kernel)) rfl
theorem ml_30_76 : sg_ML 30 76 m_M_all := sg_inGT (List.mem_of_getElem? (i := 1282) (by decide +kernel)) rfl
theorem ml_11_238 : sg_ML 11 238 m_M_allNow := sg_inGT (List.mem_of_getElem? (i := 1286) (by decide +kernel)) rfl
theorem ml_30_80 : sg_ML 30 80 m_M_busy := sg_inGT (List.mem_of_getElem? (i := 1290) (by decide +kernel)) rfl
theorem ml_11_241 : sg_ML 11 241 m_M_busyNow := sg_inGT (List.mem_of_getElem? (i := 1294) (by decide +kernel)) rfl
theorem ml_30_84 : sg_ML 30 84 m_M_quiet := sg_inGT (List.mem_of_getElem? (i := 1298) (by decide +kernel)) rfl
theorem ml_11_244 : sg_ML 11 244 m_M_quietNow := sg_inGT (List.mem_of_getElem? (i := 1302) (by decide +kernel)) rfl
theorem ml_30_88 : sg_ML 30 88 m_M_stroll := sg_inGT (List.mem_of_getElem? (i := 1306) (by decide +kernel)) rfl
theorem ml_11_250 : sg_ML 11 250 m_M_strollOf := sg_inGT (List.mem_of_getElem? (i := 1310) (by decide +kernel)) rfl
theorem ml_11_247 : sg_ML 11 247 m_M_lesser := sg_inGT (List.mem_of_getElem? (i := 1314) (by decide +kernel)) rfl
theorem ml_30_92 : sg_ML 30 92 m_M_dust := sg_inGT (List.mem_of_getElem? (i := 1317) (by decide +kernel)) rfl
theorem ml_11_253 : sg_ML 11 253 m_M_dustOf := sg_inGT (List.mem_of_getElem? (i := 1321) (by decide +kernel)) rfl
theorem ml_30_96 : sg_ML 30 96 m_M_hush := sg_inGT (List.mem_of_getElem? (i := 1325) (by decide +kernel)) rfl
theorem ml_11_256 : sg_ML 11 256 m_M_hushOf := sg_inGT (List.mem_of_getElem? (i := 1329) (by decide +kernel)) rfl
theorem ml_30_100 : sg_ML 30 100 m_M_spare := sg_inGT (List.mem_of_getElem? (i := 1333) (by decide +kernel)) rfl
theorem ml_11_264 : sg_ML 11 264 m_M_spareBy := sg_inGT (List.mem_of_getElem? (i := 1338) (by decide +kernel)) rfl
theorem ml_11_259 : sg_ML 11 259 m_M_isSpared := sg_inGT (List.mem_of_getElem? (i := 1342) (by decide +kernel)) rfl
theorem ml_30_104 : sg_ML 30 104 m_M_seen := sg_inGT (List.mem_of_getElem? (i := 1346) (by decide +kernel)) rfl
theorem ml_30_108 : sg_ML 30 108 m_M_forget := sg_inGT (List.mem_of_getElem? (i := 1351) (by decide +kernel)) rfl
theorem ml_30_112 : sg_ML 30 112 m_M_never := sg_inGT (List.mem_of_getElem? (i := 1355) (by decide +kernel)) rfl
theorem ml_11_276 : sg_ML 11 276 m_M_neverNow := sg_inGT (List.mem_of_getElem? (i := 1359) (by decide +kernel)) rfl
theorem ml_11_272 : sg_ML 11 272 m_M_isSeen := sg_inGT (List.mem_of_getElem? (i := 1363) (by decide +kernel)) rfl
theorem ml_30_116 : sg_ML 30 116 m_M_was := sg_inGT (List.mem_of_getElem? (i := 1367) (by decide +kernel)) rfl
theorem ml_11_285 : sg_ML 11 285 m_M_wasOf := sg_inGT (List.mem_of_getElem? (i := 1371) (by decide +kernel)) rfl
theorem ml_11_279 : sg_ML 11 279 m_M_sortOf := sg_inGT (List.mem_of_getElem? (i := 1375) (by decide +kernel)) rfl
theorem ml_11_282 : sg_ML 11 282 m_M_coldsOf := sg_inGT (List.mem_of_getElem? (i := 1379) (by decide +kernel)) rfl
theorem ml_30_120 : sg_ML 30 120 m_M_ask := sg_inGT (List.mem_of_getElem? (i := 1383) (by decide +kernel)) rfl
theorem ml_11_291 : sg_ML 11 291 m_M_askOf := sg_inGT (List.mem_of_getElem? (i := 1387) (by decide +kernel)) rfl
theorem ml_11_288 : sg_ML 11 288 m_M_alike := sg_inGT (List.mem_of_getElem? (i := 1391) (by decide +kernel)) rfl
theorem ml_30_125 : sg_ML 30 125 m_M_chance := sg_inGT (List.mem_of_getElem? (i := 1395) (by decide +kernel)) rfl
theorem ml_11_300 : sg_ML 11 300 m_M_chanceOf := sg_inGT (List.mem_of_getElem? (i := 1400) (by decide +kernel)) rfl
theorem ml_11_294 : sg_ML 11 294 m_M_part := sg_inGT (List.mem_of_getElem? (i := 1404) (by decide +kernel)) rfl
theorem ml_11_304 : sg_ML 11 304 m_M_no := sg_inGT (List.mem_of_getElem? (i := 1407) (by decide +kernel)) rfl
theorem ml_30_129 : sg_ML 30 129 m_M_decades := sg_inGT (List.mem_of_getElem? (i := 1411) (by decide +kernel)) rfl
theorem ml_11_320 : sg_ML 11 320 m_M_decadesOf := sg_inGT (List.mem_of_getElem? (i := 1416) (by decide +kernel)) rfl
theorem ml_11_312 : sg_ML 11 312 m_M_lot := sg_inGT (List.mem_of_getElem? (i := 1420) (by decide +kernel)) rfl
theorem ml_11_315 : sg_ML 11 315 m_M_ones := sg_inGT (List.mem_of_getElem? (i := 1425) (by decide +kernel)) rfl
theorem ml_30_155 : sg_ML 30 155 m_M_write := sg_inGT (List.mem_of_getElem? (i := 1428) (by decide +kernel)) rfl
theorem ml_30_159 : sg_ML 30 159 m_M_count := sg_inGT (List.mem_of_getElem? (i := 1432) (by decide +kernel)) rfl
theorem ml_30_164 : sg_ML 30 164 m_M_digest := sg_inGT (List.mem_of_getElem? (i := 1436) (by decide +kernel)) rfl
theorem ml_11_334 : sg_ML 11 334 m_M_count := sg_inGT (List.mem_of_getElem? (i := 1442) (by decide +kernel)) rfl
theorem ml_11_337 : sg_ML 11 337 m_M_tellsPost := sg_inGT (List.mem_of_getElem? (i := 1443) (by decide +kernel)) rfl
theorem ml_11_325 : sg_ML 11 325 m_M_tellsStood := sg_inGT (List.mem_of_getElem? (i := 1447) (by decide +kernel)) rfl
theorem ml_11_341 : sg_ML 11 341 m_M_tellsPerson := sg_inGT (List.mem_of_getElem? (i := 1451) (by decide +kernel)) rfl
theorem ml_11_329 : sg_ML 11 329 m_M_tellsHour := sg_inGT (List.mem_of_getElem? (i := 1455) (by decide +kernel)) rfl
theorem ma_3_80 : Cond.methodLink (sg_cn 3) 80 arraycopyName ∈ sg_GT := sg_inGT (List.mem_of_getElem? (i := 819) (by decide +kernel)) rfl
theorem ma_6_44 : Cond.methodLink (sg_cn 6) 44 arraycopyName ∈ sg_GT := sg_inGT (List.mem_of_getElem? (i := 915) (by decide +kernel)) rfl
theorem ma_nat : Cond.native arraycopyName ∈ sg_GT := sg_inGT (List.mem_of_getElem? (i := 821) (by decide +kernel)) rfl
theorem ma_sta : Cond.static arraycopyName ∈ sg_GT := sg_inGT (List.mem_of_getElem? (i := 820) (by decide +kernel)) rfl
theorem ma_ini : Cond.initialized "java/lang/System" ∈ sg_GT := sg_inGT (List.mem_of_getElem? (i := 21) (by decide +kernel)) rfl
