theorem ax_k_c0_0 : (ax_c0).all (ax_ok 1 false prog_14_method_1_code) = true := by decide +kernel
theorem ax_k0 : ax_okm ax_m0 ax_c0 = true := ax_k_c0_0
theorem ax_k_c1_0 : (ax_c1).all (ax_ok 1 false prog_14_method_2_code) = true := by decide +kernel
theorem ax_k1 : ax_okm ax_m1 ax_c1 = true := ax_k_c1_0
theorem ax_k_c2_0 : (ax_c2).all (ax_ok 1 false prog_14_method_3_code) = true := by decide +kernel
theorem ax_k2 : ax_okm ax_m2 ax_c2 = true := ax_k_c2_0
theorem ax_k_c3_0 : (ax_c3).all (ax_ok 1 false prog_14_method_4_code) = true := by decide +kernel
theorem ax_k3 : ax_okm ax_m3 ax_c3 = true := ax_k_c3_0
theorem ax_k_c4_0 : (ax_c4).all (ax_ok 1 false prog_14_method_5_code) = true := by decide +kernel
theorem ax_k4 : ax_okm ax_m4 ax_c4 = true := ax_k_c4_0
theorem ax_k_c5_0 : (ax_c5).all (ax_ok 1 false prog_14_method_6_code) = true := by decide +kernel
theorem ax_k5 : ax_okm ax_m5 ax_c5 = true := ax_k_c5_0
theorem ax_k_c6_0 : (ax_c6).all (ax_ok 1 false prog_14_method_7_code) = true := by decide +kernel
theorem ax_k6 : ax_okm ax_m6 ax_c6 = true := ax_k_c6_0
theorem ax_k_c7_0 : (ax_c7).all (ax_ok 1 false prog_14_method_8_code) = true := by decide +kernel
theorem ax_k7 : ax_okm ax_m7 ax_c7 = true := ax_k_c7_0
theorem ax_k_c8_0 : (ax_c8).all (ax_ok 1 false prog_14_method_9_code) = true := by decide +kernel
theorem ax_k8 : ax_okm ax_m8 ax_c8 = true := ax_k_c8_0
theorem ax_k_c9_0 : (ax_c9).all (ax_ok 1 false prog_14_method_10_code) = true := by decide +kernel
theorem ax_k9 : ax_okm ax_m9 ax_c9 = true := ax_k_c9_0
theorem ax_k_c10_0 : (ax_c10).all (ax_ok 1 false prog_14_method_11_code) = true := by decide +kernel
theorem ax_k10 : ax_okm ax_m10 ax_c10 = true := ax_k_c10_0
theorem ax_k_c11_0 : (ax_c11).all (ax_ok 1 false prog_14_method_12_code) = true := by decide +kernel
theorem ax_k11 : ax_okm ax_m11 ax_c11 = true := ax_k_c11_0
theorem ax_k_c12_0 : (ax_c12).all (ax_ok 1 false prog_14_method_13_code) = true := by decide +kernel
theorem ax_k12 : ax_okm ax_m12 ax_c12 = true := ax_k_c12_0
theorem ax_k_c13_0 : (ax_c13).all (ax_ok 1 false prog_14_method_14_code) = true := by decide +kernel
theorem ax_k13 : ax_okm ax_m13 ax_c13 = true := ax_k_c13_0
theorem ax_k_c14_0 : ((ax_c14).take 40).all (ax_ok 1 false prog_14_method_15_code) = true := by decide +kernel
theorem ax_k_c14_1 : ((ax_c14).drop 40).all (ax_ok 1 false prog_14_method_15_code) = true := by decide +kernel
theorem ax_k14 : ax_okm ax_m14 ax_c14 = true := ax_cut 40 ax_k_c14_0 (ax_k_c14_1)
theorem ax_k_c15_0 : ((ax_c15).take 40).all (ax_ok 1 false prog_14_method_16_code) = true := by decide +kernel
theorem ax_k_c15_1 : (((ax_c15).drop 40).take 40).all (ax_ok 1 false prog_14_method_16_code) = true := by decide +kernel
theorem ax_k_c15_2 : (((ax_c15).drop 40).drop 40).all (ax_ok 1 false prog_14_method_16_code) = true := by decide +kernel
theorem ax_k15 : ax_okm ax_m15 ax_c15 = true := ax_cut 40 ax_k_c15_0 (ax_cut 40 ax_k_c15_1 (ax_k_c15_2))
theorem ax_k_c16_0 : (ax_c16).all (ax_ok 1 false prog_14_method_17_code) = true := by decide +kernel
theorem ax_k16 : ax_okm ax_m16 ax_c16 = true := ax_k_c16_0
theorem ax_k_c17_0 : (ax_c17).all (ax_ok 1 false prog_14_method_18_code) = true := by decide +kernel
theorem ax_k17 : ax_okm ax_m17 ax_c17 = true := ax_k_c17_0
theorem ax_k_c18_0 : ((ax_c18).take 40).all (ax_ok 1 false prog_14_method_19_code) = true := by decide +kernel
theorem ax_k_c18_1 : (((ax_c18).drop 40).take 40).all (ax_ok 1 false prog_14_method_19_code) = true := by decide +kernel
theorem ax_k_c18_2 : (((ax_c18).drop 40).drop 40).all (ax_ok 1 false prog_14_method_19_code) = true := by decide +kernel
theorem ax_k18 : ax_okm ax_m18 ax_c18 = true := ax_cut 40 ax_k_c18_0 (ax_cut 40 ax_k_c18_1 (ax_k_c18_2))
theorem ax_k_c19_0 : ((ax_c19).take 40).all (ax_ok 1 false prog_14_method_20_code) = true := by decide +kernel
theorem ax_k_c19_1 : ((ax_c19).drop 40).all (ax_ok 1 false prog_14_method_20_code) = true := by decide +kernel
theorem ax_k19 : ax_okm ax_m19 ax_c19 = true := ax_cut 40 ax_k_c19_0 (ax_k_c19_1)
theorem ax_k_c20_0 : ((ax_c20).take 40).all (ax_ok 1 false prog_14_method_21_code) = true := by decide +kernel
theorem ax_k_c20_1 : ((ax_c20).drop 40).all (ax_ok 1 false prog_14_method_21_code) = true := by decide +kernel
theorem ax_k20 : ax_okm ax_m20 ax_c20 = true := ax_cut 40 ax_k_c20_0 (ax_k_c20_1)
theorem ax_k_c21_0 : (ax_c21).all (ax_ok 1 false prog_14_method_22_code) = true := by decide +kernel
theorem ax_k21 : ax_okm ax_m21 ax_c21 = true := ax_k_c21_0
theorem ax_k_c22_0 : ((ax_c22).take 40).all (ax_ok 1 false prog_14_method_23_code) = true := by decide +kernel
theorem ax_k_c22_1 : (((ax_c22).drop 40).take 40).all (ax_ok 1 false prog_14_method_23_code) = true := by decide +kernel
theorem ax_k_c22_2 : ((((ax_c22).drop 40).drop 40).take 40).all (ax_ok 1 false prog_14_method_23_code) = true := by decide +kernel
theorem ax_k_c22_3 : ((((ax_c22).drop 40).drop 40).drop 40).all (ax_ok 1 false prog_14_method_23_code) = true := by decide +kernel
theorem ax_k22 : ax_okm ax_m22 ax_c22 = true := ax_cut 40 ax_k_c22_0 (ax_cut 40 ax_k_c22_1 (ax_cut 40 ax_k_c22_2 (ax_k_c22_3)))
theorem ax_k_c23_0 : (ax_c23).all (ax_ok 1 false prog_14_method_24_code) = true := by decide +kernel
theorem ax_k23 : ax_okm ax_m23 ax_c23 = true := ax_k_c23_0
theorem ax_k_c24_0 : (ax_c24).all (ax_ok 1 false prog_14_method_25_code) = true := by decide +kernel
theorem ax_k24 : ax_okm ax_m24 ax_c24 = true := ax_k_c24_0
theorem ax_k_c25_0 : (ax_c25).all (ax_ok 1 false prog_14_method_26_code) = true := by decide +kernel
theorem ax_k25 : ax_okm ax_m25 ax_c25 = true := ax_k_c25_0
theorem ax_k_c26_0 : ((ax_c26).take 40).all (ax_ok 1 false prog_14_method_27_code) = true := by decide +kernel
theorem ax_k_c26_1 : ((ax_c26).drop 40).all (ax_ok 1 false prog_14_method_27_code) = true := by decide +kernel
theorem ax_k26 : ax_okm ax_m26 ax_c26 = true := ax_cut 40 ax_k_c26_0 (ax_k_c26_1)
theorem ax_k_c27_0 : (ax_c27).all (ax_ok 1 false prog_14_method_28_code) = true := by decide +kernel
theorem ax_k27 : ax_okm ax_m27 ax_c27 = true := ax_k_c27_0
theorem ax_k_c28_0 : ((ax_c28).take 40).all (ax_ok 1 false prog_14_method_29_code) = true := by decide +kernel
theorem ax_k_c28_1 : ((ax_c28).drop 40).all (ax_ok 1 false prog_14_method_29_code) = true := by decide +kernel
theorem ax_k28 : ax_okm ax_m28 ax_c28 = true := ax_cut 40 ax_k_c28_0 (ax_k_c28_1)
theorem ax_k_c29_0 : ((ax_c29).take 40).all (ax_ok 1 false prog_14_method_30_code) = true := by decide +kernel
theorem ax_k_c29_1 : ((ax_c29).drop 40).all (ax_ok 1 false prog_14_method_30_code) = true := by decide +kernel
theorem ax_k29 : ax_okm ax_m29 ax_c29 = true := ax_cut 40 ax_k_c29_0 (ax_k_c29_1)
theorem ax_k_c30_0 : (ax_c30).all (ax_ok 1 false prog_14_method_31_code) = true := by decide +kernel
theorem ax_k30 : ax_okm ax_m30 ax_c30 = true := ax_k_c30_0
theorem ax_k_c31_0 : ((ax_c31).take 40).all (ax_ok 1 false prog_14_method_32_code) = true := by decide +kernel
theorem ax_k_c31_1 : ((ax_c31).drop 40).all (ax_ok 1 false prog_14_method_32_code) = true := by decide +kernel
theorem ax_k31 : ax_okm ax_m31 ax_c31 = true := ax_cut 40 ax_k_c31_0 (ax_k_c31_1)
theorem ax_k_c32_0 : (ax_c32).all (ax_ok 1 false prog_14_method_33_code) = true := by decide +kernel
theorem ax_k32 : ax_okm ax_m32 ax_c32 = true := ax_k_c32_0
theorem ax_k_c33_0 : (ax_c33).all (ax_ok 1 false prog_14_method_34_code) = true := by decide +kernel
theorem ax_k33 : ax_okm ax_m33 ax_c33 = true := ax_k_c33_0
theorem ax_k_c34_0 : (ax_c34).all (ax_ok 1 false prog_14_method_35_code) = true := by decide +kernel
theorem ax_k34 : ax_okm ax_m34 ax_c34 = true := ax_k_c34_0
theorem ax_k_c35_0 : (ax_c35).all (ax_ok 1 false prog_14_method_36_code) = true := by decide +kernel
theorem ax_k35 : ax_okm ax_m35 ax_c35 = true := ax_k_c35_0
theorem ax_k_c36_0 : ((ax_c36).take 40).all (ax_ok 1 false prog_14_method_37_code) = true := by decide +kernel
theorem ax_k_c36_1 : (((ax_c36).drop 40).take 40).all (ax_ok 1 false prog_14_method_37_code) = true := by decide +kernel
theorem ax_k_c36_2 : (((ax_c36).drop 40).drop 40).all (ax_ok 1 false prog_14_method_37_code) = true := by decide +kernel
theorem ax_k36 : ax_okm ax_m36 ax_c36 = true := ax_cut 40 ax_k_c36_0 (ax_cut 40 ax_k_c36_1 (ax_k_c36_2))
theorem ax_k_c37_0 : ((ax_c37).take 40).all (ax_ok 1 false prog_14_method_38_code) = true := by decide +kernel
theorem ax_k_c37_1 : ((ax_c37).drop 40).all (ax_ok 1 false prog_14_method_38_code) = true := by decide +kernel
theorem ax_k37 : ax_okm ax_m37 ax_c37 = true := ax_cut 40 ax_k_c37_0 (ax_k_c37_1)
theorem ax_k_c38_0 : ((ax_c38).take 40).all (ax_ok 1 false prog_14_method_39_code) = true := by decide +kernel
theorem ax_k_c38_1 : ((ax_c38).drop 40).all (ax_ok 1 false prog_14_method_39_code) = true := by decide +kernel
theorem ax_k38 : ax_okm ax_m38 ax_c38 = true := ax_cut 40 ax_k_c38_0 (ax_k_c38_1)
theorem ax_k_c39_0 : (ax_c39).all (ax_ok 1 false prog_14_method_40_code) = true := by decide +kernel
theorem ax_k39 : ax_okm ax_m39 ax_c39 = true := ax_k_c39_0
theorem ax_k_c40_0 : (ax_c40).all (ax_ok 1 false prog_14_method_41_code) = true := by decide +kernel
theorem ax_k40 : ax_okm ax_m40 ax_c40 = true := ax_k_c40_0
theorem ax_k_c41_0 : (ax_c41).all (ax_ok 1 false prog_14_method_42_code) = true := by decide +kernel
theorem ax_k41 : ax_okm ax_m41 ax_c41 = true := ax_k_c41_0
theorem ax_k_c42_0 : ((ax_c42).take 40).all (ax_ok 1 false prog_14_method_43_code) = true := by decide +kernel
theorem ax_k_c42_1 : (((ax_c42).drop 40).take 40).all (ax_ok 1 false prog_14_method_43_code) = true := by decide +kernel
theorem ax_k_c42_2 : (((ax_c42).drop 40).drop 40).all (ax_ok 1 false prog_14_method_43_code) = true := by decide +kernel
theorem ax_k42 : ax_okm ax_m42 ax_c42 = true := ax_cut 40 ax_k_c42_0 (ax_cut 40 ax_k_c42_1 (ax_k_c42_2))
theorem ax_k_c43_0 : (ax_c43).all (ax_ok 1 false prog_14_method_44_code) = true := by decide +kernel
theorem ax_k43 : ax_okm ax_m43 ax_c43 = true := ax_k_c43_0
theorem ax_k_c44_0 : (ax_c44).all (ax_ok 1 false prog_14_method_45_code) = true := by decide +kernel
theorem ax_k44 : ax_okm ax_m44 ax_c44 = true := ax_k_c44_0
theorem ax_k_c45_0 : (ax_c45).all (ax_ok 1 false prog_14_method_46_code) = true := by decide +kernel
theorem ax_k45 : ax_okm ax_m45 ax_c45 = true := ax_k_c45_0
theorem ax_k_c46_0 : (ax_c46).all (ax_ok 1 false prog_14_method_47_code) = true := by decide +kernel
theorem ax_k46 : ax_okm ax_m46 ax_c46 = true := ax_k_c46_0
theorem ax_k_c47_0 : ((ax_c47).take 40).all (ax_ok 1 false prog_14_method_48_code) = true := by decide +kernel
theorem ax_k_c47_1 : ((ax_c47).drop 40).all (ax_ok 1 false prog_14_method_48_code) = true := by decide +kernel
theorem ax_k47 : ax_okm ax_m47 ax_c47 = true := ax_cut 40 ax_k_c47_0 (ax_k_c47_1)
theorem ax_k_c48_0 : ((ax_c48).take 40).all (ax_ok 1 false prog_14_method_49_code) = true := by decide +kernel
theorem ax_k_c48_1 : (((ax_c48).drop 40).take 40).all (ax_ok 1 false prog_14_method_49_code) = true := by decide +kernel
theorem ax_k_c48_2 : ((((ax_c48).drop 40).drop 40).take 40).all (ax_ok 1 false prog_14_method_49_code) = true := by decide +kernel
theorem ax_k_c48_3 : ((((ax_c48).drop 40).drop 40).drop 40).all (ax_ok 1 false prog_14_method_49_code) = true := by decide +kernel
theorem ax_k48 : ax_okm ax_m48 ax_c48 = true := ax_cut 40 ax_k_c48_0 (ax_cut 40 ax_k_c48_1 (ax_cut 40 ax_k_c48_2 (ax_k_c48_3)))
theorem ax_k_c49_0 : (ax_c49).all (ax_ok 1 false prog_14_method_50_code) = true := by decide +kernel
theorem ax_k49 : ax_okm ax_m49 ax_c49 = true := ax_k_c49_0
theorem ax_k_c50_0 : ((ax_c50).take 40).all (ax_ok 1 false prog_14_method_51_code) = true := by decide +kernel
theorem ax_k_c50_1 : (((ax_c50).drop 40).take 40).all (ax_ok 1 false prog_14_method_51_code) = true := by decide +kernel
theorem ax_k_c50_2 : (((ax_c50).drop 40).drop 40).all (ax_ok 1 false prog_14_method_51_code) = true := by decide +kernel
theorem ax_k50 : ax_okm ax_m50 ax_c50 = true := ax_cut 40 ax_k_c50_0 (ax_cut 40 ax_k_c50_1 (ax_k_c50_2))
theorem ax_k_c51_0 : ((ax_c51).take 40).all (ax_ok 1 true prog_14_method_52_code) = true := by decide +kernel
theorem ax_k_c51_1 : (((ax_c51).drop 40).take 40).all (ax_ok 1 true prog_14_method_52_code) = true := by decide +kernel
theorem ax_k_c51_2 : ((((ax_c51).drop 40).drop 40).take 40).all (ax_ok 1 true prog_14_method_52_code) = true := by decide +kernel
theorem ax_k_c51_3 : (((((ax_c51).drop 40).drop 40).drop 40).take 40).all (ax_ok 1 true prog_14_method_52_code) = true := by decide +kernel
theorem ax_k_c51_4 : ((((((ax_c51).drop 40).drop 40).drop 40).drop 40).take 40).all (ax_ok 1 true prog_14_method_52_code) = true := by decide +kernel
theorem ax_k_c51_5 : (((((((ax_c51).drop 40).drop 40).drop 40).drop 40).drop 40).take 40).all (ax_ok 1 true prog_14_method_52_code) = true := by decide +kernel
theorem ax_k_c51_6 : ((((((((ax_c51).drop 40).drop 40).drop 40).drop 40).drop 40).drop 40).take 40).all (ax_ok 1 true prog_14_method_52_code) = true := by decide +kernel
theorem ax_k_c51_7 : (((((((((ax_c51).drop 40).drop 40).drop 40).drop 40).drop 40).drop 40).drop 40).take 40).all (ax_ok 1 true prog_14_method_52_code) = true := by decide +kernel
theorem ax_k_c51_8 : ((((((((((ax_c51).drop 40).drop 40).drop 40).drop 40).drop 40).drop 40).drop 40).drop 40).take 40).all (ax_ok 1 true prog_14_method_52_code) = true := by decide +kernel
theorem ax_k_c51_9 : (((((((((((ax_c51).drop 40).drop 40).drop 40).drop 40).drop 40).drop 40).drop 40).drop 40).drop 40).take 40).all (ax_ok 1 true prog_14_method_52_code) = true := by decide +kernel
theorem ax_k_c51_10 : (((((((((((ax_c51).drop 40).drop 40).drop 40).drop 40).drop 40).drop 40).drop 40).drop 40).drop 40).drop 40).all (ax_ok 1 true prog_14_method_52_code) = true := by decide +kernel
theorem ax_k51 : ax_okm ax_m51 ax_c51 = true := ax_cut 40 ax_k_c51_0 (ax_cut 40 ax_k_c51_1 (ax_cut 40 ax_k_c51_2 (ax_cut 40 ax_k_c51_3 (ax_cut 40 ax_k_c51_4 (ax_cut 40 ax_k_c51_5 (ax_cut 40 ax_k_c51_6 (ax_cut 40 ax_k_c51_7 (ax_cut 40 ax_k_c51_8 (ax_cut 40 ax_k_c51_9 (ax_k_c51_10))))))))))
theorem ax_k_c52_0 : (ax_c52).all (ax_ok 1 false prog_14_method_53_code) = true := by decide +kernel
theorem ax_k52 : ax_okm ax_m52 ax_c52 = true := ax_k_c52_0
theorem ax_k_c53_0 : ((ax_c53).take 40).all (ax_ok 1 false prog_14_method_54_code) = true := by decide +kernel
theorem ax_k_c53_1 : ((ax_c53).drop 40).all (ax_ok 1 false prog_14_method_54_code) = true := by decide +kernel
theorem ax_k53 : ax_okm ax_m53 ax_c53 = true := ax_cut 40 ax_k_c53_0 (ax_k_c53_1)
theorem ax_k_c54_0 : (ax_c54).all (ax_ok 1 false prog_14_method_55_code) = true := by decide +kernel
theorem ax_k54 : ax_okm ax_m54 ax_c54 = true := ax_k_c54_0
theorem ax_k_c55_0 : ((ax_c55).take 40).all (ax_ok 1 false prog_14_method_56_code) = true := by decide +kernel
theorem ax_k_c55_1 : ((ax_c55).drop 40).all (ax_ok 1 false prog_14_method_56_code) = true := by decide +kernel
theorem ax_k55 : ax_okm ax_m55 ax_c55 = true := ax_cut 40 ax_k_c55_0 (ax_k_c55_1)
theorem ax_k_c56_0 : ((ax_c56).take 40).all (ax_ok 1 false prog_14_method_57_code) = true := by decide +kernel
theorem ax_k_c56_1 : ((ax_c56).drop 40).all (ax_ok 1 false prog_14_method_57_code) = true := by decide +kernel
theorem ax_k56 : ax_okm ax_m56 ax_c56 = true := ax_cut 40 ax_k_c56_0 (ax_k_c56_1)
theorem ax_k_c57_0 : ((ax_c57).take 40).all (ax_ok 1 false prog_14_method_58_code) = true := by decide +kernel
theorem ax_k_c57_1 : ((ax_c57).drop 40).all (ax_ok 1 false prog_14_method_58_code) = true := by decide +kernel
theorem ax_k57 : ax_okm ax_m57 ax_c57 = true := ax_cut 40 ax_k_c57_0 (ax_k_c57_1)
theorem ax_k_c58_0 : ((ax_c58).take 40).all (ax_ok 1 false prog_14_method_59_code) = true := by decide +kernel
theorem ax_k_c58_1 : ((ax_c58).drop 40).all (ax_ok 1 false prog_14_method_59_code) = true := by decide +kernel
theorem ax_k58 : ax_okm ax_m58 ax_c58 = true := ax_cut 40 ax_k_c58_0 (ax_k_c58_1)
theorem ax_k_c59_0 : (ax_c59).all (ax_ok 1 false prog_14_method_60_code) = true := by decide +kernel
theorem ax_k59 : ax_okm ax_m59 ax_c59 = true := ax_k_c59_0
theorem ax_k_c60_0 : ((ax_c60).take 40).all (ax_ok 1 false prog_14_method_61_code) = true := by decide +kernel
theorem ax_k_c60_1 : (((ax_c60).drop 40).take 40).all (ax_ok 1 false prog_14_method_61_code) = true := by decide +kernel
theorem ax_k_c60_2 : ((((ax_c60).drop 40).drop 40).take 40).all (ax_ok 1 false prog_14_method_61_code) = true := by decide +kernel
theorem ax_k_c60_3 : ((((ax_c60).drop 40).drop 40).drop 40).all (ax_ok 1 false prog_14_method_61_code) = true := by decide +kernel
theorem ax_k60 : ax_okm ax_m60 ax_c60 = true := ax_cut 40 ax_k_c60_0 (ax_cut 40 ax_k_c60_1 (ax_cut 40 ax_k_c60_2 (ax_k_c60_3)))
theorem ax_k_c61_0 : (ax_c61).all (ax_ok 1 false prog_14_method_62_code) = true := by decide +kernel
theorem ax_k61 : ax_okm ax_m61 ax_c61 = true := ax_k_c61_0
theorem ax_k_c62_0 : ((ax_c62).take 40).all (ax_ok 1 false prog_14_method_63_code) = true := by decide +kernel
theorem ax_k_c62_1 : (((ax_c62).drop 40).take 40).all (ax_ok 1 false prog_14_method_63_code) = true := by decide +kernel
theorem ax_k_c62_2 : (((ax_c62).drop 40).drop 40).all (ax_ok 1 false prog_14_method_63_code) = true := by decide +kernel
theorem ax_k62 : ax_okm ax_m62 ax_c62 = true := ax_cut 40 ax_k_c62_0 (ax_cut 40 ax_k_c62_1 (ax_k_c62_2))
theorem ax_k_c63_0 : (ax_c63).all (ax_ok 1 false prog_14_method_64_code) = true := by decide +kernel
theorem ax_k63 : ax_okm ax_m63 ax_c63 = true := ax_k_c63_0
theorem ax_k_c64_0 : (ax_c64).all (ax_ok 1 false prog_14_method_65_code) = true := by decide +kernel
theorem ax_k64 : ax_okm ax_m64 ax_c64 = true := ax_k_c64_0
theorem ax_k_c65_0 : ((ax_c65).take 40).all (ax_ok 1 false prog_14_method_66_code) = true := by decide +kernel
theorem ax_k_c65_1 : (((ax_c65).drop 40).take 40).all (ax_ok 1 false prog_14_method_66_code) = true := by decide +kernel
theorem ax_k_c65_2 : ((((ax_c65).drop 40).drop 40).take 40).all (ax_ok 1 false prog_14_method_66_code) = true := by decide +kernel
theorem ax_k_c65_3 : ((((ax_c65).drop 40).drop 40).drop 40).all (ax_ok 1 false prog_14_method_66_code) = true := by decide +kernel
theorem ax_k65 : ax_okm ax_m65 ax_c65 = true := ax_cut 40 ax_k_c65_0 (ax_cut 40 ax_k_c65_1 (ax_cut 40 ax_k_c65_2 (ax_k_c65_3)))
theorem ax_k_c66_0 : ((ax_c66).take 40).all (ax_ok 1 false prog_14_method_67_code) = true := by decide +kernel
theorem ax_k_c66_1 : (((ax_c66).drop 40).take 40).all (ax_ok 1 false prog_14_method_67_code) = true := by decide +kernel
theorem ax_k_c66_2 : ((((ax_c66).drop 40).drop 40).take 40).all (ax_ok 1 false prog_14_method_67_code) = true := by decide +kernel
theorem ax_k_c66_3 : ((((ax_c66).drop 40).drop 40).drop 40).all (ax_ok 1 false prog_14_method_67_code) = true := by decide +kernel
theorem ax_k66 : ax_okm ax_m66 ax_c66 = true := ax_cut 40 ax_k_c66_0 (ax_cut 40 ax_k_c66_1 (ax_cut 40 ax_k_c66_2 (ax_k_c66_3)))
theorem ax_k_c67_0 : ((ax_c67).take 40).all (ax_ok 1 false prog_14_method_68_code) = true := by decide +kernel
theorem ax_k_c67_1 : (((ax_c67).drop 40).take 40).all (ax_ok 1 false prog_14_method_68_code) = true := by decide +kernel
theorem ax_k_c67_2 : ((((ax_c67).drop 40).drop 40).take 40).all (ax_ok 1 false prog_14_method_68_code) = true := by decide +kernel
theorem ax_k_c67_3 : (((((ax_c67).drop 40).drop 40).drop 40).take 40).all (ax_ok 1 false prog_14_method_68_code) = true := by decide +kernel
theorem ax_k_c67_4 : (((((ax_c67).drop 40).drop 40).drop 40).drop 40).all (ax_ok 1 false prog_14_method_68_code) = true := by decide +kernel
theorem ax_k67 : ax_okm ax_m67 ax_c67 = true := ax_cut 40 ax_k_c67_0 (ax_cut 40 ax_k_c67_1 (ax_cut 40 ax_k_c67_2 (ax_cut 40 ax_k_c67_3 (ax_k_c67_4))))
theorem ax_k_c68_0 : ((ax_c68).take 40).all (ax_ok 1 false prog_14_method_69_code) = true := by decide +kernel
theorem ax_k_c68_1 : ((ax_c68).drop 40).all (ax_ok 1 false prog_14_method_69_code) = true := by decide +kernel
theorem ax_k68 : ax_okm ax_m68 ax_c68 = true := ax_cut 40 ax_k_c68_0 (ax_k_c68_1)
theorem ax_k_c69_0 : (ax_c69).all (ax_ok 1 false prog_14_method_70_code) = true := by decide +kernel
theorem ax_k69 : ax_okm ax_m69 ax_c69 = true := ax_k_c69_0
theorem ax_k_c70_0 : ((ax_c70).take 40).all (ax_ok 1 false prog_14_method_71_code) = true := by decide +kernel
theorem ax_k_c70_1 : ((ax_c70).drop 40).all (ax_ok 1 false prog_14_method_71_code) = true := by decide +kernel
theorem ax_k70 : ax_okm ax_m70 ax_c70 = true := ax_cut 40 ax_k_c70_0 (ax_k_c70_1)
theorem ax_k_c71_0 : ((ax_c71).take 40).all (ax_ok 1 false prog_14_method_72_code) = true := by decide +kernel
theorem ax_k_c71_1 : ((ax_c71).drop 40).all (ax_ok 1 false prog_14_method_72_code) = true := by decide +kernel
theorem ax_k71 : ax_okm ax_m71 ax_c71 = true := ax_cut 40 ax_k_c71_0 (ax_k_c71_1)
theorem ax_k_c72_0 : ((ax_c72).take 40).all (ax_ok 1 false prog_14_method_73_code) = true := by decide +kernel
theorem ax_k_c72_1 : (((ax_c72).drop 40).take 40).all (ax_ok 1 false prog_14_method_73_code) = true := by decide +kernel
theorem ax_k_c72_2 : (((ax_c72).drop 40).drop 40).all (ax_ok 1 false prog_14_method_73_code) = true := by decide +kernel
theorem ax_k72 : ax_okm ax_m72 ax_c72 = true := ax_cut 40 ax_k_c72_0 (ax_cut 40 ax_k_c72_1 (ax_k_c72_2))
theorem ax_k_c73_0 : ((ax_c73).take 40).all (ax_ok 1 false prog_14_method_74_code) = true := by decide +kernel
theorem ax_k_c73_1 : (((ax_c73).drop 40).take 40).all (ax_ok 1 false prog_14_method_74_code) = true := by decide +kernel
theorem ax_k_c73_2 : ((((ax_c73).drop 40).drop 40).take 40).all (ax_ok 1 false prog_14_method_74_code) = true := by decide +kernel
theorem ax_k_c73_3 : ((((ax_c73).drop 40).drop 40).drop 40).all (ax_ok 1 false prog_14_method_74_code) = true := by decide +kernel
theorem ax_k73 : ax_okm ax_m73 ax_c73 = true := ax_cut 40 ax_k_c73_0 (ax_cut 40 ax_k_c73_1 (ax_cut 40 ax_k_c73_2 (ax_k_c73_3)))
theorem ax_k_c74_0 : ((ax_c74).take 40).all (ax_ok 1 false prog_14_method_75_code) = true := by decide +kernel
theorem ax_k_c74_1 : ((ax_c74).drop 40).all (ax_ok 1 false prog_14_method_75_code) = true := by decide +kernel
theorem ax_k74 : ax_okm ax_m74 ax_c74 = true := ax_cut 40 ax_k_c74_0 (ax_k_c74_1)
theorem ax_k_c75_0 : ((ax_c75).take 40).all (ax_ok 1 false prog_14_method_76_code) = true := by decide +kernel
theorem ax_k_c75_1 : ((ax_c75).drop 40).all (ax_ok 1 false prog_14_method_76_code) = true := by decide +kernel
theorem ax_k75 : ax_okm ax_m75 ax_c75 = true := ax_cut 40 ax_k_c75_0 (ax_k_c75_1)
theorem ax_k_c76_0 : ((ax_c76).take 40).all (ax_ok 1 false prog_14_method_77_code) = true := by decide +kernel
theorem ax_k_c76_1 : (((ax_c76).drop 40).take 40).all (ax_ok 1 false prog_14_method_77_code) = true := by decide +kernel
theorem ax_k_c76_2 : ((((ax_c76).drop 40).drop 40).take 40).all (ax_ok 1 false prog_14_method_77_code) = true := by decide +kernel
theorem ax_k_c76_3 : (((((ax_c76).drop 40).drop 40).drop 40).take 40).all (ax_ok 1 false prog_14_method_77_code) = true := by decide +kernel
theorem ax_k_c76_4 : (((((ax_c76).drop 40).drop 40).drop 40).drop 40).all (ax_ok 1 false prog_14_method_77_code) = true := by decide +kernel
theorem ax_k76 : ax_okm ax_m76 ax_c76 = true := ax_cut 40 ax_k_c76_0 (ax_cut 40 ax_k_c76_1 (ax_cut 40 ax_k_c76_2 (ax_cut 40 ax_k_c76_3 (ax_k_c76_4))))
theorem ax_k_c77_0 : (ax_c77).all (ax_ok 1 false prog_14_method_78_code) = true := by decide +kernel
theorem ax_k77 : ax_okm ax_m77 ax_c77 = true := ax_k_c77_0
theorem ax_k_c78_0 : ((ax_c78).take 40).all (ax_ok 1 false prog_14_method_79_code) = true := by decide +kernel
theorem ax_k_c78_1 : (((ax_c78).drop 40).take 40).all (ax_ok 1 false prog_14_method_79_code) = true := by decide +kernel
theorem ax_k_c78_2 : ((((ax_c78).drop 40).drop 40).take 40).all (ax_ok 1 false prog_14_method_79_code) = true := by decide +kernel
theorem ax_k_c78_3 : ((((ax_c78).drop 40).drop 40).drop 40).all (ax_ok 1 false prog_14_method_79_code) = true := by decide +kernel
theorem ax_k78 : ax_okm ax_m78 ax_c78 = true := ax_cut 40 ax_k_c78_0 (ax_cut 40 ax_k_c78_1 (ax_cut 40 ax_k_c78_2 (ax_k_c78_3)))
theorem ax_k_c79_0 : ((ax_c79).take 40).all (ax_ok 1 false prog_14_method_80_code) = true := by decide +kernel
theorem ax_k_c79_1 : ((ax_c79).drop 40).all (ax_ok 1 false prog_14_method_80_code) = true := by decide +kernel
theorem ax_k79 : ax_okm ax_m79 ax_c79 = true := ax_cut 40 ax_k_c79_0 (ax_k_c79_1)
theorem ax_k_c80_0 : (ax_c80).all (ax_ok 1 false prog_14_method_81_code) = true := by decide +kernel
theorem ax_k80 : ax_okm ax_m80 ax_c80 = true := ax_k_c80_0
theorem ax_k_c81_0 : (ax_c81).all (ax_ok 1 false prog_14_method_82_code) = true := by decide +kernel
theorem ax_k81 : ax_okm ax_m81 ax_c81 = true := ax_k_c81_0
theorem ax_k_c82_0 : (ax_c82).all (ax_ok 1 false prog_14_method_83_code) = true := by decide +kernel
theorem ax_k82 : ax_okm ax_m82 ax_c82 = true := ax_k_c82_0
theorem ax_k_c83_0 : ((ax_c83).take 40).all (ax_ok 1 false prog_14_method_84_code) = true := by decide +kernel
theorem ax_k_c83_1 : ((ax_c83).drop 40).all (ax_ok 1 false prog_14_method_84_code) = true := by decide +kernel
theorem ax_k83 : ax_okm ax_m83 ax_c83 = true := ax_cut 40 ax_k_c83_0 (ax_k_c83_1)
theorem ax_k_c84_0 : (ax_c84).all (ax_ok 1 false prog_14_method_85_code) = true := by decide +kernel
theorem ax_k84 : ax_okm ax_m84 ax_c84 = true := ax_k_c84_0
theorem ax_k_c85_0 : (ax_c85).all (ax_ok 1 false prog_14_method_86_code) = true := by decide +kernel
theorem ax_k85 : ax_okm ax_m85 ax_c85 = true := ax_k_c85_0
theorem ax_k_c86_0 : ((ax_c86).take 40).all (ax_ok 1 false prog_14_method_87_code) = true := by decide +kernel
theorem ax_k_c86_1 : ((ax_c86).drop 40).all (ax_ok 1 false prog_14_method_87_code) = true := by decide +kernel
theorem ax_k86 : ax_okm ax_m86 ax_c86 = true := ax_cut 40 ax_k_c86_0 (ax_k_c86_1)
theorem ax_k_c87_0 : (ax_c87).all (ax_ok 1 false prog_14_method_88_code) = true := by decide +kernel
theorem ax_k87 : ax_okm ax_m87 ax_c87 = true := ax_k_c87_0
theorem ax_k_c88_0 : (ax_c88).all (ax_ok 1 false prog_14_method_89_code) = true := by decide +kernel
theorem ax_k88 : ax_okm ax_m88 ax_c88 = true := ax_k_c88_0
theorem ax_k_c89_0 : (ax_c89).all (ax_ok 1 false prog_14_method_90_code) = true := by decide +kernel
theorem ax_k89 : ax_okm ax_m89 ax_c89 = true := ax_k_c89_0
theorem ax_k_c90_0 : ((ax_c90).take 40).all (ax_ok 1 false prog_14_method_91_code) = true := by decide +kernel
theorem ax_k_c90_1 : ((ax_c90).drop 40).all (ax_ok 1 false prog_14_method_91_code) = true := by decide +kernel
theorem ax_k90 : ax_okm ax_m90 ax_c90 = true := ax_cut 40 ax_k_c90_0 (ax_k_c90_1)
theorem ax_k_c91_0 : (ax_c91).all (ax_ok 1 false prog_14_method_92_code) = true := by decide +kernel
theorem ax_k91 : ax_okm ax_m91 ax_c91 = true := ax_k_c91_0
theorem ax_k_c92_0 : (ax_c92).all (ax_ok 1 false prog_14_method_93_code) = true := by decide +kernel
theorem ax_k92 : ax_okm ax_m92 ax_c92 = true := ax_k_c92_0
theorem ax_k_c93_0 : (ax_c93).all (ax_ok 1 false prog_14_method_94_code) = true := by decide +kernel
theorem ax_k93 : ax_okm ax_m93 ax_c93 = true := ax_k_c93_0
theorem ax_k_c94_0 : (ax_c94).all (ax_ok 1 false prog_14_method_95_code) = true := by decide +kernel
theorem ax_k94 : ax_okm ax_m94 ax_c94 = true := ax_k_c94_0
theorem ax_k_c95_0 : (ax_c95).all (ax_ok 1 false prog_14_method_96_code) = true := by decide +kernel
theorem ax_k95 : ax_okm ax_m95 ax_c95 = true := ax_k_c95_0
theorem ax_k_c96_0 : ((ax_c96).take 40).all (ax_ok 1 false prog_14_method_97_code) = true := by decide +kernel
theorem ax_k_c96_1 : ((ax_c96).drop 40).all (ax_ok 1 false prog_14_method_97_code) = true := by decide +kernel
theorem ax_k96 : ax_okm ax_m96 ax_c96 = true := ax_cut 40 ax_k_c96_0 (ax_k_c96_1)
theorem ax_k_c97_0 : (ax_c97).all (ax_ok 1 false prog_14_method_98_code) = true := by decide +kernel
theorem ax_k97 : ax_okm ax_m97 ax_c97 = true := ax_k_c97_0
theorem ax_k_c98_0 : (ax_c98).all (ax_ok 1 false prog_14_method_99_code) = true := by decide +kernel
theorem ax_k98 : ax_okm ax_m98 ax_c98 = true := ax_k_c98_0
theorem ax_k_c99_0 : (ax_c99).all (ax_ok 1 false prog_14_method_100_code) = true := by decide +kernel
theorem ax_k99 : ax_okm ax_m99 ax_c99 = true := ax_k_c99_0
theorem ax_k_c100_0 : ((ax_c100).take 40).all (ax_ok 1 false prog_14_method_101_code) = true := by decide +kernel
theorem ax_k_c100_1 : (((ax_c100).drop 40).take 40).all (ax_ok 1 false prog_14_method_101_code) = true := by decide +kernel
theorem ax_k_c100_2 : (((ax_c100).drop 40).drop 40).all (ax_ok 1 false prog_14_method_101_code) = true := by decide +kernel
theorem ax_k100 : ax_okm ax_m100 ax_c100 = true := ax_cut 40 ax_k_c100_0 (ax_cut 40 ax_k_c100_1 (ax_k_c100_2))
theorem ax_k_c101_0 : (ax_c101).all (ax_ok 1 false prog_14_method_102_code) = true := by decide +kernel
theorem ax_k101 : ax_okm ax_m101 ax_c101 = true := ax_k_c101_0
theorem ax_k_c102_0 : ((ax_c102).take 40).all (ax_ok 1 false prog_14_method_103_code) = true := by decide +kernel
theorem ax_k_c102_1 : (((ax_c102).drop 40).take 40).all (ax_ok 1 false prog_14_method_103_code) = true := by decide +kernel
theorem ax_k_c102_2 : (((ax_c102).drop 40).drop 40).all (ax_ok 1 false prog_14_method_103_code) = true := by decide +kernel
theorem ax_k102 : ax_okm ax_m102 ax_c102 = true := ax_cut 40 ax_k_c102_0 (ax_cut 40 ax_k_c102_1 (ax_k_c102_2))
theorem ax_k_c103_0 : ((ax_c103).take 40).all (ax_ok 1 false prog_14_method_104_code) = true := by decide +kernel
theorem ax_k_c103_1 : ((ax_c103).drop 40).all (ax_ok 1 false prog_14_method_104_code) = true := by decide +kernel
theorem ax_k103 : ax_okm ax_m103 ax_c103 = true := ax_cut 40 ax_k_c103_0 (ax_k_c103_1)
theorem ax_k_c104_0 : (ax_c104).all (ax_ok 1 false prog_14_method_105_code) = true := by decide +kernel
theorem ax_k104 : ax_okm ax_m104 ax_c104 = true := ax_k_c104_0
theorem ax_k_c105_0 : (ax_c105).all (ax_ok 1 false prog_14_method_106_code) = true := by decide +kernel
theorem ax_k105 : ax_okm ax_m105 ax_c105 = true := ax_k_c105_0
theorem ax_k_c106_0 : ((ax_c106).take 40).all (ax_ok 1 false prog_14_method_107_code) = true := by decide +kernel
theorem ax_k_c106_1 : (((ax_c106).drop 40).take 40).all (ax_ok 1 false prog_14_method_107_code) = true := by decide +kernel
theorem ax_k_c106_2 : (((ax_c106).drop 40).drop 40).all (ax_ok 1 false prog_14_method_107_code) = true := by decide +kernel
theorem ax_k106 : ax_okm ax_m106 ax_c106 = true := ax_cut 40 ax_k_c106_0 (ax_cut 40 ax_k_c106_1 (ax_k_c106_2))
theorem ax_k_c107_0 : (ax_c107).all (ax_ok 1 false prog_14_method_108_code) = true := by decide +kernel
theorem ax_k107 : ax_okm ax_m107 ax_c107 = true := ax_k_c107_0
theorem ax_k_c108_0 : ((ax_c108).take 40).all (ax_ok 1 false prog_14_method_109_code) = true := by decide +kernel
theorem ax_k_c108_1 : (((ax_c108).drop 40).take 40).all (ax_ok 1 false prog_14_method_109_code) = true := by decide +kernel
theorem ax_k_c108_2 : (((ax_c108).drop 40).drop 40).all (ax_ok 1 false prog_14_method_109_code) = true := by decide +kernel
theorem ax_k108 : ax_okm ax_m108 ax_c108 = true := ax_cut 40 ax_k_c108_0 (ax_cut 40 ax_k_c108_1 (ax_k_c108_2))
theorem ax_k_c109_0 : ((ax_c109).take 40).all (ax_ok 1 false prog_14_method_110_code) = true := by decide +kernel
theorem ax_k_c109_1 : ((ax_c109).drop 40).all (ax_ok 1 false prog_14_method_110_code) = true := by decide +kernel
theorem ax_k109 : ax_okm ax_m109 ax_c109 = true := ax_cut 40 ax_k_c109_0 (ax_k_c109_1)
theorem ax_k_c110_0 : ((ax_c110).take 40).all (ax_ok 1 false prog_14_method_111_code) = true := by decide +kernel
theorem ax_k_c110_1 : ((ax_c110).drop 40).all (ax_ok 1 false prog_14_method_111_code) = true := by decide +kernel
theorem ax_k110 : ax_okm ax_m110 ax_c110 = true := ax_cut 40 ax_k_c110_0 (ax_k_c110_1)
theorem ax_k_c111_0 : ((ax_c111).take 40).all (ax_ok 13 false prog_16_method_49_code) = true := by decide +kernel
theorem ax_k_c111_1 : ((ax_c111).drop 40).all (ax_ok 13 false prog_16_method_49_code) = true := by decide +kernel
theorem ax_k111 : ax_okm ax_m111 ax_c111 = true := ax_cut 40 ax_k_c111_0 (ax_k_c111_1)
theorem ax_k_c112_0 : (ax_c112).all (ax_ok 15 false prog_19_method_103_code) = true := by decide +kernel
theorem ax_k112 : ax_okm ax_m112 ax_c112 = true := ax_k_c112_0
theorem ax_k_c113_0 : (ax_c113).all (ax_ok 15 false prog_19_method_123_code) = true := by decide +kernel
theorem ax_k113 : ax_okm ax_m113 ax_c113 = true := ax_k_c113_0
theorem ax_k_c114_0 : (ax_c114).all (ax_ok 0 true prog_3_method_1_code) = true := by decide +kernel
theorem ax_k114 : ax_okm ax_m114 ax_c114 = true := ax_k_c114_0
theorem ax_k_c115_0 : (ax_c115).all (ax_ok 0 false prog_3_method_2_code) = true := by decide +kernel
theorem ax_k115 : ax_okm ax_m115 ax_c115 = true := ax_k_c115_0
theorem ax_k_c116_0 : (ax_c116).all (ax_ok 0 false prog_3_method_3_code) = true := by decide +kernel
theorem ax_k116 : ax_okm ax_m116 ax_c116 = true := ax_k_c116_0
theorem ax_k_c117_0 : (ax_c117).all (ax_ok 0 false prog_3_method_4_code) = true := by decide +kernel
theorem ax_k117 : ax_okm ax_m117 ax_c117 = true := ax_k_c117_0
theorem ax_k_c118_0 : (ax_c118).all (ax_ok 0 false prog_3_method_5_code) = true := by decide +kernel
theorem ax_k118 : ax_okm ax_m118 ax_c118 = true := ax_k_c118_0
theorem ax_k_c119_0 : (ax_c119).all (ax_ok 0 false prog_3_method_6_code) = true := by decide +kernel
theorem ax_k119 : ax_okm ax_m119 ax_c119 = true := ax_k_c119_0
theorem ax_k_c120_0 : (ax_c120).all (ax_ok 0 false prog_3_method_7_code) = true := by decide +kernel
theorem ax_k120 : ax_okm ax_m120 ax_c120 = true := ax_k_c120_0
theorem ax_k_c121_0 : (ax_c121).all (ax_ok 0 false prog_3_method_8_code) = true := by decide +kernel
theorem ax_k121 : ax_okm ax_m121 ax_c121 = true := ax_k_c121_0
theorem ax_k_c122_0 : (ax_c122).all (ax_ok 0 false prog_3_method_9_code) = true := by decide +kernel
theorem ax_k122 : ax_okm ax_m122 ax_c122 = true := ax_k_c122_0
theorem ax_k_c123_0 : (ax_c123).all (ax_ok 0 false prog_3_method_10_code) = true := by decide +kernel
theorem ax_k123 : ax_okm ax_m123 ax_c123 = true := ax_k_c123_0
theorem ax_k_c124_0 : (ax_c124).all (ax_ok 0 false prog_3_method_11_code) = true := by decide +kernel
theorem ax_k124 : ax_okm ax_m124 ax_c124 = true := ax_k_c124_0
theorem ax_k_c125_0 : (ax_c125).all (ax_ok 0 false prog_3_method_12_code) = true := by decide +kernel
theorem ax_k125 : ax_okm ax_m125 ax_c125 = true := ax_k_c125_0
theorem ax_k_c126_0 : (ax_c126).all (ax_ok 0 false prog_3_method_13_code) = true := by decide +kernel
theorem ax_k126 : ax_okm ax_m126 ax_c126 = true := ax_k_c126_0
theorem ax_k_c127_0 : (ax_c127).all (ax_ok 0 false prog_3_method_14_code) = true := by decide +kernel
theorem ax_k127 : ax_okm ax_m127 ax_c127 = true := ax_k_c127_0
theorem ax_k_c128_0 : (ax_c128).all (ax_ok 2 true prog_2_method_1_code) = true := by decide +kernel
theorem ax_k128 : ax_okm ax_m128 ax_c128 = true := ax_k_c128_0
theorem ax_k_c129_0 : (ax_c129).all (ax_ok 2 false prog_2_method_2_code) = true := by decide +kernel
theorem ax_k129 : ax_okm ax_m129 ax_c129 = true := ax_k_c129_0
theorem ax_k_c130_0 : (ax_c130).all (ax_ok 2 false prog_2_method_3_code) = true := by decide +kernel
theorem ax_k130 : ax_okm ax_m130 ax_c130 = true := ax_k_c130_0
theorem ax_k_c131_0 : ((ax_c131).take 40).all (ax_ok 2 false prog_2_method_4_code) = true := by decide +kernel
theorem ax_k_c131_1 : ((ax_c131).drop 40).all (ax_ok 2 false prog_2_method_4_code) = true := by decide +kernel
theorem ax_k131 : ax_okm ax_m131 ax_c131 = true := ax_cut 40 ax_k_c131_0 (ax_k_c131_1)
theorem ax_k_c132_0 : (ax_c132).all (ax_ok 3 true prog_4_method_1_code) = true := by decide +kernel
theorem ax_k132 : ax_okm ax_m132 ax_c132 = true := ax_k_c132_0
theorem ax_k_c133_0 : (ax_c133).all (ax_ok 3 false prog_4_method_2_code) = true := by decide +kernel
theorem ax_k133 : ax_okm ax_m133 ax_c133 = true := ax_k_c133_0
theorem ax_k_c134_0 : ((ax_c134).take 40).all (ax_ok 3 false prog_4_method_3_code) = true := by decide +kernel
theorem ax_k_c134_1 : (((ax_c134).drop 40).take 40).all (ax_ok 3 false prog_4_method_3_code) = true := by decide +kernel
theorem ax_k_c134_2 : (((ax_c134).drop 40).drop 40).all (ax_ok 3 false prog_4_method_3_code) = true := by decide +kernel
theorem ax_k134 : ax_okm ax_m134 ax_c134 = true := ax_cut 40 ax_k_c134_0 (ax_cut 40 ax_k_c134_1 (ax_k_c134_2))
theorem ax_k_c135_0 : (ax_c135).all (ax_ok 3 false prog_4_method_4_code) = true := by decide +kernel
theorem ax_k135 : ax_okm ax_m135 ax_c135 = true := ax_k_c135_0
theorem ax_k_c136_0 : ((ax_c136).take 40).all (ax_ok 3 false prog_4_method_5_code) = true := by decide +kernel
theorem ax_k_c136_1 : ((ax_c136).drop 40).all (ax_ok 3 false prog_4_method_5_code) = true := by decide +kernel
theorem ax_k136 : ax_okm ax_m136 ax_c136 = true := ax_cut 40 ax_k_c136_0 (ax_k_c136_1)
theorem ax_k_c137_0 : (ax_c137).all (ax_ok 3 false prog_4_method_6_code) = true := by decide +kernel
theorem ax_k137 : ax_okm ax_m137 ax_c137 = true := ax_k_c137_0
theorem ax_k_c138_0 : (ax_c138).all (ax_ok 3 false prog_4_method_7_code) = true := by decide +kernel
theorem ax_k138 : ax_okm ax_m138 ax_c138 = true := ax_k_c138_0
theorem ax_k_c139_0 : (ax_c139).all (ax_ok 3 false prog_4_method_8_code) = true := by decide +kernel
theorem ax_k139 : ax_okm ax_m139 ax_c139 = true := ax_k_c139_0
theorem ax_k_c140_0 : (ax_c140).all (ax_ok 4 true prog_5_method_1_code) = true := by decide +kernel
theorem ax_k140 : ax_okm ax_m140 ax_c140 = true := ax_k_c140_0
theorem ax_k_c141_0 : ((ax_c141).take 40).all (ax_ok 4 false prog_5_method_2_code) = true := by decide +kernel
theorem ax_k_c141_1 : ((ax_c141).drop 40).all (ax_ok 4 false prog_5_method_2_code) = true := by decide +kernel
theorem ax_k141 : ax_okm ax_m141 ax_c141 = true := ax_cut 40 ax_k_c141_0 (ax_k_c141_1)
theorem ax_k_c142_0 : ((ax_c142).take 40).all (ax_ok 4 false prog_5_method_3_code) = true := by decide +kernel
theorem ax_k_c142_1 : ((ax_c142).drop 40).all (ax_ok 4 false prog_5_method_3_code) = true := by decide +kernel
theorem ax_k142 : ax_okm ax_m142 ax_c142 = true := ax_cut 40 ax_k_c142_0 (ax_k_c142_1)
theorem ax_k_c143_0 : (ax_c143).all (ax_ok 5 true prog_6_method_1_code) = true := by decide +kernel
theorem ax_k143 : ax_okm ax_m143 ax_c143 = true := ax_k_c143_0
theorem ax_k_c144_0 : (ax_c144).all (ax_ok 5 false prog_6_method_2_code) = true := by decide +kernel
theorem ax_k144 : ax_okm ax_m144 ax_c144 = true := ax_k_c144_0
theorem ax_k_c145_0 : (ax_c145).all (ax_ok 5 false prog_6_method_3_code) = true := by decide +kernel
theorem ax_k145 : ax_okm ax_m145 ax_c145 = true := ax_k_c145_0
theorem ax_k_c146_0 : (ax_c146).all (ax_ok 5 false prog_6_method_4_code) = true := by decide +kernel
theorem ax_k146 : ax_okm ax_m146 ax_c146 = true := ax_k_c146_0
theorem ax_k_c147_0 : ((ax_c147).take 40).all (ax_ok 5 false prog_6_method_5_code) = true := by decide +kernel
theorem ax_k_c147_1 : ((ax_c147).drop 40).all (ax_ok 5 false prog_6_method_5_code) = true := by decide +kernel
theorem ax_k147 : ax_okm ax_m147 ax_c147 = true := ax_cut 40 ax_k_c147_0 (ax_k_c147_1)
theorem ax_k_c148_0 : (ax_c148).all (ax_ok 5 false prog_6_method_6_code) = true := by decide +kernel
theorem ax_k148 : ax_okm ax_m148 ax_c148 = true := ax_k_c148_0
theorem ax_k_c149_0 : (ax_c149).all (ax_ok 5 false prog_6_method_7_code) = true := by decide +kernel
theorem ax_k149 : ax_okm ax_m149 ax_c149 = true := ax_k_c149_0
theorem ax_k_c150_0 : (ax_c150).all (ax_ok 6 true prog_7_method_1_code) = true := by decide +kernel
theorem ax_k150 : ax_okm ax_m150 ax_c150 = true := ax_k_c150_0
theorem ax_k_c151_0 : (ax_c151).all (ax_ok 6 false prog_7_method_2_code) = true := by decide +kernel
theorem ax_k151 : ax_okm ax_m151 ax_c151 = true := ax_k_c151_0
theorem ax_k_c152_0 : (ax_c152).all (ax_ok 6 false prog_7_method_3_code) = true := by decide +kernel
theorem ax_k152 : ax_okm ax_m152 ax_c152 = true := ax_k_c152_0
theorem ax_k_c153_0 : (ax_c153).all (ax_ok 6 false prog_7_method_4_code) = true := by decide +kernel
theorem ax_k153 : ax_okm ax_m153 ax_c153 = true := ax_k_c153_0
theorem ax_k_c154_0 : ((ax_c154).take 40).all (ax_ok 6 false prog_7_method_5_code) = true := by decide +kernel
theorem ax_k_c154_1 : ((ax_c154).drop 40).all (ax_ok 6 false prog_7_method_5_code) = true := by decide +kernel
theorem ax_k154 : ax_okm ax_m154 ax_c154 = true := ax_cut 40 ax_k_c154_0 (ax_k_c154_1)
theorem ax_k_c155_0 : ((ax_c155).take 40).all (ax_ok 7 true prog_8_method_1_code) = true := by decide +kernel
theorem ax_k_c155_1 : ((ax_c155).drop 40).all (ax_ok 7 true prog_8_method_1_code) = true := by decide +kernel
theorem ax_k155 : ax_okm ax_m155 ax_c155 = true := ax_cut 40 ax_k_c155_0 (ax_k_c155_1)
theorem ax_k_c156_0 : (ax_c156).all (ax_ok 7 false prog_8_method_2_code) = true := by decide +kernel
theorem ax_k156 : ax_okm ax_m156 ax_c156 = true := ax_k_c156_0
theorem ax_k_c157_0 : (ax_c157).all (ax_ok 7 false prog_8_method_3_code) = true := by decide +kernel
theorem ax_k157 : ax_okm ax_m157 ax_c157 = true := ax_k_c157_0
theorem ax_k_c158_0 : (ax_c158).all (ax_ok 7 false prog_8_method_4_code) = true := by decide +kernel
theorem ax_k158 : ax_okm ax_m158 ax_c158 = true := ax_k_c158_0
theorem ax_k_c159_0 : (ax_c159).all (ax_ok 7 false prog_8_method_5_code) = true := by decide +kernel
theorem ax_k159 : ax_okm ax_m159 ax_c159 = true := ax_k_c159_0
theorem ax_k_c160_0 : (ax_c160).all (ax_ok 7 false prog_8_method_6_code) = true := by decide +kernel
theorem ax_k160 : ax_okm ax_m160 ax_c160 = true := ax_k_c160_0
theorem ax_k_c161_0 : ((ax_c161).take 40).all (ax_ok 7 false prog_8_method_7_code) = true := by decide +kernel
theorem ax_k_c161_1 : ((ax_c161).drop 40).all (ax_ok 7 false prog_8_method_7_code) = true := by decide +kernel
theorem ax_k161 : ax_okm ax_m161 ax_c161 = true := ax_cut 40 ax_k_c161_0 (ax_k_c161_1)
theorem ax_k_c162_0 : ((ax_c162).take 40).all (ax_ok 7 false prog_8_method_8_code) = true := by decide +kernel
theorem ax_k_c162_1 : (((ax_c162).drop 40).take 40).all (ax_ok 7 false prog_8_method_8_code) = true := by decide +kernel
theorem ax_k_c162_2 : (((ax_c162).drop 40).drop 40).all (ax_ok 7 false prog_8_method_8_code) = true := by decide +kernel
theorem ax_k162 : ax_okm ax_m162 ax_c162 = true := ax_cut 40 ax_k_c162_0 (ax_cut 40 ax_k_c162_1 (ax_k_c162_2))
theorem ax_k_c163_0 : (ax_c163).all (ax_ok 7 false prog_8_method_9_code) = true := by decide +kernel
theorem ax_k163 : ax_okm ax_m163 ax_c163 = true := ax_k_c163_0
theorem ax_k_c164_0 : (ax_c164).all (ax_ok 7 false prog_8_method_10_code) = true := by decide +kernel
theorem ax_k164 : ax_okm ax_m164 ax_c164 = true := ax_k_c164_0
theorem ax_k_c165_0 : (ax_c165).all (ax_ok 7 false prog_8_method_11_code) = true := by decide +kernel
theorem ax_k165 : ax_okm ax_m165 ax_c165 = true := ax_k_c165_0
theorem ax_k_c166_0 : (ax_c166).all (ax_ok 7 false prog_8_method_12_code) = true := by decide +kernel
theorem ax_k166 : ax_okm ax_m166 ax_c166 = true := ax_k_c166_0
theorem ax_k_c167_0 : (ax_c167).all (ax_ok 7 false prog_8_method_13_code) = true := by decide +kernel
theorem ax_k167 : ax_okm ax_m167 ax_c167 = true := ax_k_c167_0
theorem ax_k_c168_0 : ((ax_c168).take 40).all (ax_ok 7 false prog_8_method_14_code) = true := by decide +kernel
theorem ax_k_c168_1 : ((ax_c168).drop 40).all (ax_ok 7 false prog_8_method_14_code) = true := by decide +kernel
theorem ax_k168 : ax_okm ax_m168 ax_c168 = true := ax_cut 40 ax_k_c168_0 (ax_k_c168_1)
theorem ax_k_c169_0 : ((ax_c169).take 40).all (ax_ok 7 false prog_8_method_15_code) = true := by decide +kernel
theorem ax_k_c169_1 : (((ax_c169).drop 40).take 40).all (ax_ok 7 false prog_8_method_15_code) = true := by decide +kernel
theorem ax_k_c169_2 : ((((ax_c169).drop 40).drop 40).take 40).all (ax_ok 7 false prog_8_method_15_code) = true := by decide +kernel
theorem ax_k_c169_3 : ((((ax_c169).drop 40).drop 40).drop 40).all (ax_ok 7 false prog_8_method_15_code) = true := by decide +kernel
theorem ax_k169 : ax_okm ax_m169 ax_c169 = true := ax_cut 40 ax_k_c169_0 (ax_cut 40 ax_k_c169_1 (ax_cut 40 ax_k_c169_2 (ax_k_c169_3)))
theorem ax_k_c170_0 : (ax_c170).all (ax_ok 7 false prog_8_method_16_code) = true := by decide +kernel
theorem ax_k170 : ax_okm ax_m170 ax_c170 = true := ax_k_c170_0
theorem ax_k_c171_0 : ((ax_c171).take 40).all (ax_ok 7 false prog_8_method_17_code) = true := by decide +kernel
theorem ax_k_c171_1 : ((ax_c171).drop 40).all (ax_ok 7 false prog_8_method_17_code) = true := by decide +kernel
theorem ax_k171 : ax_okm ax_m171 ax_c171 = true := ax_cut 40 ax_k_c171_0 (ax_k_c171_1)
theorem ax_k_c172_0 : ((ax_c172).take 40).all (ax_ok 7 false prog_8_method_18_code) = true := by decide +kernel
theorem ax_k_c172_1 : ((ax_c172).drop 40).all (ax_ok 7 false prog_8_method_18_code) = true := by decide +kernel
theorem ax_k172 : ax_okm ax_m172 ax_c172 = true := ax_cut 40 ax_k_c172_0 (ax_k_c172_1)
theorem ax_k_c173_0 : ((ax_c173).take 40).all (ax_ok 7 false prog_8_method_19_code) = true := by decide +kernel
theorem ax_k_c173_1 : ((ax_c173).drop 40).all (ax_ok 7 false prog_8_method_19_code) = true := by decide +kernel
theorem ax_k173 : ax_okm ax_m173 ax_c173 = true := ax_cut 40 ax_k_c173_0 (ax_k_c173_1)
theorem ax_k_c174_0 : ((ax_c174).take 40).all (ax_ok 7 false prog_8_method_20_code) = true := by decide +kernel
theorem ax_k_c174_1 : (((ax_c174).drop 40).take 40).all (ax_ok 7 false prog_8_method_20_code) = true := by decide +kernel
theorem ax_k_c174_2 : (((ax_c174).drop 40).drop 40).all (ax_ok 7 false prog_8_method_20_code) = true := by decide +kernel
theorem ax_k174 : ax_okm ax_m174 ax_c174 = true := ax_cut 40 ax_k_c174_0 (ax_cut 40 ax_k_c174_1 (ax_k_c174_2))
theorem ax_k_c175_0 : ((ax_c175).take 40).all (ax_ok 7 false prog_8_method_21_code) = true := by decide +kernel
theorem ax_k_c175_1 : ((ax_c175).drop 40).all (ax_ok 7 false prog_8_method_21_code) = true := by decide +kernel
theorem ax_k175 : ax_okm ax_m175 ax_c175 = true := ax_cut 40 ax_k_c175_0 (ax_k_c175_1)
theorem ax_k_c176_0 : (ax_c176).all (ax_ok 7 false prog_8_method_22_code) = true := by decide +kernel
theorem ax_k176 : ax_okm ax_m176 ax_c176 = true := ax_k_c176_0
theorem ax_k_c177_0 : (ax_c177).all (ax_ok 7 false prog_8_method_23_code) = true := by decide +kernel
theorem ax_k177 : ax_okm ax_m177 ax_c177 = true := ax_k_c177_0
theorem ax_k_c178_0 : (ax_c178).all (ax_ok 7 false prog_8_method_24_code) = true := by decide +kernel
theorem ax_k178 : ax_okm ax_m178 ax_c178 = true := ax_k_c178_0
theorem ax_k_c179_0 : ((ax_c179).take 40).all (ax_ok 7 false prog_8_method_25_code) = true := by decide +kernel
theorem ax_k_c179_1 : ((ax_c179).drop 40).all (ax_ok 7 false prog_8_method_25_code) = true := by decide +kernel
theorem ax_k179 : ax_okm ax_m179 ax_c179 = true := ax_cut 40 ax_k_c179_0 (ax_k_c179_1)
theorem ax_k_c180_0 : (ax_c180).all (ax_ok 7 false prog_8_method_26_code) = true := by decide +kernel
theorem ax_k180 : ax_okm ax_m180 ax_c180 = true := ax_k_c180_0
theorem ax_k_c181_0 : ((ax_c181).take 40).all (ax_ok 7 false prog_8_method_27_code) = true := by decide +kernel
theorem ax_k_c181_1 : ((ax_c181).drop 40).all (ax_ok 7 false prog_8_method_27_code) = true := by decide +kernel
theorem ax_k181 : ax_okm ax_m181 ax_c181 = true := ax_cut 40 ax_k_c181_0 (ax_k_c181_1)
theorem ax_k_c182_0 : (ax_c182).all (ax_ok 8 true prog_9_method_1_code) = true := by decide +kernel
theorem ax_k182 : ax_okm ax_m182 ax_c182 = true := ax_k_c182_0
theorem ax_k_c183_0 : (ax_c183).all (ax_ok 8 false prog_9_method_2_code) = true := by decide +kernel
theorem ax_k183 : ax_okm ax_m183 ax_c183 = true := ax_k_c183_0
theorem ax_k_c184_0 : (ax_c184).all (ax_ok 8 false prog_9_method_3_code) = true := by decide +kernel
theorem ax_k184 : ax_okm ax_m184 ax_c184 = true := ax_k_c184_0
theorem ax_k_c185_0 : (ax_c185).all (ax_ok 8 false prog_9_method_4_code) = true := by decide +kernel
theorem ax_k185 : ax_okm ax_m185 ax_c185 = true := ax_k_c185_0
theorem ax_k_c186_0 : (ax_c186).all (ax_ok 8 false prog_9_method_5_code) = true := by decide +kernel
theorem ax_k186 : ax_okm ax_m186 ax_c186 = true := ax_k_c186_0
theorem ax_k_c187_0 : (ax_c187).all (ax_ok 8 false prog_9_method_6_code) = true := by decide +kernel
theorem ax_k187 : ax_okm ax_m187 ax_c187 = true := ax_k_c187_0
theorem ax_k_c188_0 : (ax_c188).all (ax_ok 8 false prog_9_method_7_code) = true := by decide +kernel
theorem ax_k188 : ax_okm ax_m188 ax_c188 = true := ax_k_c188_0
theorem ax_k_c189_0 : (ax_c189).all (ax_ok 8 false prog_9_method_8_code) = true := by decide +kernel
theorem ax_k189 : ax_okm ax_m189 ax_c189 = true := ax_k_c189_0
theorem ax_k_c190_0 : ((ax_c190).take 40).all (ax_ok 8 false prog_9_method_9_code) = true := by decide +kernel
theorem ax_k_c190_1 : (((ax_c190).drop 40).take 40).all (ax_ok 8 false prog_9_method_9_code) = true := by decide +kernel
theorem ax_k_c190_2 : (((ax_c190).drop 40).drop 40).all (ax_ok 8 false prog_9_method_9_code) = true := by decide +kernel
theorem ax_k190 : ax_okm ax_m190 ax_c190 = true := ax_cut 40 ax_k_c190_0 (ax_cut 40 ax_k_c190_1 (ax_k_c190_2))
theorem ax_k_c191_0 : (ax_c191).all (ax_ok 8 false prog_9_method_10_code) = true := by decide +kernel
theorem ax_k191 : ax_okm ax_m191 ax_c191 = true := ax_k_c191_0
theorem ax_k_c192_0 : (ax_c192).all (ax_ok 8 false prog_9_method_11_code) = true := by decide +kernel
theorem ax_k192 : ax_okm ax_m192 ax_c192 = true := ax_k_c192_0
theorem ax_k_c193_0 : ((ax_c193).take 40).all (ax_ok 8 false prog_9_method_12_code) = true := by decide +kernel
theorem ax_k_c193_1 : ((ax_c193).drop 40).all (ax_ok 8 false prog_9_method_12_code) = true := by decide +kernel
theorem ax_k193 : ax_okm ax_m193 ax_c193 = true := ax_cut 40 ax_k_c193_0 (ax_k_c193_1)
theorem ax_k_c194_0 : ((ax_c194).take 40).all (ax_ok 8 false prog_9_method_13_code) = true := by decide +kernel
theorem ax_k_c194_1 : ((ax_c194).drop 40).all (ax_ok 8 false prog_9_method_13_code) = true := by decide +kernel
theorem ax_k194 : ax_okm ax_m194 ax_c194 = true := ax_cut 40 ax_k_c194_0 (ax_k_c194_1)
theorem ax_k_c195_0 : (ax_c195).all (ax_ok 9 true prog_10_method_1_code) = true := by decide +kernel
theorem ax_k195 : ax_okm ax_m195 ax_c195 = true := ax_k_c195_0
theorem ax_k_c196_0 : (ax_c196).all (ax_ok 9 false prog_10_method_2_code) = true := by decide +kernel
theorem ax_k196 : ax_okm ax_m196 ax_c196 = true := ax_k_c196_0
theorem ax_k_c197_0 : (ax_c197).all (ax_ok 9 false prog_10_method_3_code) = true := by decide +kernel
theorem ax_k197 : ax_okm ax_m197 ax_c197 = true := ax_k_c197_0
theorem ax_k_c198_0 : (ax_c198).all (ax_ok 9 false prog_10_method_4_code) = true := by decide +kernel
theorem ax_k198 : ax_okm ax_m198 ax_c198 = true := ax_k_c198_0
theorem ax_k_c199_0 : (ax_c199).all (ax_ok 9 false prog_10_method_5_code) = true := by decide +kernel
theorem ax_k199 : ax_okm ax_m199 ax_c199 = true := ax_k_c199_0
theorem ax_k_c200_0 : (ax_c200).all (ax_ok 9 false prog_10_method_6_code) = true := by decide +kernel
theorem ax_k200 : ax_okm ax_m200 ax_c200 = true := ax_k_c200_0
theorem ax_k_c201_0 : (ax_c201).all (ax_ok 9 false prog_10_method_7_code) = true := by decide +kernel
theorem ax_k201 : ax_okm ax_m201 ax_c201 = true := ax_k_c201_0
theorem ax_k_c202_0 : ((ax_c202).take 40).all (ax_ok 9 false prog_10_method_8_code) = true := by decide +kernel
theorem ax_k_c202_1 : ((ax_c202).drop 40).all (ax_ok 9 false prog_10_method_8_code) = true := by decide +kernel
theorem ax_k202 : ax_okm ax_m202 ax_c202 = true := ax_cut 40 ax_k_c202_0 (ax_k_c202_1)
theorem ax_k_c203_0 : ((ax_c203).take 40).all (ax_ok 9 false prog_10_method_9_code) = true := by decide +kernel
theorem ax_k_c203_1 : ((ax_c203).drop 40).all (ax_ok 9 false prog_10_method_9_code) = true := by decide +kernel
theorem ax_k203 : ax_okm ax_m203 ax_c203 = true := ax_cut 40 ax_k_c203_0 (ax_k_c203_1)
theorem ax_k_c204_0 : (ax_c204).all (ax_ok 9 false prog_10_method_10_code) = true := by decide +kernel
theorem ax_k204 : ax_okm ax_m204 ax_c204 = true := ax_k_c204_0
theorem ax_k_c205_0 : (ax_c205).all (ax_ok 9 false prog_10_method_11_code) = true := by decide +kernel
theorem ax_k205 : ax_okm ax_m205 ax_c205 = true := ax_k_c205_0
theorem ax_k_c206_0 : (ax_c206).all (ax_ok 9 false prog_10_method_12_code) = true := by decide +kernel
theorem ax_k206 : ax_okm ax_m206 ax_c206 = true := ax_k_c206_0
theorem ax_k_c207_0 : (ax_c207).all (ax_ok 9 false prog_10_method_13_code) = true := by decide +kernel
theorem ax_k207 : ax_okm ax_m207 ax_c207 = true := ax_k_c207_0
theorem ax_k_c208_0 : (ax_c208).all (ax_ok 9 false prog_10_method_14_code) = true := by decide +kernel
theorem ax_k208 : ax_okm ax_m208 ax_c208 = true := ax_k_c208_0
theorem ax_k_c209_0 : ((ax_c209).take 40).all (ax_ok 9 false prog_10_method_15_code) = true := by decide +kernel
theorem ax_k_c209_1 : (((ax_c209).drop 40).take 40).all (ax_ok 9 false prog_10_method_15_code) = true := by decide +kernel
theorem ax_k_c209_2 : (((ax_c209).drop 40).drop 40).all (ax_ok 9 false prog_10_method_15_code) = true := by decide +kernel
theorem ax_k209 : ax_okm ax_m209 ax_c209 = true := ax_cut 40 ax_k_c209_0 (ax_cut 40 ax_k_c209_1 (ax_k_c209_2))
theorem ax_k_c210_0 : (ax_c210).all (ax_ok 9 false prog_10_method_16_code) = true := by decide +kernel
theorem ax_k210 : ax_okm ax_m210 ax_c210 = true := ax_k_c210_0
theorem ax_k_c211_0 : (ax_c211).all (ax_ok 9 false prog_10_method_17_code) = true := by decide +kernel
theorem ax_k211 : ax_okm ax_m211 ax_c211 = true := ax_k_c211_0
theorem ax_k_c212_0 : (ax_c212).all (ax_ok 9 false prog_10_method_18_code) = true := by decide +kernel
theorem ax_k212 : ax_okm ax_m212 ax_c212 = true := ax_k_c212_0
theorem ax_k_c213_0 : ((ax_c213).take 40).all (ax_ok 9 false prog_10_method_19_code) = true := by decide +kernel
theorem ax_k_c213_1 : ((ax_c213).drop 40).all (ax_ok 9 false prog_10_method_19_code) = true := by decide +kernel
theorem ax_k213 : ax_okm ax_m213 ax_c213 = true := ax_cut 40 ax_k_c213_0 (ax_k_c213_1)
theorem ax_k_c214_0 : (ax_c214).all (ax_ok 9 false prog_10_method_20_code) = true := by decide +kernel
theorem ax_k214 : ax_okm ax_m214 ax_c214 = true := ax_k_c214_0
theorem ax_k_c215_0 : (ax_c215).all (ax_ok 9 false prog_10_method_21_code) = true := by decide +kernel
theorem ax_k215 : ax_okm ax_m215 ax_c215 = true := ax_k_c215_0
theorem ax_k_c216_0 : (ax_c216).all (ax_ok 9 false prog_10_method_22_code) = true := by decide +kernel
theorem ax_k216 : ax_okm ax_m216 ax_c216 = true := ax_k_c216_0
theorem ax_k_c217_0 : (ax_c217).all (ax_ok 9 false prog_10_method_23_code) = true := by decide +kernel
theorem ax_k217 : ax_okm ax_m217 ax_c217 = true := ax_k_c217_0
theorem ax_k_c218_0 : ((ax_c218).take 40).all (ax_ok 9 false prog_10_method_24_code) = true := by decide +kernel
theorem ax_k_c218_1 : ((ax_c218).drop 40).all (ax_ok 9 false prog_10_method_24_code) = true := by decide +kernel
theorem ax_k218 : ax_okm ax_m218 ax_c218 = true := ax_cut 40 ax_k_c218_0 (ax_k_c218_1)
theorem ax_k_c219_0 : (ax_c219).all (ax_ok 9 false prog_10_method_25_code) = true := by decide +kernel
theorem ax_k219 : ax_okm ax_m219 ax_c219 = true := ax_k_c219_0
theorem ax_k_c220_0 : ((ax_c220).take 40).all (ax_ok 9 false prog_10_method_26_code) = true := by decide +kernel
theorem ax_k_c220_1 : ((ax_c220).drop 40).all (ax_ok 9 false prog_10_method_26_code) = true := by decide +kernel
theorem ax_k220 : ax_okm ax_m220 ax_c220 = true := ax_cut 40 ax_k_c220_0 (ax_k_c220_1)
theorem ax_k_c221_0 : (ax_c221).all (ax_ok 9 false prog_10_method_27_code) = true := by decide +kernel
theorem ax_k221 : ax_okm ax_m221 ax_c221 = true := ax_k_c221_0
theorem ax_k_c222_0 : ((ax_c222).take 40).all (ax_ok 10 true prog_11_method_1_code) = true := by decide +kernel
theorem ax_k_c222_1 : ((ax_c222).drop 40).all (ax_ok 10 true prog_11_method_1_code) = true := by decide +kernel
theorem ax_k222 : ax_okm ax_m222 ax_c222 = true := ax_cut 40 ax_k_c222_0 (ax_k_c222_1)
theorem ax_k_c223_0 : (ax_c223).all (ax_ok 10 false prog_11_method_2_code) = true := by decide +kernel
theorem ax_k223 : ax_okm ax_m223 ax_c223 = true := ax_k_c223_0
theorem ax_k_c224_0 : (ax_c224).all (ax_ok 10 false prog_11_method_3_code) = true := by decide +kernel
theorem ax_k224 : ax_okm ax_m224 ax_c224 = true := ax_k_c224_0
theorem ax_k_c225_0 : (ax_c225).all (ax_ok 10 false prog_11_method_4_code) = true := by decide +kernel
theorem ax_k225 : ax_okm ax_m225 ax_c225 = true := ax_k_c225_0
theorem ax_k_c226_0 : (ax_c226).all (ax_ok 10 false prog_11_method_5_code) = true := by decide +kernel
theorem ax_k226 : ax_okm ax_m226 ax_c226 = true := ax_k_c226_0
theorem ax_k_c227_0 : (ax_c227).all (ax_ok 10 false prog_11_method_6_code) = true := by decide +kernel
theorem ax_k227 : ax_okm ax_m227 ax_c227 = true := ax_k_c227_0
theorem ax_k_c228_0 : (ax_c228).all (ax_ok 10 false prog_11_method_7_code) = true := by decide +kernel
theorem ax_k228 : ax_okm ax_m228 ax_c228 = true := ax_k_c228_0
theorem ax_k_c229_0 : (ax_c229).all (ax_ok 10 false prog_11_method_8_code) = true := by decide +kernel
theorem ax_k229 : ax_okm ax_m229 ax_c229 = true := ax_k_c229_0
theorem ax_k_c230_0 : (ax_c230).all (ax_ok 10 false prog_11_method_9_code) = true := by decide +kernel
theorem ax_k230 : ax_okm ax_m230 ax_c230 = true := ax_k_c230_0
theorem ax_k_c231_0 : (ax_c231).all (ax_ok 10 false prog_11_method_10_code) = true := by decide +kernel
theorem ax_k231 : ax_okm ax_m231 ax_c231 = true := ax_k_c231_0
theorem ax_k_c232_0 : (ax_c232).all (ax_ok 10 false prog_11_method_11_code) = true := by decide +kernel
theorem ax_k232 : ax_okm ax_m232 ax_c232 = true := ax_k_c232_0
theorem ax_k_c233_0 : (ax_c233).all (ax_ok 10 false prog_11_method_12_code) = true := by decide +kernel
theorem ax_k233 : ax_okm ax_m233 ax_c233 = true := ax_k_c233_0
theorem ax_k_c234_0 : (ax_c234).all (ax_ok 10 false prog_11_method_13_code) = true := by decide +kernel
theorem ax_k234 : ax_okm ax_m234 ax_c234 = true := ax_k_c234_0
theorem ax_k_c235_0 : (ax_c235).all (ax_ok 10 false prog_11_method_14_code) = true := by decide +kernel
theorem ax_k235 : ax_okm ax_m235 ax_c235 = true := ax_k_c235_0
theorem ax_k_c236_0 : ((ax_c236).take 40).all (ax_ok 10 false prog_11_method_15_code) = true := by decide +kernel
theorem ax_k_c236_1 : ((ax_c236).drop 40).all (ax_ok 10 false prog_11_method_15_code) = true := by decide +kernel
theorem ax_k236 : ax_okm ax_m236 ax_c236 = true := ax_cut 40 ax_k_c236_0 (ax_k_c236_1)
theorem ax_k_c237_0 : (ax_c237).all (ax_ok 10 false prog_11_method_16_code) = true := by decide +kernel
theorem ax_k237 : ax_okm ax_m237 ax_c237 = true := ax_k_c237_0
theorem ax_k_c238_0 : (ax_c238).all (ax_ok 10 false prog_11_method_17_code) = true := by decide +kernel
theorem ax_k238 : ax_okm ax_m238 ax_c238 = true := ax_k_c238_0
theorem ax_k_c239_0 : (ax_c239).all (ax_ok 10 false prog_11_method_18_code) = true := by decide +kernel
theorem ax_k239 : ax_okm ax_m239 ax_c239 = true := ax_k_c239_0
theorem ax_k_c240_0 : (ax_c240).all (ax_ok 11 true prog_12_method_1_code) = true := by decide +kernel
theorem ax_k240 : ax_okm ax_m240 ax_c240 = true := ax_k_c240_0
theorem ax_k_c241_0 : (ax_c241).all (ax_ok 11 false prog_12_method_2_code) = true := by decide +kernel
theorem ax_k241 : ax_okm ax_m241 ax_c241 = true := ax_k_c241_0
theorem ax_k_c242_0 : (ax_c242).all (ax_ok 11 false prog_12_method_3_code) = true := by decide +kernel
theorem ax_k242 : ax_okm ax_m242 ax_c242 = true := ax_k_c242_0
theorem ax_k_c243_0 : (ax_c243).all (ax_ok 11 false prog_12_method_4_code) = true := by decide +kernel
theorem ax_k243 : ax_okm ax_m243 ax_c243 = true := ax_k_c243_0
theorem ax_k_c244_0 : (ax_c244).all (ax_ok 11 false prog_12_method_5_code) = true := by decide +kernel
theorem ax_k244 : ax_okm ax_m244 ax_c244 = true := ax_k_c244_0
theorem ax_k_c245_0 : ((ax_c245).take 40).all (ax_ok 11 false prog_12_method_6_code) = true := by decide +kernel
theorem ax_k_c245_1 : ((ax_c245).drop 40).all (ax_ok 11 false prog_12_method_6_code) = true := by decide +kernel
theorem ax_k245 : ax_okm ax_m245 ax_c245 = true := ax_cut 40 ax_k_c245_0 (ax_k_c245_1)
theorem ax_k_c246_0 : (ax_c246).all (ax_ok 11 false prog_12_method_7_code) = true := by decide +kernel
theorem ax_k246 : ax_okm ax_m246 ax_c246 = true := ax_k_c246_0
theorem ax_k_c247_0 : (ax_c247).all (ax_ok 11 false prog_12_method_8_code) = true := by decide +kernel
theorem ax_k247 : ax_okm ax_m247 ax_c247 = true := ax_k_c247_0
theorem ax_k_c248_0 : (ax_c248).all (ax_ok 11 false prog_12_method_9_code) = true := by decide +kernel
theorem ax_k248 : ax_okm ax_m248 ax_c248 = true := ax_k_c248_0
theorem ax_k_c249_0 : (ax_c249).all (ax_ok 11 false prog_12_method_10_code) = true := by decide +kernel
theorem ax_k249 : ax_okm ax_m249 ax_c249 = true := ax_k_c249_0
theorem ax_k_c250_0 : (ax_c250).all (ax_ok 11 false prog_12_method_11_code) = true := by decide +kernel
theorem ax_k250 : ax_okm ax_m250 ax_c250 = true := ax_k_c250_0
theorem ax_k_c251_0 : ((ax_c251).take 40).all (ax_ok 12 true prog_1_method_1_code) = true := by decide +kernel
theorem ax_k_c251_1 : (((ax_c251).drop 40).take 40).all (ax_ok 12 true prog_1_method_1_code) = true := by decide +kernel
theorem ax_k_c251_2 : (((ax_c251).drop 40).drop 40).all (ax_ok 12 true prog_1_method_1_code) = true := by decide +kernel
theorem ax_k251 : ax_okm ax_m251 ax_c251 = true := ax_cut 40 ax_k_c251_0 (ax_cut 40 ax_k_c251_1 (ax_k_c251_2))
theorem ax_k_c252_0 : (ax_c252).all (ax_ok 12 false prog_1_method_2_code) = true := by decide +kernel
theorem ax_k252 : ax_okm ax_m252 ax_c252 = true := ax_k_c252_0
theorem ax_k_c253_0 : (ax_c253).all (ax_ok 12 false prog_1_method_3_code) = true := by decide +kernel
theorem ax_k253 : ax_okm ax_m253 ax_c253 = true := ax_k_c253_0
theorem ax_k_c254_0 : ((ax_c254).take 40).all (ax_ok 12 false prog_1_method_4_code) = true := by decide +kernel
theorem ax_k_c254_1 : ((ax_c254).drop 40).all (ax_ok 12 false prog_1_method_4_code) = true := by decide +kernel
theorem ax_k254 : ax_okm ax_m254 ax_c254 = true := ax_cut 40 ax_k_c254_0 (ax_k_c254_1)
theorem ax_k_c255_0 : (ax_c255).all (ax_ok 12 false prog_1_method_5_code) = true := by decide +kernel
theorem ax_k255 : ax_okm ax_m255 ax_c255 = true := ax_k_c255_0
theorem ax_k_c256_0 : (ax_c256).all (ax_ok 12 false prog_1_method_6_code) = true := by decide +kernel
theorem ax_k256 : ax_okm ax_m256 ax_c256 = true := ax_k_c256_0
theorem ax_k_c257_0 : (ax_c257).all (ax_ok 12 false prog_1_method_7_code) = true := by decide +kernel
theorem ax_k257 : ax_okm ax_m257 ax_c257 = true := ax_k_c257_0
theorem ax_k_c258_0 : ((ax_c258).take 40).all (ax_ok 12 false prog_1_method_8_code) = true := by decide +kernel
theorem ax_k_c258_1 : ((ax_c258).drop 40).all (ax_ok 12 false prog_1_method_8_code) = true := by decide +kernel
theorem ax_k258 : ax_okm ax_m258 ax_c258 = true := ax_cut 40 ax_k_c258_0 (ax_k_c258_1)
theorem ax_k_c259_0 : (ax_c259).all (ax_ok 12 false prog_1_method_9_code) = true := by decide +kernel
theorem ax_k259 : ax_okm ax_m259 ax_c259 = true := ax_k_c259_0
theorem ax_k_c260_0 : (ax_c260).all (ax_ok 12 false prog_1_method_10_code) = true := by decide +kernel
theorem ax_k260 : ax_okm ax_m260 ax_c260 = true := ax_k_c260_0
theorem ax_k_c261_0 : ((ax_c261).take 40).all (ax_ok 12 false prog_1_method_11_code) = true := by decide +kernel
theorem ax_k_c261_1 : ((ax_c261).drop 40).all (ax_ok 12 false prog_1_method_11_code) = true := by decide +kernel
theorem ax_k261 : ax_okm ax_m261 ax_c261 = true := ax_cut 40 ax_k_c261_0 (ax_k_c261_1)
theorem ax_k_c262_0 : ((ax_c262).take 40).all (ax_ok 12 false prog_1_method_12_code) = true := by decide +kernel
theorem ax_k_c262_1 : ((ax_c262).drop 40).all (ax_ok 12 false prog_1_method_12_code) = true := by decide +kernel
theorem ax_k262 : ax_okm ax_m262 ax_c262 = true := ax_cut 40 ax_k_c262_0 (ax_k_c262_1)
theorem ax_k_c263_0 : ((ax_c263).take 40).all (ax_ok 12 false prog_1_method_13_code) = true := by decide +kernel
theorem ax_k_c263_1 : ((ax_c263).drop 40).all (ax_ok 12 false prog_1_method_13_code) = true := by decide +kernel
theorem ax_k263 : ax_okm ax_m263 ax_c263 = true := ax_cut 40 ax_k_c263_0 (ax_k_c263_1)
theorem ax_k_c264_0 : ((ax_c264).take 40).all (ax_ok 12 false prog_1_method_14_code) = true := by decide +kernel
theorem ax_k_c264_1 : (((ax_c264).drop 40).take 40).all (ax_ok 12 false prog_1_method_14_code) = true := by decide +kernel
theorem ax_k_c264_2 : (((ax_c264).drop 40).drop 40).all (ax_ok 12 false prog_1_method_14_code) = true := by decide +kernel
theorem ax_k264 : ax_okm ax_m264 ax_c264 = true := ax_cut 40 ax_k_c264_0 (ax_cut 40 ax_k_c264_1 (ax_k_c264_2))
theorem ax_k_c265_0 : (ax_c265).all (ax_ok 12 false prog_1_method_15_code) = true := by decide +kernel
theorem ax_k265 : ax_okm ax_m265 ax_c265 = true := ax_k_c265_0
theorem ax_k_c266_0 : ((ax_c266).take 40).all (ax_ok 12 false prog_1_method_16_code) = true := by decide +kernel
theorem ax_k_c266_1 : ((ax_c266).drop 40).all (ax_ok 12 false prog_1_method_16_code) = true := by decide +kernel
theorem ax_k266 : ax_okm ax_m266 ax_c266 = true := ax_cut 40 ax_k_c266_0 (ax_k_c266_1)
theorem ax_k_c267_0 : (ax_c267).all (ax_ok 12 false prog_1_method_17_code) = true := by decide +kernel
theorem ax_k267 : ax_okm ax_m267 ax_c267 = true := ax_k_c267_0
theorem ax_k_c268_0 : ((ax_c268).take 40).all (ax_ok 12 false prog_1_method_18_code) = true := by decide +kernel
theorem ax_k_c268_1 : ((ax_c268).drop 40).all (ax_ok 12 false prog_1_method_18_code) = true := by decide +kernel
theorem ax_k268 : ax_okm ax_m268 ax_c268 = true := ax_cut 40 ax_k_c268_0 (ax_k_c268_1)
theorem ax_k_c269_0 : (ax_c269).all (ax_ok 12 false prog_1_method_19_code) = true := by decide +kernel
theorem ax_k269 : ax_okm ax_m269 ax_c269 = true := ax_k_c269_0
theorem ax_k_c270_0 : (ax_c270).all (ax_ok 12 false prog_1_method_20_code) = true := by decide +kernel
theorem ax_k270 : ax_okm ax_m270 ax_c270 = true := ax_k_c270_0
theorem ax_k_c271_0 : (ax_c271).all (ax_ok 12 false prog_1_method_21_code) = true := by decide +kernel
theorem ax_k271 : ax_okm ax_m271 ax_c271 = true := ax_k_c271_0
theorem ax_k_c272_0 : (ax_c272).all (ax_ok 12 false prog_1_method_22_code) = true := by decide +kernel
theorem ax_k272 : ax_okm ax_m272 ax_c272 = true := ax_k_c272_0
theorem ax_k_c273_0 : (ax_c273).all (ax_ok 12 false prog_1_method_23_code) = true := by decide +kernel
theorem ax_k273 : ax_okm ax_m273 ax_c273 = true := ax_k_c273_0
theorem ax_k_c274_0 : (ax_c274).all (ax_ok 12 false prog_1_method_24_code) = true := by decide +kernel
theorem ax_k274 : ax_okm ax_m274 ax_c274 = true := ax_k_c274_0
theorem ax_k_c275_0 : ((ax_c275).take 40).all (ax_ok 12 false prog_1_method_25_code) = true := by decide +kernel
theorem ax_k_c275_1 : ((ax_c275).drop 40).all (ax_ok 12 false prog_1_method_25_code) = true := by decide +kernel
theorem ax_k275 : ax_okm ax_m275 ax_c275 = true := ax_cut 40 ax_k_c275_0 (ax_k_c275_1)
theorem ax_k_c276_0 : ((ax_c276).take 40).all (ax_ok 12 false prog_1_method_26_code) = true := by decide +kernel
theorem ax_k_c276_1 : ((ax_c276).drop 40).all (ax_ok 12 false prog_1_method_26_code) = true := by decide +kernel
theorem ax_k276 : ax_okm ax_m276 ax_c276 = true := ax_cut 40 ax_k_c276_0 (ax_k_c276_1)
theorem ax_k_c277_0 : ((ax_c277).take 40).all (ax_ok 12 false prog_1_method_27_code) = true := by decide +kernel
theorem ax_k_c277_1 : (((ax_c277).drop 40).take 40).all (ax_ok 12 false prog_1_method_27_code) = true := by decide +kernel
theorem ax_k_c277_2 : (((ax_c277).drop 40).drop 40).all (ax_ok 12 false prog_1_method_27_code) = true := by decide +kernel
theorem ax_k277 : ax_okm ax_m277 ax_c277 = true := ax_cut 40 ax_k_c277_0 (ax_cut 40 ax_k_c277_1 (ax_k_c277_2))
theorem ax_k_c278_0 : ((ax_c278).take 40).all (ax_ok 12 false prog_1_method_28_code) = true := by decide +kernel
theorem ax_k_c278_1 : ((ax_c278).drop 40).all (ax_ok 12 false prog_1_method_28_code) = true := by decide +kernel
theorem ax_k278 : ax_okm ax_m278 ax_c278 = true := ax_cut 40 ax_k_c278_0 (ax_k_c278_1)
theorem ax_k_c279_0 : (ax_c279).all (ax_ok 12 false prog_1_method_29_code) = true := by decide +kernel
theorem ax_k279 : ax_okm ax_m279 ax_c279 = true := ax_k_c279_0
theorem ax_k_c280_0 : (ax_c280).all (ax_ok 12 false prog_1_method_30_code) = true := by decide +kernel
theorem ax_k280 : ax_okm ax_m280 ax_c280 = true := ax_k_c280_0
theorem ax_k_c281_0 : (ax_c281).all (ax_ok 12 false prog_1_method_31_code) = true := by decide +kernel
theorem ax_k281 : ax_okm ax_m281 ax_c281 = true := ax_k_c281_0
theorem ax_k_c282_0 : ((ax_c282).take 40).all (ax_ok 12 false prog_1_method_32_code) = true := by decide +kernel
theorem ax_k_c282_1 : ((ax_c282).drop 40).all (ax_ok 12 false prog_1_method_32_code) = true := by decide +kernel
theorem ax_k282 : ax_okm ax_m282 ax_c282 = true := ax_cut 40 ax_k_c282_0 (ax_k_c282_1)
theorem ax_k_L_0 : ((ax_cL).take 40).all (ax_ok 16 false code) = true := by decide +kernel
theorem ax_k_L_1 : (((ax_cL).drop 40).take 40).all (ax_ok 16 false code) = true := by decide +kernel
theorem ax_k_L_2 : ((((ax_cL).drop 40).drop 40).take 40).all (ax_ok 16 false code) = true := by decide +kernel
theorem ax_k_L_3 : (((((ax_cL).drop 40).drop 40).drop 40).take 40).all (ax_ok 16 false code) = true := by decide +kernel
theorem ax_k_L_4 : ((((((ax_cL).drop 40).drop 40).drop 40).drop 40).take 40).all (ax_ok 16 false code) = true := by decide +kernel
theorem ax_k_L_5 : (((((((ax_cL).drop 40).drop 40).drop 40).drop 40).drop 40).take 40).all (ax_ok 16 false code) = true := by decide +kernel
theorem ax_k_L_6 : ((((((((ax_cL).drop 40).drop 40).drop 40).drop 40).drop 40).drop 40).take 40).all (ax_ok 16 false code) = true := by decide +kernel
theorem ax_k_L_7 : (((((((((ax_cL).drop 40).drop 40).drop 40).drop 40).drop 40).drop 40).drop 40).take 40).all (ax_ok 16 false code) = true := by decide +kernel
theorem ax_k_L_8 : ((((((((((ax_cL).drop 40).drop 40).drop 40).drop 40).drop 40).drop 40).drop 40).drop 40).take 40).all (ax_ok 16 false code) = true := by decide +kernel
theorem ax_k_L_9 : (((((((((((ax_cL).drop 40).drop 40).drop 40).drop 40).drop 40).drop 40).drop 40).drop 40).drop 40).take 40).all (ax_ok 16 false code) = true := by decide +kernel
theorem ax_k_L_10 : ((((((((((((ax_cL).drop 40).drop 40).drop 40).drop 40).drop 40).drop 40).drop 40).drop 40).drop 40).drop 40).take 40).all (ax_ok 16 false code) = true := by decide +kernel
theorem ax_k_L_11 : (((((((((((((ax_cL).drop 40).drop 40).drop 40).drop 40).drop 40).drop 40).drop 40).drop 40).drop 40).drop 40).drop 40).take 40).all (ax_ok 16 false code) = true := by decide +kernel
theorem ax_k_L_12 : ((((((((((((((ax_cL).drop 40).drop 40).drop 40).drop 40).drop 40).drop 40).drop 40).drop 40).drop 40).drop 40).drop 40).drop 40).take 40).all (ax_ok 16 false code) = true := by decide +kernel
theorem ax_k_L_13 : (((((((((((((((ax_cL).drop 40).drop 40).drop 40).drop 40).drop 40).drop 40).drop 40).drop 40).drop 40).drop 40).drop 40).drop 40).drop 40).take 40).all (ax_ok 16 false code) = true := by decide +kernel
theorem ax_k_L_14 : ((((((((((((((((ax_cL).drop 40).drop 40).drop 40).drop 40).drop 40).drop 40).drop 40).drop 40).drop 40).drop 40).drop 40).drop 40).drop 40).drop 40).take 40).all (ax_ok 16 false code) = true := by decide +kernel
theorem ax_k_L_15 : ((((((((((((((((ax_cL).drop 40).drop 40).drop 40).drop 40).drop 40).drop 40).drop 40).drop 40).drop 40).drop 40).drop 40).drop 40).drop 40).drop 40).drop 40).all (ax_ok 16 false code) = true := by decide +kernel
theorem ax_cL_ok : ax_cL.all (ax_ok 16 false code) = true := ax_cut 40 ax_k_L_0 (ax_cut 40 ax_k_L_1 (ax_cut 40 ax_k_L_2 (ax_cut 40 ax_k_L_3 (ax_cut 40 ax_k_L_4 (ax_cut 40 ax_k_L_5 (ax_cut 40 ax_k_L_6 (ax_cut 40 ax_k_L_7 (ax_cut 40 ax_k_L_8 (ax_cut 40 ax_k_L_9 (ax_cut 40 ax_k_L_10 (ax_cut 40 ax_k_L_11 (ax_cut 40 ax_k_L_12 (ax_cut 40 ax_k_L_13 (ax_cut 40 ax_k_L_14 (ax_k_L_15)))))))))))))))
theorem ax_k_FR_0 : ((ax_FR).take 60).all (ax_FRb) = true := by decide +kernel
theorem ax_k_FR_1 : (((ax_FR).drop 60).take 60).all (ax_FRb) = true := by decide +kernel
theorem ax_k_FR_2 : ((((ax_FR).drop 60).drop 60).take 60).all (ax_FRb) = true := by decide +kernel
theorem ax_k_FR_3 : (((((ax_FR).drop 60).drop 60).drop 60).take 60).all (ax_FRb) = true := by decide +kernel
theorem ax_k_FR_4 : (((((ax_FR).drop 60).drop 60).drop 60).drop 60).all (ax_FRb) = true := by decide +kernel
theorem ax_FR_ok : ax_FR.all ax_FRb = true := ax_cut 60 ax_k_FR_0 (ax_cut 60 ax_k_FR_1 (ax_cut 60 ax_k_FR_2 (ax_cut 60 ax_k_FR_3 (ax_k_FR_4))))
theorem ax_k_MR_0 : ((ax_MR).take 60).all (ax_MRb) = true := by decide +kernel
theorem ax_k_MR_1 : (((ax_MR).drop 60).take 60).all (ax_MRb) = true := by decide +kernel
theorem ax_k_MR_2 : ((((ax_MR).drop 60).drop 60).take 60).all (ax_MRb) = true := by decide +kernel
theorem ax_k_MR_3 : (((((ax_MR).drop 60).drop 60).drop 60).take 60).all (ax_MRb) = true := by decide +kernel
theorem ax_k_MR_4 : ((((((ax_MR).drop 60).drop 60).drop 60).drop 60).take 60).all (ax_MRb) = true := by decide +kernel
theorem ax_k_MR_5 : (((((((ax_MR).drop 60).drop 60).drop 60).drop 60).drop 60).take 60).all (ax_MRb) = true := by decide +kernel
theorem ax_k_MR_6 : (((((((ax_MR).drop 60).drop 60).drop 60).drop 60).drop 60).drop 60).all (ax_MRb) = true := by decide +kernel
theorem ax_MR_ok : ax_MR.all ax_MRb = true := ax_cut 60 ax_k_MR_0 (ax_cut 60 ax_k_MR_1 (ax_cut 60 ax_k_MR_2 (ax_cut 60 ax_k_MR_3 (ax_cut 60 ax_k_MR_4 (ax_cut 60 ax_k_MR_5 (ax_k_MR_6))))))
theorem ax_k_CR_0 : (ax_CR).all (ax_CRb) = true := by decide +kernel
theorem ax_CR_ok : ax_CR.all ax_CRb = true := ax_k_CR_0
theorem ax_k_KR_0 : (ax_KR).all (ax_KRb) = true := by decide +kernel
theorem ax_KR_ok : ax_KR.all ax_KRb = true := ax_k_KR_0
theorem ax_k_LR_0 : (ax_LR).all (ax_LRb) = true := by decide +kernel
theorem ax_LR_ok : ax_LR.all ax_LRb = true := ax_k_LR_0
theorem ax_km0 : ax_Mb ax_m0 = true := by decide +kernel
set_option maxRecDepth 20000 in
theorem ax_kc0 : ax_Mc ax_m0 := rfl
theorem ax_km1 : ax_Mb ax_m1 = true := by decide +kernel
set_option maxRecDepth 20000 in
theorem ax_kc1 : ax_Mc ax_m1 := rfl
theorem ax_km2 : ax_Mb ax_m2 = true := by decide +kernel
set_option maxRecDepth 20000 in
theorem ax_kc2 : ax_Mc ax_m2 := rfl
theorem ax_km3 : ax_Mb ax_m3 = true := by decide +kernel
set_option maxRecDepth 20000 in
theorem ax_kc3 : ax_Mc ax_m3 := rfl
theorem ax_km4 : ax_Mb ax_m4 = true := by decide +kernel
set_option maxRecDepth 20000 in
theorem ax_kc4 : ax_Mc ax_m4 := rfl
theorem ax_km5 : ax_Mb ax_m5 = true := by decide +kernel
set_option maxRecDepth 20000 in
theorem ax_kc5 : ax_Mc ax_m5 := rfl
theorem ax_km6 : ax_Mb ax_m6 = true := by decide +kernel
set_option maxRecDepth 20000 in
theorem ax_kc6 : ax_Mc ax_m6 := rfl
theorem ax_km7 : ax_Mb ax_m7 = true := by decide +kernel
set_option maxRecDepth 20000 in
theorem ax_kc7 : ax_Mc ax_m7 := rfl
theorem ax_km8 : ax_Mb ax_m8 = true := by decide +kernel
set_option maxRecDepth 20000 in
theorem ax_kc8 : ax_Mc ax_m8 := rfl
theorem ax_km9 : ax_Mb ax_m9 = true := by decide +kernel
set_option maxRecDepth 20000 in
theorem ax_kc9 : ax_Mc ax_m9 := rfl
theorem ax_km10 : ax_Mb ax_m10 = true := by decide +kernel
set_option maxRecDepth 20000 in
theorem ax_kc10 : ax_Mc ax_m10 := rfl
theorem ax_km11 : ax_Mb ax_m11 = true := by decide +kernel
set_option maxRecDepth 20000 in
theorem ax_kc11 : ax_Mc ax_m11 := rfl
theorem ax_km12 : ax_Mb ax_m12 = true := by decide +kernel
set_option maxRecDepth 20000 in
theorem ax_kc12 : ax_Mc ax_m12 := rfl
theorem ax_km13 : ax_Mb ax_m13 = true := by decide +kernel
set_option maxRecDepth 20000 in
theorem ax_kc13 : ax_Mc ax_m13 := rfl
theorem ax_km14 : ax_Mb ax_m14 = true := by decide +kernel
set_option maxRecDepth 20000 in
theorem ax_kc14 : ax_Mc ax_m14 := rfl
theorem ax_km15 : ax_Mb ax_m15 = true := by decide +kernel
set_option maxRecDepth 20000 in
theorem ax_kc15 : ax_Mc ax_m15 := rfl
theorem ax_km16 : ax_Mb ax_m16 = true := by decide +kernel
set_option maxRecDepth 20000 in
theorem ax_kc16 : ax_Mc ax_m16 := rfl
theorem ax_km17 : ax_Mb ax_m17 = true := by decide +kernel
set_option maxRecDepth 20000 in
theorem ax_kc17 : ax_Mc ax_m17 := rfl
theorem ax_km18 : ax_Mb ax_m18 = true := by decide +kernel
set_option maxRecDepth 20000 in
theorem ax_kc18 : ax_Mc ax_m18 := rfl
theorem ax_km19 : ax_Mb ax_m19 = true := by decide +kernel
set_option maxRecDepth 20000 in
theorem ax_kc19 : ax_Mc ax_m19 := rfl
theorem ax_km20 : ax_Mb ax_m20 = true := by decide +kernel
set_option maxRecDepth 20000 in
theorem ax_kc20 : ax_Mc ax_m20 := rfl
theorem ax_km21 : ax_Mb ax_m21 = true := by decide +kernel
set_option maxRecDepth 20000 in
theorem ax_kc21 : ax_Mc ax_m21 := rfl
theorem ax_km22 : ax_Mb ax_m22 = true := by decide +kernel
set_option maxRecDepth 20000 in
theorem ax_kc22 : ax_Mc ax_m22 := rfl
theorem ax_km23 : ax_Mb ax_m23 = true := by decide +kernel
set_option maxRecDepth 20000 in
theorem ax_kc23 : ax_Mc ax_m23 := rfl
theorem ax_km24 : ax_Mb ax_m24 = true := by decide +kernel
set_option maxRecDepth 20000 in
theorem ax_kc24 : ax_Mc ax_m24 := rfl
theorem ax_km25 : ax_Mb ax_m25 = true := by decide +kernel
set_option maxRecDepth 20000 in
theorem ax_kc25 : ax_Mc ax_m25 := rfl
theorem ax_km26 : ax_Mb ax_m26 = true := by decide +kernel
set_option maxRecDepth 20000 in
theorem ax_kc26 : ax_Mc ax_m26 := rfl
theorem ax_km27 : ax_Mb ax_m27 = true := by decide +kernel
set_option maxRecDepth 20000 in
theorem ax_kc27 : ax_Mc ax_m27 := rfl
theorem ax_km28 : ax_Mb ax_m28 = true := by decide +kernel
set_option maxRecDepth 20000 in
theorem ax_kc28 : ax_Mc ax_m28 := rfl
theorem ax_km29 : ax_Mb ax_m29 = true := by decide +kernel
set_option maxRecDepth 20000 in
theorem ax_kc29 : ax_Mc ax_m29 := rfl
theorem ax_km30 : ax_Mb ax_m30 = true := by decide +kernel
set_option maxRecDepth 20000 in
theorem ax_kc30 : ax_Mc ax_m30 := rfl
theorem ax_km31 : ax_Mb ax_m31 = true := by decide +kernel
set_option maxRecDepth 20000 in
theorem ax_kc31 : ax_Mc ax_m31 := rfl
theorem ax_km32 : ax_Mb ax_m32 = true := by decide +kernel
set_option maxRecDepth 20000 in
theorem ax_kc32 : ax_Mc ax_m32 := rfl
theorem ax_km33 : ax_Mb ax_m33 = true := by decide +kernel
set_option maxRecDepth 20000 in
theorem ax_kc33 : ax_Mc ax_m33 := rfl
theorem ax_km34 : ax_Mb ax_m34 = true := by decide +kernel
set_option maxRecDepth 20000 in
theorem ax_kc34 : ax_Mc ax_m34 := rfl
theorem ax_km35 : ax_Mb ax_m35 = true := by decide +kernel
set_option maxRecDepth 20000 in
theorem ax_kc35 : ax_Mc ax_m35 := rfl
theorem ax_km36 : ax_Mb ax_m36 = true := by decide +kernel
set_option maxRecDepth 20000 in
theorem ax_kc36 : ax_Mc ax_m36 := rfl
theorem ax_km37 : ax_Mb ax_m37 = true := by decide +kernel
set_option maxRecDepth 20000 in
theorem ax_kc37 : ax_Mc ax_m37 := rfl
theorem ax_km38 : ax_Mb ax_m38 = true := by decide +kernel
set_option maxRecDepth 20000 in
theorem ax_kc38 : ax_Mc ax_m38 := rfl
theorem ax_km39 : ax_Mb ax_m39 = true := by decide +kernel
set_option maxRecDepth 20000 in
theorem ax_kc39 : ax_Mc ax_m39 := rfl
theorem ax_km40 : ax_Mb ax_m40 = true := by decide +kernel
set_option maxRecDepth 20000 in
theorem ax_kc40 : ax_Mc ax_m40 := rfl
theorem ax_km41 : ax_Mb ax_m41 = true := by decide +kernel
set_option maxRecDepth 20000 in
theorem ax_kc41 : ax_Mc ax_m41 := rfl
theorem ax_km42 : ax_Mb ax_m42 = true := by decide +kernel
set_option maxRecDepth 20000 in
theorem ax_kc42 : ax_Mc ax_m42 := rfl
theorem ax_km43 : ax_Mb ax_m43 = true := by decide +kernel
set_option maxRecDepth 20000 in
theorem ax_kc43 : ax_Mc ax_m43 := rfl
theorem ax_km44 : ax_Mb ax_m44 = true := by decide +kernel
set_option maxRecDepth 20000 in
theorem ax_kc44 : ax_Mc ax_m44 := rfl
theorem ax_km45 : ax_Mb ax_m45 = true := by decide +kernel
set_option maxRecDepth 20000 in
theorem ax_kc45 : ax_Mc ax_m45 := rfl
theorem ax_km46 : ax_Mb ax_m46 = true := by decide +kernel
set_option maxRecDepth 20000 in
theorem ax_kc46 : ax_Mc ax_m46 := rfl
theorem ax_km47 : ax_Mb ax_m47 = true := by decide +kernel
set_option maxRecDepth 20000 in
theorem ax_kc47 : ax_Mc ax_m47 := rfl
theorem ax_km48 : ax_Mb ax_m48 = true := by decide +kernel
set_option maxRecDepth 20000 in
theorem ax_kc48 : ax_Mc ax_m48 := rfl
theorem ax_km49 : ax_Mb ax_m49 = true := by decide +kernel
set_option maxRecDepth 20000 in
theorem ax_kc49 : ax_Mc ax_m49 := rfl
theorem ax_km50 : ax_Mb ax_m50 = true := by decide +kernel
set_option maxRecDepth 20000 in
theorem ax_kc50 : ax_Mc ax_m50 := rfl
theorem ax_km51 : ax_Mb ax_m51 = true := by decide +kernel
set_option maxRecDepth 20000 in
theorem ax_kc51 : ax_Mc ax_m51 := rfl
theorem ax_km52 : ax_Mb ax_m52 = true := by decide +kernel
set_option maxRecDepth 20000 in
theorem ax_kc52 : ax_Mc ax_m52 := rfl
theorem ax_km53 : ax_Mb ax_m53 = true := by decide +kernel
set_option maxRecDepth 20000 in
theorem ax_kc53 : ax_Mc ax_m53 := rfl
theorem ax_km54 : ax_Mb ax_m54 = true := by decide +kernel
set_option maxRecDepth 20000 in
theorem ax_kc54 : ax_Mc ax_m54 := rfl
theorem ax_km55 : ax_Mb ax_m55 = true := by decide +kernel
set_option maxRecDepth 20000 in
theorem ax_kc55 : ax_Mc ax_m55 := rfl
theorem ax_km56 : ax_Mb ax_m56 = true := by decide +kernel
set_option maxRecDepth 20000 in
theorem ax_kc56 : ax_Mc ax_m56 := rfl
theorem ax_km57 : ax_Mb ax_m57 = true := by decide +kernel
set_option maxRecDepth 20000 in
theorem ax_kc57 : ax_Mc ax_m57 := rfl
theorem ax_km58 : ax_Mb ax_m58 = true := by decide +kernel
set_option maxRecDepth 20000 in
theorem ax_kc58 : ax_Mc ax_m58 := rfl
theorem ax_km59 : ax_Mb ax_m59 = true := by decide +kernel
set_option maxRecDepth 20000 in
theorem ax_kc59 : ax_Mc ax_m59 := rfl
theorem ax_km60 : ax_Mb ax_m60 = true := by decide +kernel
set_option maxRecDepth 20000 in
theorem ax_kc60 : ax_Mc ax_m60 := rfl
theorem ax_km61 : ax_Mb ax_m61 = true := by decide +kernel
set_option maxRecDepth 20000 in
theorem ax_kc61 : ax_Mc ax_m61 := rfl
theorem ax_km62 : ax_Mb ax_m62 = true := by decide +kernel
set_option maxRecDepth 20000 in
theorem ax_kc62 : ax_Mc ax_m62 := rfl
theorem ax_km63 : ax_Mb ax_m63 = true := by decide +kernel
set_option maxRecDepth 20000 in
theorem ax_kc63 : ax_Mc ax_m63 := rfl
theorem ax_km64 : ax_Mb ax_m64 = true := by decide +kernel
set_option maxRecDepth 20000 in
theorem ax_kc64 : ax_Mc ax_m64 := rfl
theorem ax_km65 : ax_Mb ax_m65 = true := by decide +kernel
set_option maxRecDepth 20000 in
theorem ax_kc65 : ax_Mc ax_m65 := rfl
theorem ax_km66 : ax_Mb ax_m66 = true := by decide +kernel
set_option maxRecDepth 20000 in
theorem ax_kc66 : ax_Mc ax_m66 := rfl
theorem ax_km67 : ax_Mb ax_m67 = true := by decide +kernel
set_option maxRecDepth 20000 in
theorem ax_kc67 : ax_Mc ax_m67 := rfl
theorem ax_km68 : ax_Mb ax_m68 = true := by decide +kernel
set_option maxRecDepth 20000 in
theorem ax_kc68 : ax_Mc ax_m68 := rfl
theorem ax_km69 : ax_Mb ax_m69 = true := by decide +kernel
set_option maxRecDepth 20000 in
theorem ax_kc69 : ax_Mc ax_m69 := rfl
theorem ax_km70 : ax_Mb ax_m70 = true := by decide +kernel
set_option maxRecDepth 20000 in
theorem ax_kc70 : ax_Mc ax_m70 := rfl
theorem ax_km71 : ax_Mb ax_m71 = true := by decide +kernel
set_option maxRecDepth 20000 in
theorem ax_kc71 : ax_Mc ax_m71 := rfl
theorem ax_km72 : ax_Mb ax_m72 = true := by decide +kernel
set_option maxRecDepth 20000 in
theorem ax_kc72 : ax_Mc ax_m72 := rfl
theorem ax_km73 : ax_Mb ax_m73 = true := by decide +kernel
set_option maxRecDepth 20000 in
theorem ax_kc73 : ax_Mc ax_m73 := rfl
theorem ax_km74 : ax_Mb ax_m74 = true := by decide +kernel
set_option maxRecDepth 20000 in
theorem ax_kc74 : ax_Mc ax_m74 := rfl
theorem ax_km75 : ax_Mb ax_m75 = true := by decide +kernel
set_option maxRecDepth 20000 in
theorem ax_kc75 : ax_Mc ax_m75 := rfl
theorem ax_km76 : ax_Mb ax_m76 = true := by decide +kernel
set_option maxRecDepth 20000 in
theorem ax_kc76 : ax_Mc ax_m76 := rfl
theorem ax_km77 : ax_Mb ax_m77 = true := by decide +kernel
set_option maxRecDepth 20000 in
theorem ax_kc77 : ax_Mc ax_m77 := rfl
theorem ax_km78 : ax_Mb ax_m78 = true := by decide +kernel
set_option maxRecDepth 20000 in
theorem ax_kc78 : ax_Mc ax_m78 := rfl
theorem ax_km79 : ax_Mb ax_m79 = true := by decide +kernel
set_option maxRecDepth 20000 in
theorem ax_kc79 : ax_Mc ax_m79 := rfl
theorem ax_km80 : ax_Mb ax_m80 = true := by decide +kernel
set_option maxRecDepth 20000 in
theorem ax_kc80 : ax_Mc ax_m80 := rfl
theorem ax_km81 : ax_Mb ax_m81 = true := by decide +kernel
set_option maxRecDepth 20000 in
theorem ax_kc81 : ax_Mc ax_m81 := rfl
theorem ax_km82 : ax_Mb ax_m82 = true := by decide +kernel
set_option maxRecDepth 20000 in
theorem ax_kc82 : ax_Mc ax_m82 := rfl
theorem ax_km83 : ax_Mb ax_m83 = true := by decide +kernel
set_option maxRecDepth 20000 in
theorem ax_kc83 : ax_Mc ax_m83 := rfl
theorem ax_km84 : ax_Mb ax_m84 = true := by decide +kernel
set_option maxRecDepth 20000 in
theorem ax_kc84 : ax_Mc ax_m84 := rfl
theorem ax_km85 : ax_Mb ax_m85 = true := by decide +kernel
set_option maxRecDepth 20000 in
theorem ax_kc85 : ax_Mc ax_m85 := rfl
theorem ax_km86 : ax_Mb ax_m86 = true := by decide +kernel
set_option maxRecDepth 20000 in
theorem ax_kc86 : ax_Mc ax_m86 := rfl
theorem ax_km87 : ax_Mb ax_m87 = true := by decide +kernel
set_option maxRecDepth 20000 in
theorem ax_kc87 : ax_Mc ax_m87 := rfl
theorem ax_km88 : ax_Mb ax_m88 = true := by decide +kernel
set_option maxRecDepth 20000 in
theorem ax_kc88 : ax_Mc ax_m88 := rfl
theorem ax_km89 : ax_Mb ax_m89 = true := by decide +kernel
set_option maxRecDepth 20000 in
theorem ax_kc89 : ax_Mc ax_m89 := rfl
theorem ax_km90 : ax_Mb ax_m90 = true := by decide +kernel
set_option maxRecDepth 20000 in
theorem ax_kc90 : ax_Mc ax_m90 := rfl
theorem ax_km91 : ax_Mb ax_m91 = true := by decide +kernel
set_option maxRecDepth 20000 in
theorem ax_kc91 : ax_Mc ax_m91 := rfl
theorem ax_km92 : ax_Mb ax_m92 = true := by decide +kernel
set_option maxRecDepth 20000 in
theorem ax_kc92 : ax_Mc ax_m92 := rfl
theorem ax_km93 : ax_Mb ax_m93 = true := by decide +kernel
set_option maxRecDepth 20000 in
theorem ax_kc93 : ax_Mc ax_m93 := rfl
theorem ax_km94 : ax_Mb ax_m94 = true := by decide +kernel
set_option maxRecDepth 20000 in
theorem ax_kc94 : ax_Mc ax_m94 := rfl
theorem ax_km95 : ax_Mb ax_m95 = true := by decide +kernel
set_option maxRecDepth 20000 in
theorem ax_kc95 : ax_Mc ax_m95 := rfl
theorem ax_km96 : ax_Mb ax_m96 = true := by decide +kernel
set_option maxRecDepth 20000 in
theorem ax_kc96 : ax_Mc ax_m96 := rfl
theorem ax_km97 : ax_Mb ax_m97 = true := by decide +kernel
set_option maxRecDepth 20000 in
theorem ax_kc97 : ax_Mc ax_m97 := rfl
theorem ax_km98 : ax_Mb ax_m98 = true := by decide +kernel
set_option maxRecDepth 20000 in
theorem ax_kc98 : ax_Mc ax_m98 := rfl
theorem ax_km99 : ax_Mb ax_m99 = true := by decide +kernel
set_option maxRecDepth 20000 in
theorem ax_kc99 : ax_Mc ax_m99 := rfl
theorem ax_km100 : ax_Mb ax_m100 = true := by decide +kernel
set_option maxRecDepth 20000 in
theorem ax_kc100 : ax_Mc ax_m100 := rfl
theorem ax_km101 : ax_Mb ax_m101 = true := by decide +kernel
set_option maxRecDepth 20000 in
theorem ax_kc101 : ax_Mc ax_m101 := rfl
theorem ax_km102 : ax_Mb ax_m102 = true := by decide +kernel
set_option maxRecDepth 20000 in
theorem ax_kc102 : ax_Mc ax_m102 := rfl
theorem ax_km103 : ax_Mb ax_m103 = true := by decide +kernel
set_option maxRecDepth 20000 in
theorem ax_kc103 : ax_Mc ax_m103 := rfl
theorem ax_km104 : ax_Mb ax_m104 = true := by decide +kernel
set_option maxRecDepth 20000 in
theorem ax_kc104 : ax_Mc ax_m104 := rfl
theorem ax_km105 : ax_Mb ax_m105 = true := by decide +kernel
set_option maxRecDepth 20000 in
theorem ax_kc105 : ax_Mc ax_m105 := rfl
theorem ax_km106 : ax_Mb ax_m106 = true := by decide +kernel
set_option maxRecDepth 20000 in
theorem ax_kc106 : ax_Mc ax_m106 := rfl
theorem ax_km107 : ax_Mb ax_m107 = true := by decide +kernel
set_option maxRecDepth 20000 in
theorem ax_kc107 : ax_Mc ax_m107 := rfl
theorem ax_km108 : ax_Mb ax_m108 = true := by decide +kernel
set_option maxRecDepth 20000 in
theorem ax_kc108 : ax_Mc ax_m108 := rfl
theorem ax_km109 : ax_Mb ax_m109 = true := by decide +kernel
set_option maxRecDepth 20000 in
theorem ax_kc109 : ax_Mc ax_m109 := rfl
theorem ax_km110 : ax_Mb ax_m110 = true := by decide +kernel
set_option maxRecDepth 20000 in
theorem ax_kc110 : ax_Mc ax_m110 := rfl
theorem ax_km111 : ax_Mb ax_m111 = true := by decide +kernel
set_option maxRecDepth 20000 in
theorem ax_kc111 : ax_Mc ax_m111 := rfl
theorem ax_km112 : ax_Mb ax_m112 = true := by decide +kernel
set_option maxRecDepth 20000 in
theorem ax_kc112 : ax_Mc ax_m112 := rfl
theorem ax_km113 : ax_Mb ax_m113 = true := by decide +kernel
set_option maxRecDepth 20000 in
theorem ax_kc113 : ax_Mc ax_m113 := rfl
theorem ax_km114 : ax_Mb ax_m114 = true := by decide +kernel
set_option maxRecDepth 20000 in
theorem ax_kc114 : ax_Mc ax_m114 := rfl
theorem ax_km115 : ax_Mb ax_m115 = true := by decide +kernel
set_option maxRecDepth 20000 in
theorem ax_kc115 : ax_Mc ax_m115 := rfl
theorem ax_km116 : ax_Mb ax_m116 = true := by decide +kernel
set_option maxRecDepth 20000 in
theorem ax_kc116 : ax_Mc ax_m116 := rfl
theorem ax_km117 : ax_Mb ax_m117 = true := by decide +kernel
set_option maxRecDepth 20000 in
theorem ax_kc117 : ax_Mc ax_m117 := rfl
theorem ax_km118 : ax_Mb ax_m118 = true := by decide +kernel
set_option maxRecDepth 20000 in
theorem ax_kc118 : ax_Mc ax_m118 := rfl
theorem ax_km119 : ax_Mb ax_m119 = true := by decide +kernel
set_option maxRecDepth 20000 in
theorem ax_kc119 : ax_Mc ax_m119 := rfl
theorem ax_km120 : ax_Mb ax_m120 = true := by decide +kernel
set_option maxRecDepth 20000 in
theorem ax_kc120 : ax_Mc ax_m120 := rfl
theorem ax_km121 : ax_Mb ax_m121 = true := by decide +kernel
set_option maxRecDepth 20000 in
theorem ax_kc121 : ax_Mc ax_m121 := rfl
theorem ax_km122 : ax_Mb ax_m122 = true := by decide +kernel
set_option maxRecDepth 20000 in
theorem ax_kc122 : ax_Mc ax_m122 := rfl
theorem ax_km123 : ax_Mb ax_m123 = true := by decide +kernel
set_option maxRecDepth 20000 in
theorem ax_kc123 : ax_Mc ax_m123 := rfl
theorem ax_km124 : ax_Mb ax_m124 = true := by decide +kernel
set_option maxRecDepth 20000 in
theorem ax_kc124 : ax_Mc ax_m124 := rfl
theorem ax_km125 : ax_Mb ax_m125 = true := by decide +kernel
set_option maxRecDepth 20000 in
theorem ax_kc125 : ax_Mc ax_m125 := rfl
theorem ax_km126 : ax_Mb ax_m126 = true := by decide +kernel
set_option maxRecDepth 20000 in
theorem ax_kc126 : ax_Mc ax_m126 := rfl
theorem ax_km127 : ax_Mb ax_m127 = true := by decide +kernel
set_option maxRecDepth 20000 in
theorem ax_kc127 : ax_Mc ax_m127 := rfl
theorem ax_km128 : ax_Mb ax_m128 = true := by decide +kernel
set_option maxRecDepth 20000 in
theorem ax_kc128 : ax_Mc ax_m128 := rfl
theorem ax_km129 : ax_Mb ax_m129 = true := by decide +kernel
set_option maxRecDepth 20000 in
theorem ax_kc129 : ax_Mc ax_m129 := rfl
theorem ax_km130 : ax_Mb ax_m130 = true := by decide +kernel
set_option maxRecDepth 20000 in
theorem ax_kc130 : ax_Mc ax_m130 := rfl
theorem ax_km131 : ax_Mb ax_m131 = true := by decide +kernel
set_option maxRecDepth 20000 in
theorem ax_kc131 : ax_Mc ax_m131 := rfl
theorem ax_km132 : ax_Mb ax_m132 = true := by decide +kernel
set_option maxRecDepth 20000 in
theorem ax_kc132 : ax_Mc ax_m132 := rfl
theorem ax_km133 : ax_Mb ax_m133 = true := by decide +kernel
set_option maxRecDepth 20000 in
theorem ax_kc133 : ax_Mc ax_m133 := rfl
theorem ax_km134 : ax_Mb ax_m134 = true := by decide +kernel
set_option maxRecDepth 20000 in
theorem ax_kc134 : ax_Mc ax_m134 := rfl
theorem ax_km135 : ax_Mb ax_m135 = true := by decide +kernel
set_option maxRecDepth 20000 in
theorem ax_kc135 : ax_Mc ax_m135 := rfl
theorem ax_km136 : ax_Mb ax_m136 = true := by decide +kernel
set_option maxRecDepth 20000 in
theorem ax_kc136 : ax_Mc ax_m136 := rfl
theorem ax_km137 : ax_Mb ax_m137 = true := by decide +kernel
set_option maxRecDepth 20000 in
theorem ax_kc137 : ax_Mc ax_m137 := rfl
theorem ax_km138 : ax_Mb ax_m138 = true := by decide +kernel
set_option maxRecDepth 20000 in
theorem ax_kc138 : ax_Mc ax_m138 := rfl
theorem ax_km139 : ax_Mb ax_m139 = true := by decide +kernel
set_option maxRecDepth 20000 in
theorem ax_kc139 : ax_Mc ax_m139 := rfl
theorem ax_km140 : ax_Mb ax_m140 = true := by decide +kernel
set_option maxRecDepth 20000 in
theorem ax_kc140 : ax_Mc ax_m140 := rfl
theorem ax_km141 : ax_Mb ax_m141 = true := by decide +kernel
set_option maxRecDepth 20000 in
theorem ax_kc141 : ax_Mc ax_m141 := rfl
theorem ax_km142 : ax_Mb ax_m142 = true := by decide +kernel
set_option maxRecDepth 20000 in
theorem ax_kc142 : ax_Mc ax_m142 := rfl
theorem ax_km143 : ax_Mb ax_m143 = true := by decide +kernel
set_option maxRecDepth 20000 in
theorem ax_kc143 : ax_Mc ax_m143 := rfl
theorem ax_km144 : ax_Mb ax_m144 = true := by decide +kernel
set_option maxRecDepth 20000 in
theorem ax_kc144 : ax_Mc ax_m144 := rfl
theorem ax_km145 : ax_Mb ax_m145 = true := by decide +kernel
set_option maxRecDepth 20000 in
theorem ax_kc145 : ax_Mc ax_m145 := rfl
theorem ax_km146 : ax_Mb ax_m146 = true := by decide +kernel
set_option maxRecDepth 20000 in
theorem ax_kc146 : ax_Mc ax_m146 := rfl
theorem ax_km147 : ax_Mb ax_m147 = true := by decide +kernel
set_option maxRecDepth 20000 in
theorem ax_kc147 : ax_Mc ax_m147 := rfl
theorem ax_km148 : ax_Mb ax_m148 = true := by decide +kernel
set_option maxRecDepth 20000 in
theorem ax_kc148 : ax_Mc ax_m148 := rfl
theorem ax_km149 : ax_Mb ax_m149 = true := by decide +kernel
set_option maxRecDepth 20000 in
theorem ax_kc149 : ax_Mc ax_m149 := rfl
theorem ax_km150 : ax_Mb ax_m150 = true := by decide +kernel
set_option maxRecDepth 20000 in
theorem ax_kc150 : ax_Mc ax_m150 := rfl
theorem ax_km151 : ax_Mb ax_m151 = true := by decide +kernel
set_option maxRecDepth 20000 in
theorem ax_kc151 : ax_Mc ax_m151 := rfl
theorem ax_km152 : ax_Mb ax_m152 = true := by decide +kernel
set_option maxRecDepth 20000 in
theorem ax_kc152 : ax_Mc ax_m152 := rfl
theorem ax_km153 : ax_Mb ax_m153 = true := by decide +kernel
set_option maxRecDepth 20000 in
theorem ax_kc153 : ax_Mc ax_m153 := rfl
theorem ax_km154 : ax_Mb ax_m154 = true := by decide +kernel
set_option maxRecDepth 20000 in
theorem ax_kc154 : ax_Mc ax_m154 := rfl
theorem ax_km155 : ax_Mb ax_m155 = true := by decide +kernel
set_option maxRecDepth 20000 in
theorem ax_kc155 : ax_Mc ax_m155 := rfl
theorem ax_km156 : ax_Mb ax_m156 = true := by decide +kernel
set_option maxRecDepth 20000 in
theorem ax_kc156 : ax_Mc ax_m156 := rfl
theorem ax_km157 : ax_Mb ax_m157 = true := by decide +kernel
set_option maxRecDepth 20000 in
theorem ax_kc157 : ax_Mc ax_m157 := rfl
theorem ax_km158 : ax_Mb ax_m158 = true := by decide +kernel
set_option maxRecDepth 20000 in
theorem ax_kc158 : ax_Mc ax_m158 := rfl
theorem ax_km159 : ax_Mb ax_m159 = true := by decide +kernel
set_option maxRecDepth 20000 in
theorem ax_kc159 : ax_Mc ax_m159 := rfl
theorem ax_km160 : ax_Mb ax_m160 = true := by decide +kernel
set_option maxRecDepth 20000 in
theorem ax_kc160 : ax_Mc ax_m160 := rfl
theorem ax_km161 : ax_Mb ax_m161 = true := by decide +kernel
set_option maxRecDepth 20000 in
theorem ax_kc161 : ax_Mc ax_m161 := rfl
theorem ax_km162 : ax_Mb ax_m162 = true := by decide +kernel
set_option maxRecDepth 20000 in
theorem ax_kc162 : ax_Mc ax_m162 := rfl
theorem ax_km163 : ax_Mb ax_m163 = true := by decide +kernel
set_option maxRecDepth 20000 in
theorem ax_kc163 : ax_Mc ax_m163 := rfl
theorem ax_km164 : ax_Mb ax_m164 = true := by decide +kernel
set_option maxRecDepth 20000 in
theorem ax_kc164 : ax_Mc ax_m164 := rfl
theorem ax_km165 : ax_Mb ax_m165 = true := by decide +kernel
set_option maxRecDepth 20000 in
theorem ax_kc165 : ax_Mc ax_m165 := rfl
theorem ax_km166 : ax_Mb ax_m166 = true := by decide +kernel
set_option maxRecDepth 20000 in
theorem ax_kc166 : ax_Mc ax_m166 := rfl
theorem ax_km167 : ax_Mb ax_m167 = true := by decide +kernel
set_option maxRecDepth 20000 in
theorem ax_kc167 : ax_Mc ax_m167 := rfl
theorem ax_km168 : ax_Mb ax_m168 = true := by decide +kernel
set_option maxRecDepth 20000 in
theorem ax_kc168 : ax_Mc ax_m168 := rfl
theorem ax_km169 : ax_Mb ax_m169 = true := by decide +kernel
set_option maxRecDepth 20000 in
theorem ax_kc169 : ax_Mc ax_m169 := rfl
theorem ax_km170 : ax_Mb ax_m170 = true := by decide +kernel
set_option maxRecDepth 20000 in
theorem ax_kc170 : ax_Mc ax_m170 := rfl
theorem ax_km171 : ax_Mb ax_m171 = true := by decide +kernel
set_option maxRecDepth 20000 in
theorem ax_kc171 : ax_Mc ax_m171 := rfl
theorem ax_km172 : ax_Mb ax_m172 = true := by decide +kernel
set_option maxRecDepth 20000 in
theorem ax_kc172 : ax_Mc ax_m172 := rfl
theorem ax_km173 : ax_Mb ax_m173 = true := by decide +kernel
set_option maxRecDepth 20000 in
theorem ax_kc173 : ax_Mc ax_m173 := rfl
theorem ax_km174 : ax_Mb ax_m174 = true := by decide +kernel
set_option maxRecDepth 20000 in
theorem ax_kc174 : ax_Mc ax_m174 := rfl
theorem ax_km175 : ax_Mb ax_m175 = true := by decide +kernel
set_option maxRecDepth 20000 in
theorem ax_kc175 : ax_Mc ax_m175 := rfl
theorem ax_km176 : ax_Mb ax_m176 = true := by decide +kernel
set_option maxRecDepth 20000 in
theorem ax_kc176 : ax_Mc ax_m176 := rfl
theorem ax_km177 : ax_Mb ax_m177 = true := by decide +kernel
set_option maxRecDepth 20000 in
theorem ax_kc177 : ax_Mc ax_m177 := rfl
theorem ax_km178 : ax_Mb ax_m178 = true := by decide +kernel
set_option maxRecDepth 20000 in
theorem ax_kc178 : ax_Mc ax_m178 := rfl
theorem ax_km179 : ax_Mb ax_m179 = true := by decide +kernel
set_option maxRecDepth 20000 in
theorem ax_kc179 : ax_Mc ax_m179 := rfl
theorem ax_km180 : ax_Mb ax_m180 = true := by decide +kernel
set_option maxRecDepth 20000 in
theorem ax_kc180 : ax_Mc ax_m180 := rfl
theorem ax_km181 : ax_Mb ax_m181 = true := by decide +kernel
set_option maxRecDepth 20000 in
theorem ax_kc181 : ax_Mc ax_m181 := rfl
theorem ax_km182 : ax_Mb ax_m182 = true := by decide +kernel
set_option maxRecDepth 20000 in
theorem ax_kc182 : ax_Mc ax_m182 := rfl
theorem ax_km183 : ax_Mb ax_m183 = true := by decide +kernel
set_option maxRecDepth 20000 in
theorem ax_kc183 : ax_Mc ax_m183 := rfl
theorem ax_km184 : ax_Mb ax_m184 = true := by decide +kernel
set_option maxRecDepth 20000 in
theorem ax_kc184 : ax_Mc ax_m184 := rfl
theorem ax_km185 : ax_Mb ax_m185 = true := by decide +kernel
set_option maxRecDepth 20000 in
theorem ax_kc185 : ax_Mc ax_m185 := rfl
theorem ax_km186 : ax_Mb ax_m186 = true := by decide +kernel
set_option maxRecDepth 20000 in
theorem ax_kc186 : ax_Mc ax_m186 := rfl
theorem ax_km187 : ax_Mb ax_m187 = true := by decide +kernel
set_option maxRecDepth 20000 in
theorem ax_kc187 : ax_Mc ax_m187 := rfl
theorem ax_km188 : ax_Mb ax_m188 = true := by decide +kernel
set_option maxRecDepth 20000 in
theorem ax_kc188 : ax_Mc ax_m188 := rfl
theorem ax_km189 : ax_Mb ax_m189 = true := by decide +kernel
set_option maxRecDepth 20000 in
theorem ax_kc189 : ax_Mc ax_m189 := rfl
theorem ax_km190 : ax_Mb ax_m190 = true := by decide +kernel
set_option maxRecDepth 20000 in
theorem ax_kc190 : ax_Mc ax_m190 := rfl
theorem ax_km191 : ax_Mb ax_m191 = true := by decide +kernel
set_option maxRecDepth 20000 in
theorem ax_kc191 : ax_Mc ax_m191 := rfl
theorem ax_km192 : ax_Mb ax_m192 = true := by decide +kernel
set_option maxRecDepth 20000 in
theorem ax_kc192 : ax_Mc ax_m192 := rfl
theorem ax_km193 : ax_Mb ax_m193 = true := by decide +kernel
set_option maxRecDepth 20000 in
theorem ax_kc193 : ax_Mc ax_m193 := rfl
theorem ax_km194 : ax_Mb ax_m194 = true := by decide +kernel
set_option maxRecDepth 20000 in
theorem ax_kc194 : ax_Mc ax_m194 := rfl
theorem ax_km195 : ax_Mb ax_m195 = true := by decide +kernel
set_option maxRecDepth 20000 in
theorem ax_kc195 : ax_Mc ax_m195 := rfl
theorem ax_km196 : ax_Mb ax_m196 = true := by decide +kernel
set_option maxRecDepth 20000 in
theorem ax_kc196 : ax_Mc ax_m196 := rfl
theorem ax_km197 : ax_Mb ax_m197 = true := by decide +kernel
set_option maxRecDepth 20000 in
theorem ax_kc197 : ax_Mc ax_m197 := rfl
theorem ax_km198 : ax_Mb ax_m198 = true := by decide +kernel
set_option maxRecDepth 20000 in
theorem ax_kc198 : ax_Mc ax_m198 := rfl
theorem ax_km199 : ax_Mb ax_m199 = true := by decide +kernel
set_option maxRecDepth 20000 in
theorem ax_kc199 : ax_Mc ax_m199 := rfl
theorem ax_km200 : ax_Mb ax_m200 = true := by decide +kernel
set_option maxRecDepth 20000 in
theorem ax_kc200 : ax_Mc ax_m200 := rfl
theorem ax_km201 : ax_Mb ax_m201 = true := by decide +kernel
set_option maxRecDepth 20000 in
theorem ax_kc201 : ax_Mc ax_m201 := rfl
theorem ax_km202 : ax_Mb ax_m202 = true := by decide +kernel
set_option maxRecDepth 20000 in
theorem ax_kc202 : ax_Mc ax_m202 := rfl
theorem ax_km203 : ax_Mb ax_m203 = true := by decide +kernel
set_option maxRecDepth 20000 in
theorem ax_kc203 : ax_Mc ax_m203 := rfl
theorem ax_km204 : ax_Mb ax_m204 = true := by decide +kernel
set_option maxRecDepth 20000 in
theorem ax_kc204 : ax_Mc ax_m204 := rfl
theorem ax_km205 : ax_Mb ax_m205 = true := by decide +kernel
set_option maxRecDepth 20000 in
theorem ax_kc205 : ax_Mc ax_m205 := rfl
theorem ax_km206 : ax_Mb ax_m206 = true := by decide +kernel
set_option maxRecDepth 20000 in
theorem ax_kc206 : ax_Mc ax_m206 := rfl
theorem ax_km207 : ax_Mb ax_m207 = true := by decide +kernel
set_option maxRecDepth 20000 in
theorem ax_kc207 : ax_Mc ax_m207 := rfl
theorem ax_km208 : ax_Mb ax_m208 = true := by decide +kernel
set_option maxRecDepth 20000 in
theorem ax_kc208 : ax_Mc ax_m208 := rfl
theorem ax_km209 : ax_Mb ax_m209 = true := by decide +kernel
set_option maxRecDepth 20000 in
theorem ax_kc209 : ax_Mc ax_m209 := rfl
theorem ax_km210 : ax_Mb ax_m210 = true := by decide +kernel
set_option maxRecDepth 20000 in
theorem ax_kc210 : ax_Mc ax_m210 := rfl
theorem ax_km211 : ax_Mb ax_m211 = true := by decide +kernel
set_option maxRecDepth 20000 in
theorem ax_kc211 : ax_Mc ax_m211 := rfl
theorem ax_km212 : ax_Mb ax_m212 = true := by decide +kernel
set_option maxRecDepth 20000 in
theorem ax_kc212 : ax_Mc ax_m212 := rfl
theorem ax_km213 : ax_Mb ax_m213 = true := by decide +kernel
set_option maxRecDepth 20000 in
theorem ax_kc213 : ax_Mc ax_m213 := rfl
theorem ax_km214 : ax_Mb ax_m214 = true := by decide +kernel
set_option maxRecDepth 20000 in
theorem ax_kc214 : ax_Mc ax_m214 := rfl
theorem ax_km215 : ax_Mb ax_m215 = true := by decide +kernel
set_option maxRecDepth 20000 in
theorem ax_kc215 : ax_Mc ax_m215 := rfl
theorem ax_km216 : ax_Mb ax_m216 = true := by decide +kernel
set_option maxRecDepth 20000 in
theorem ax_kc216 : ax_Mc ax_m216 := rfl
theorem ax_km217 : ax_Mb ax_m217 = true := by decide +kernel
set_option maxRecDepth 20000 in
theorem ax_kc217 : ax_Mc ax_m217 := rfl
theorem ax_km218 : ax_Mb ax_m218 = true := by decide +kernel
set_option maxRecDepth 20000 in
theorem ax_kc218 : ax_Mc ax_m218 := rfl
theorem ax_km219 : ax_Mb ax_m219 = true := by decide +kernel
set_option maxRecDepth 20000 in
theorem ax_kc219 : ax_Mc ax_m219 := rfl
theorem ax_km220 : ax_Mb ax_m220 = true := by decide +kernel
set_option maxRecDepth 20000 in
theorem ax_kc220 : ax_Mc ax_m220 := rfl
theorem ax_km221 : ax_Mb ax_m221 = true := by decide +kernel
set_option maxRecDepth 20000 in
theorem ax_kc221 : ax_Mc ax_m221 := rfl
theorem ax_km222 : ax_Mb ax_m222 = true := by decide +kernel
set_option maxRecDepth 20000 in
theorem ax_kc222 : ax_Mc ax_m222 := rfl
theorem ax_km223 : ax_Mb ax_m223 = true := by decide +kernel
set_option maxRecDepth 20000 in
theorem ax_kc223 : ax_Mc ax_m223 := rfl
theorem ax_km224 : ax_Mb ax_m224 = true := by decide +kernel
set_option maxRecDepth 20000 in
theorem ax_kc224 : ax_Mc ax_m224 := rfl
theorem ax_km225 : ax_Mb ax_m225 = true := by decide +kernel
set_option maxRecDepth 20000 in
theorem ax_kc225 : ax_Mc ax_m225 := rfl
theorem ax_km226 : ax_Mb ax_m226 = true := by decide +kernel
set_option maxRecDepth 20000 in
theorem ax_kc226 : ax_Mc ax_m226 := rfl
theorem ax_km227 : ax_Mb ax_m227 = true := by decide +kernel
set_option maxRecDepth 20000 in
theorem ax_kc227 : ax_Mc ax_m227 := rfl
theorem ax_km228 : ax_Mb ax_m228 = true := by decide +kernel
set_option maxRecDepth 20000 in
theorem ax_kc228 : ax_Mc ax_m228 := rfl
theorem ax_km229 : ax_Mb ax_m229 = true := by decide +kernel
set_option maxRecDepth 20000 in
theorem ax_kc229 : ax_Mc ax_m229 := rfl
theorem ax_km230 : ax_Mb ax_m230 = true := by decide +kernel
set_option maxRecDepth 20000 in
theorem ax_kc230 : ax_Mc ax_m230 := rfl
theorem ax_km231 : ax_Mb ax_m231 = true := by decide +kernel
set_option maxRecDepth 20000 in
theorem ax_kc231 : ax_Mc ax_m231 := rfl
theorem ax_km232 : ax_Mb ax_m232 = true := by decide +kernel
set_option maxRecDepth 20000 in
theorem ax_kc232 : ax_Mc ax_m232 := rfl
theorem ax_km233 : ax_Mb ax_m233 = true := by decide +kernel
set_option maxRecDepth 20000 in
theorem ax_kc233 : ax_Mc ax_m233 := rfl
theorem ax_km234 : ax_Mb ax_m234 = true := by decide +kernel
set_option maxRecDepth 20000 in
theorem ax_kc234 : ax_Mc ax_m234 := rfl
theorem ax_km235 : ax_Mb ax_m235 = true := by decide +kernel
set_option maxRecDepth 20000 in
theorem ax_kc235 : ax_Mc ax_m235 := rfl
theorem ax_km236 : ax_Mb ax_m236 = true := by decide +kernel
set_option maxRecDepth 20000 in
theorem ax_kc236 : ax_Mc ax_m236 := rfl
theorem ax_km237 : ax_Mb ax_m237 = true := by decide +kernel
set_option maxRecDepth 20000 in
theorem ax_kc237 : ax_Mc ax_m237 := rfl
theorem ax_km238 : ax_Mb ax_m238 = true := by decide +kernel
set_option maxRecDepth 20000 in
theorem ax_kc238 : ax_Mc ax_m238 := rfl
theorem ax_km239 : ax_Mb ax_m239 = true := by decide +kernel
set_option maxRecDepth 20000 in
theorem ax_kc239 : ax_Mc ax_m239 := rfl
theorem ax_km240 : ax_Mb ax_m240 = true := by decide +kernel
set_option maxRecDepth 20000 in
theorem ax_kc240 : ax_Mc ax_m240 := rfl
theorem ax_km241 : ax_Mb ax_m241 = true := by decide +kernel
set_option maxRecDepth 20000 in
theorem ax_kc241 : ax_Mc ax_m241 := rfl
theorem ax_km242 : ax_Mb ax_m242 = true := by decide +kernel
set_option maxRecDepth 20000 in
theorem ax_kc242 : ax_Mc ax_m242 := rfl
theorem ax_km243 : ax_Mb ax_m243 = true := by decide +kernel
set_option maxRecDepth 20000 in
theorem ax_kc243 : ax_Mc ax_m243 := rfl
theorem ax_km244 : ax_Mb ax_m244 = true := by decide +kernel
set_option maxRecDepth 20000 in
theorem ax_kc244 : ax_Mc ax_m244 := rfl
theorem ax_km245 : ax_Mb ax_m245 = true := by decide +kernel
set_option maxRecDepth 20000 in
theorem ax_kc245 : ax_Mc ax_m245 := rfl
theorem ax_km246 : ax_Mb ax_m246 = true := by decide +kernel
set_option maxRecDepth 20000 in
theorem ax_kc246 : ax_Mc ax_m246 := rfl
theorem ax_km247 : ax_Mb ax_m247 = true := by decide +kernel
set_option maxRecDepth 20000 in
theorem ax_kc247 : ax_Mc ax_m247 := rfl
theorem ax_km248 : ax_Mb ax_m248 = true := by decide +kernel
set_option maxRecDepth 20000 in
theorem ax_kc248 : ax_Mc ax_m248 := rfl
theorem ax_km249 : ax_Mb ax_m249 = true := by decide +kernel
set_option maxRecDepth 20000 in
theorem ax_kc249 : ax_Mc ax_m249 := rfl
theorem ax_km250 : ax_Mb ax_m250 = true := by decide +kernel
set_option maxRecDepth 20000 in
theorem ax_kc250 : ax_Mc ax_m250 := rfl
theorem ax_km251 : ax_Mb ax_m251 = true := by decide +kernel
set_option maxRecDepth 20000 in
theorem ax_kc251 : ax_Mc ax_m251 := rfl
theorem ax_km252 : ax_Mb ax_m252 = true := by decide +kernel
set_option maxRecDepth 20000 in
theorem ax_kc252 : ax_Mc ax_m252 := rfl
theorem ax_km253 : ax_Mb ax_m253 = true := by decide +kernel
set_option maxRecDepth 20000 in
theorem ax_kc253 : ax_Mc ax_m253 := rfl
theorem ax_km254 : ax_Mb ax_m254 = true := by decide +kernel
set_option maxRecDepth 20000 in
theorem ax_kc254 : ax_Mc ax_m254 := rfl
theorem ax_km255 : ax_Mb ax_m255 = true := by decide +kernel
set_option maxRecDepth 20000 in
theorem ax_kc255 : ax_Mc ax_m255 := rfl
theorem ax_km256 : ax_Mb ax_m256 = true := by decide +kernel
set_option maxRecDepth 20000 in
theorem ax_kc256 : ax_Mc ax_m256 := rfl
theorem ax_km257 : ax_Mb ax_m257 = true := by decide +kernel
set_option maxRecDepth 20000 in
theorem ax_kc257 : ax_Mc ax_m257 := rfl
theorem ax_km258 : ax_Mb ax_m258 = true := by decide +kernel
set_option maxRecDepth 20000 in
theorem ax_kc258 : ax_Mc ax_m258 := rfl
theorem ax_km259 : ax_Mb ax_m259 = true := by decide +kernel
set_option maxRecDepth 20000 in
theorem ax_kc259 : ax_Mc ax_m259 := rfl
theorem ax_km260 : ax_Mb ax_m260 = true := by decide +kernel
set_option maxRecDepth 20000 in
theorem ax_kc260 : ax_Mc ax_m260 := rfl
theorem ax_km261 : ax_Mb ax_m261 = true := by decide +kernel
set_option maxRecDepth 20000 in
theorem ax_kc261 : ax_Mc ax_m261 := rfl
theorem ax_km262 : ax_Mb ax_m262 = true := by decide +kernel
set_option maxRecDepth 20000 in
theorem ax_kc262 : ax_Mc ax_m262 := rfl
theorem ax_km263 : ax_Mb ax_m263 = true := by decide +kernel
set_option maxRecDepth 20000 in
theorem ax_kc263 : ax_Mc ax_m263 := rfl
theorem ax_km264 : ax_Mb ax_m264 = true := by decide +kernel
set_option maxRecDepth 20000 in
theorem ax_kc264 : ax_Mc ax_m264 := rfl
theorem ax_km265 : ax_Mb ax_m265 = true := by decide +kernel
set_option maxRecDepth 20000 in
theorem ax_kc265 : ax_Mc ax_m265 := rfl
theorem ax_km266 : ax_Mb ax_m266 = true := by decide +kernel
set_option maxRecDepth 20000 in
theorem ax_kc266 : ax_Mc ax_m266 := rfl
theorem ax_km267 : ax_Mb ax_m267 = true := by decide +kernel
set_option maxRecDepth 20000 in
theorem ax_kc267 : ax_Mc ax_m267 := rfl
theorem ax_km268 : ax_Mb ax_m268 = true := by decide +kernel
set_option maxRecDepth 20000 in
theorem ax_kc268 : ax_Mc ax_m268 := rfl
theorem ax_km269 : ax_Mb ax_m269 = true := by decide +kernel
set_option maxRecDepth 20000 in
theorem ax_kc269 : ax_Mc ax_m269 := rfl
theorem ax_km270 : ax_Mb ax_m270 = true := by decide +kernel
set_option maxRecDepth 20000 in
theorem ax_kc270 : ax_Mc ax_m270 := rfl
theorem ax_km271 : ax_Mb ax_m271 = true := by decide +kernel
set_option maxRecDepth 20000 in
theorem ax_kc271 : ax_Mc ax_m271 := rfl
theorem ax_km272 : ax_Mb ax_m272 = true := by decide +kernel
set_option maxRecDepth 20000 in
theorem ax_kc272 : ax_Mc ax_m272 := rfl
theorem ax_km273 : ax_Mb ax_m273 = true := by decide +kernel
set_option maxRecDepth 20000 in
theorem ax_kc273 : ax_Mc ax_m273 := rfl
theorem ax_km274 : ax_Mb ax_m274 = true := by decide +kernel
set_option maxRecDepth 20000 in
theorem ax_kc274 : ax_Mc ax_m274 := rfl
theorem ax_km275 : ax_Mb ax_m275 = true := by decide +kernel
set_option maxRecDepth 20000 in
theorem ax_kc275 : ax_Mc ax_m275 := rfl
theorem ax_km276 : ax_Mb ax_m276 = true := by decide +kernel
set_option maxRecDepth 20000 in
theorem ax_kc276 : ax_Mc ax_m276 := rfl
theorem ax_km277 : ax_Mb ax_m277 = true := by decide +kernel
set_option maxRecDepth 20000 in
theorem ax_kc277 : ax_Mc ax_m277 := rfl
theorem ax_km278 : ax_Mb ax_m278 = true := by decide +kernel
set_option maxRecDepth 20000 in
theorem ax_kc278 : ax_Mc ax_m278 := rfl
theorem ax_km279 : ax_Mb ax_m279 = true := by decide +kernel
set_option maxRecDepth 20000 in
theorem ax_kc279 : ax_Mc ax_m279 := rfl
theorem ax_km280 : ax_Mb ax_m280 = true := by decide +kernel
set_option maxRecDepth 20000 in
theorem ax_kc280 : ax_Mc ax_m280 := rfl
theorem ax_km281 : ax_Mb ax_m281 = true := by decide +kernel
set_option maxRecDepth 20000 in
theorem ax_kc281 : ax_Mc ax_m281 := rfl
theorem ax_km282 : ax_Mb ax_m282 = true := by decide +kernel
set_option maxRecDepth 20000 in
theorem ax_kc282 : ax_Mc ax_m282 := rfl
theorem ax_ma_maxI : tables_1[56]? = some (Cond.static Lib.Math.max.name) ∧ tables_1[57]? = some (Cond.code Lib.Math.max.name Lib.Math.max.code 2 (some .int)) := by decide +kernel
theorem ax_ma_minI : tables_1[538]? = some (Cond.static Lib.Math.min.name) ∧ tables_1[539]? = some (Cond.code Lib.Math.min.name Lib.Math.min.code 2 (some .int)) := by decide +kernel
theorem ax_ma_minJ : tables_1[1140]? = some (Cond.static Lib.MathLoose.min_long.x) ∧ tables_1[1141]? = some (Cond.code Lib.MathLoose.min_long.x Lib.MathLoose.min_long.code 4 (some .long)) := by decide +kernel
theorem ax_zk0 : ∀ z ∈ ax_z0, ax_okm z.1 z.2 = true ∧ ax_Mb z.1 = true ∧ ax_Mc z.1 := List.forall_mem_cons.mpr ⟨⟨ax_k0, ax_km0, ax_kc0⟩, List.forall_mem_cons.mpr ⟨⟨ax_k1, ax_km1, ax_kc1⟩, List.forall_mem_cons.mpr ⟨⟨ax_k2, ax_km2, ax_kc2⟩, List.forall_mem_cons.mpr ⟨⟨ax_k3, ax_km3, ax_kc3⟩, List.forall_mem_cons.mpr ⟨⟨ax_k4, ax_km4, ax_kc4⟩, List.forall_mem_cons.mpr ⟨⟨ax_k5, ax_km5, ax_kc5⟩, List.forall_mem_cons.mpr ⟨⟨ax_k6, ax_km6, ax_kc6⟩, List.forall_mem_cons.mpr ⟨⟨ax_k7, ax_km7, ax_kc7⟩, List.forall_mem_cons.mpr ⟨⟨ax_k8, ax_km8, ax_kc8⟩, List.forall_mem_cons.mpr ⟨⟨ax_k9, ax_km9, ax_kc9⟩, List.forall_mem_cons.mpr ⟨⟨ax_k10, ax_km10, ax_kc10⟩, List.forall_mem_cons.mpr ⟨⟨ax_k11, ax_km11, ax_kc11⟩, List.forall_mem_cons.mpr ⟨⟨ax_k12, ax_km12, ax_kc12⟩, List.forall_mem_cons.mpr ⟨⟨ax_k13, ax_km13, ax_kc13⟩, List.forall_mem_cons.mpr ⟨⟨ax_k14, ax_km14, ax_kc14⟩, List.forall_mem_cons.mpr ⟨⟨ax_k15, ax_km15, ax_kc15⟩, List.forall_mem_cons.mpr ⟨⟨ax_k16, ax_km16, ax_kc16⟩, List.forall_mem_cons.mpr ⟨⟨ax_k17, ax_km17, ax_kc17⟩, List.forall_mem_cons.mpr ⟨⟨ax_k18, ax_km18, ax_kc18⟩, List.forall_mem_cons.mpr ⟨⟨ax_k19, ax_km19, ax_kc19⟩, List.forall_mem_cons.mpr ⟨⟨ax_k20, ax_km20, ax_kc20⟩, List.forall_mem_cons.mpr ⟨⟨ax_k21, ax_km21, ax_kc21⟩, List.forall_mem_cons.mpr ⟨⟨ax_k22, ax_km22, ax_kc22⟩, List.forall_mem_cons.mpr ⟨⟨ax_k23, ax_km23, ax_kc23⟩, List.forall_mem_cons.mpr ⟨⟨ax_k24, ax_km24, ax_kc24⟩, List.forall_mem_cons.mpr ⟨⟨ax_k25, ax_km25, ax_kc25⟩, List.forall_mem_cons.mpr ⟨⟨ax_k26, ax_km26, ax_kc26⟩, List.forall_mem_cons.mpr ⟨⟨ax_k27, ax_km27, ax_kc27⟩, List.forall_mem_cons.mpr ⟨⟨ax_k28, ax_km28, ax_kc28⟩, List.forall_mem_cons.mpr ⟨⟨ax_k29, ax_km29, ax_kc29⟩, List.forall_mem_cons.mpr ⟨⟨ax_k30, ax_km30, ax_kc30⟩, List.forall_mem_cons.mpr ⟨⟨ax_k31, ax_km31, ax_kc31⟩, List.forall_mem_cons.mpr ⟨⟨ax_k32, ax_km32, ax_kc32⟩, List.forall_mem_cons.mpr ⟨⟨ax_k33, ax_km33, ax_kc33⟩, List.forall_mem_cons.mpr ⟨⟨ax_k34, ax_km34, ax_kc34⟩, List.forall_mem_cons.mpr ⟨⟨ax_k35, ax_km35, ax_kc35⟩, List.forall_mem_cons.mpr ⟨⟨ax_k36, ax_km36, ax_kc36⟩, List.forall_mem_cons.mpr ⟨⟨ax_k37, ax_km37, ax_kc37⟩, List.forall_mem_cons.mpr ⟨⟨ax_k38, ax_km38, ax_kc38⟩, List.forall_mem_cons.mpr ⟨⟨ax_k39, ax_km39, ax_kc39⟩, fun _ h => absurd h List.not_mem_nil⟩⟩⟩⟩⟩⟩⟩⟩⟩⟩⟩⟩⟩⟩⟩⟩⟩⟩⟩⟩⟩⟩⟩⟩⟩⟩⟩⟩⟩⟩⟩⟩⟩⟩⟩⟩⟩⟩⟩⟩
theorem ax_zk1 : ∀ z ∈ ax_z1, ax_okm z.1 z.2 = true ∧ ax_Mb z.1 = true ∧ ax_Mc z.1 := List.forall_mem_cons.mpr ⟨⟨ax_k40, ax_km40, ax_kc40⟩, List.forall_mem_cons.mpr ⟨⟨ax_k41, ax_km41, ax_kc41⟩, List.forall_mem_cons.mpr ⟨⟨ax_k42, ax_km42, ax_kc42⟩, List.forall_mem_cons.mpr ⟨⟨ax_k43, ax_km43, ax_kc43⟩, List.forall_mem_cons.mpr ⟨⟨ax_k44, ax_km44, ax_kc44⟩, List.forall_mem_cons.mpr ⟨⟨ax_k45, ax_km45, ax_kc45⟩, List.forall_mem_cons.mpr ⟨⟨ax_k46, ax_km46, ax_kc46⟩, List.forall_mem_cons.mpr ⟨⟨ax_k47, ax_km47, ax_kc47⟩, List.forall_mem_cons.mpr ⟨⟨ax_k48, ax_km48, ax_kc48⟩, List.forall_mem_cons.mpr ⟨⟨ax_k49, ax_km49, ax_kc49⟩, List.forall_mem_cons.mpr ⟨⟨ax_k50, ax_km50, ax_kc50⟩, List.forall_mem_cons.mpr ⟨⟨ax_k51, ax_km51, ax_kc51⟩, List.forall_mem_cons.mpr ⟨⟨ax_k52, ax_km52, ax_kc52⟩, List.forall_mem_cons.mpr ⟨⟨ax_k53, ax_km53, ax_kc53⟩, List.forall_mem_cons.mpr ⟨⟨ax_k54, ax_km54, ax_kc54⟩, List.forall_mem_cons.mpr ⟨⟨ax_k55, ax_km55, ax_kc55⟩, List.forall_mem_cons.mpr ⟨⟨ax_k56, ax_km56, ax_kc56⟩, List.forall_mem_cons.mpr ⟨⟨ax_k57, ax_km57, ax_kc57⟩, List.forall_mem_cons.mpr ⟨⟨ax_k58, ax_km58, ax_kc58⟩, List.forall_mem_cons.mpr ⟨⟨ax_k59, ax_km59, ax_kc59⟩, List.forall_mem_cons.mpr ⟨⟨ax_k60, ax_km60, ax_kc60⟩, List.forall_mem_cons.mpr ⟨⟨ax_k61, ax_km61, ax_kc61⟩, List.forall_mem_cons.mpr ⟨⟨ax_k62, ax_km62, ax_kc62⟩, List.forall_mem_cons.mpr ⟨⟨ax_k63, ax_km63, ax_kc63⟩, List.forall_mem_cons.mpr ⟨⟨ax_k64, ax_km64, ax_kc64⟩, List.forall_mem_cons.mpr ⟨⟨ax_k65, ax_km65, ax_kc65⟩, List.forall_mem_cons.mpr ⟨⟨ax_k66, ax_km66, ax_kc66⟩, List.forall_mem_cons.mpr ⟨⟨ax_k67, ax_km67, ax_kc67⟩, List.forall_mem_cons.mpr ⟨⟨ax_k68, ax_km68, ax_kc68⟩, List.forall_mem_cons.mpr ⟨⟨ax_k69, ax_km69, ax_kc69⟩, List.forall_mem_cons.mpr ⟨⟨ax_k70, ax_km70, ax_kc70⟩, List.forall_mem_cons.mpr ⟨⟨ax_k71, ax_km71, ax_kc71⟩, List.forall_mem_cons.mpr ⟨⟨ax_k72, ax_km72, ax_kc72⟩, List.forall_mem_cons.mpr ⟨⟨ax_k73, ax_km73, ax_kc73⟩, List.forall_mem_cons.mpr ⟨⟨ax_k74, ax_km74, ax_kc74⟩, List.forall_mem_cons.mpr ⟨⟨ax_k75, ax_km75, ax_kc75⟩, List.forall_mem_cons.mpr ⟨⟨ax_k76, ax_km76, ax_kc76⟩, List.forall_mem_cons.mpr ⟨⟨ax_k77, ax_km77, ax_kc77⟩, List.forall_mem_cons.mpr ⟨⟨ax_k78, ax_km78, ax_kc78⟩, List.forall_mem_cons.mpr ⟨⟨ax_k79, ax_km79, ax_kc79⟩, fun _ h => absurd h List.not_mem_nil⟩⟩⟩⟩⟩⟩⟩⟩⟩⟩⟩⟩⟩⟩⟩⟩⟩⟩⟩⟩⟩⟩⟩⟩⟩⟩⟩⟩⟩⟩⟩⟩⟩⟩⟩⟩⟩⟩⟩⟩
theorem ax_zk2 : ∀ z ∈ ax_z2, ax_okm z.1 z.2 = true ∧ ax_Mb z.1 = true ∧ ax_Mc z.1 := List.forall_mem_cons.mpr ⟨⟨ax_k80, ax_km80, ax_kc80⟩, List.forall_mem_cons.mpr ⟨⟨ax_k81, ax_km81, ax_kc81⟩, List.forall_mem_cons.mpr ⟨⟨ax_k82, ax_km82, ax_kc82⟩, List.forall_mem_cons.mpr ⟨⟨ax_k83, ax_km83, ax_kc83⟩, List.forall_mem_cons.mpr ⟨⟨ax_k84, ax_km84, ax_kc84⟩, List.forall_mem_cons.mpr ⟨⟨ax_k85, ax_km85, ax_kc85⟩, List.forall_mem_cons.mpr ⟨⟨ax_k86, ax_km86, ax_kc86⟩, List.forall_mem_cons.mpr ⟨⟨ax_k87, ax_km87, ax_kc87⟩, List.forall_mem_cons.mpr ⟨⟨ax_k88, ax_km88, ax_kc88⟩, List.forall_mem_cons.mpr ⟨⟨ax_k89, ax_km89, ax_kc89⟩, List.forall_mem_cons.mpr ⟨⟨ax_k90, ax_km90, ax_kc90⟩, List.forall_mem_cons.mpr ⟨⟨ax_k91, ax_km91, ax_kc91⟩, List.forall_mem_cons.mpr ⟨⟨ax_k92, ax_km92, ax_kc92⟩, List.forall_mem_cons.mpr ⟨⟨ax_k93, ax_km93, ax_kc93⟩, List.forall_mem_cons.mpr ⟨⟨ax_k94, ax_km94, ax_kc94⟩, List.forall_mem_cons.mpr ⟨⟨ax_k95, ax_km95, ax_kc95⟩, List.forall_mem_cons.mpr ⟨⟨ax_k96, ax_km96, ax_kc96⟩, List.forall_mem_cons.mpr ⟨⟨ax_k97, ax_km97, ax_kc97⟩, List.forall_mem_cons.mpr ⟨⟨ax_k98, ax_km98, ax_kc98⟩, List.forall_mem_cons.mpr ⟨⟨ax_k99, ax_km99, ax_kc99⟩, List.forall_mem_cons.mpr ⟨⟨ax_k100, ax_km100, ax_kc100⟩, List.forall_mem_cons.mpr ⟨⟨ax_k101, ax_km101, ax_kc101⟩, List.forall_mem_cons.mpr ⟨⟨ax_k102, ax_km102, ax_kc102⟩, List.forall_mem_cons.mpr ⟨⟨ax_k103, ax_km103, ax_kc103⟩, List.forall_mem_cons.mpr ⟨⟨ax_k104, ax_km104, ax_kc104⟩, List.forall_mem_cons.mpr ⟨⟨ax_k105, ax_km105, ax_kc105⟩, List.forall_mem_cons.mpr ⟨⟨ax_k106, ax_km106, ax_kc106⟩, List.forall_mem_cons.mpr ⟨⟨ax_k107, ax_km107, ax_kc107⟩, List.forall_mem_cons.mpr ⟨⟨ax_k108, ax_km108, ax_kc108⟩, List.forall_mem_cons.mpr ⟨⟨ax_k109, ax_km109, ax_kc109⟩, List.forall_mem_cons.mpr ⟨⟨ax_k110, ax_km110, ax_kc110⟩, List.forall_mem_cons.mpr ⟨⟨ax_k111, ax_km111, ax_kc111⟩, List.forall_mem_cons.mpr ⟨⟨ax_k112, ax_km112, ax_kc112⟩, List.forall_mem_cons.mpr ⟨⟨ax_k113, ax_km113, ax_kc113⟩, List.forall_mem_cons.mpr ⟨⟨ax_k114, ax_km114, ax_kc114⟩, List.forall_mem_cons.mpr ⟨⟨ax_k115, ax_km115, ax_kc115⟩, List.forall_mem_cons.mpr ⟨⟨ax_k116, ax_km116, ax_kc116⟩, List.forall_mem_cons.mpr ⟨⟨ax_k117, ax_km117, ax_kc117⟩, List.forall_mem_cons.mpr ⟨⟨ax_k118, ax_km118, ax_kc118⟩, List.forall_mem_cons.mpr ⟨⟨ax_k119, ax_km119, ax_kc119⟩, fun _ h => absurd h List.not_mem_nil⟩⟩⟩⟩⟩⟩⟩⟩⟩⟩⟩⟩⟩⟩⟩⟩⟩⟩⟩⟩⟩⟩⟩⟩⟩⟩⟩⟩⟩⟩⟩⟩⟩⟩⟩⟩⟩⟩⟩⟩
theorem ax_zk3 : ∀ z ∈ ax_z3, ax_okm z.1 z.2 = true ∧ ax_Mb z.1 = true ∧ ax_Mc z.1 := List.forall_mem_cons.mpr ⟨⟨ax_k120, ax_km120, ax_kc120⟩, List.forall_mem_cons.mpr ⟨⟨ax_k121, ax_km121, ax_kc121⟩, List.forall_mem_cons.mpr ⟨⟨ax_k122, ax_km122, ax_kc122⟩, List.forall_mem_cons.mpr ⟨⟨ax_k123, ax_km123, ax_kc123⟩, List.forall_mem_cons.mpr ⟨⟨ax_k124, ax_km124, ax_kc124⟩, List.forall_mem_cons.mpr ⟨⟨ax_k125, ax_km125, ax_kc125⟩, List.forall_mem_cons.mpr ⟨⟨ax_k126, ax_km126, ax_kc126⟩, List.forall_mem_cons.mpr ⟨⟨ax_k127, ax_km127, ax_kc127⟩, List.forall_mem_cons.mpr ⟨⟨ax_k128, ax_km128, ax_kc128⟩, List.forall_mem_cons.mpr ⟨⟨ax_k129, ax_km129, ax_kc129⟩, List.forall_mem_cons.mpr ⟨⟨ax_k130, ax_km130, ax_kc130⟩, List.forall_mem_cons.mpr ⟨⟨ax_k131, ax_km131, ax_kc131⟩, List.forall_mem_cons.mpr ⟨⟨ax_k132, ax_km132, ax_kc132⟩, List.forall_mem_cons.mpr ⟨⟨ax_k133, ax_km133, ax_kc133⟩, List.forall_mem_cons.mpr ⟨⟨ax_k134, ax_km134, ax_kc134⟩, List.forall_mem_cons.mpr ⟨⟨ax_k135, ax_km135, ax_kc135⟩, List.forall_mem_cons.mpr ⟨⟨ax_k136, ax_km136, ax_kc136⟩, List.forall_mem_cons.mpr ⟨⟨ax_k137, ax_km137, ax_kc137⟩, List.forall_mem_cons.mpr ⟨⟨ax_k138, ax_km138, ax_kc138⟩, List.forall_mem_cons.mpr ⟨⟨ax_k139, ax_km139, ax_kc139⟩, List.forall_mem_cons.mpr ⟨⟨ax_k140, ax_km140, ax_kc140⟩, List.forall_mem_cons.mpr ⟨⟨ax_k141, ax_km141, ax_kc141⟩, List.forall_mem_cons.mpr ⟨⟨ax_k142, ax_km142, ax_kc142⟩, List.forall_mem_cons.mpr ⟨⟨ax_k143, ax_km143, ax_kc143⟩, List.forall_mem_cons.mpr ⟨⟨ax_k144, ax_km144, ax_kc144⟩, List.forall_mem_cons.mpr ⟨⟨ax_k145, ax_km145, ax_kc145⟩, List.forall_mem_cons.mpr ⟨⟨ax_k146, ax_km146, ax_kc146⟩, List.forall_mem_cons.mpr ⟨⟨ax_k147, ax_km147, ax_kc147⟩, List.forall_mem_cons.mpr ⟨⟨ax_k148, ax_km148, ax_kc148⟩, List.forall_mem_cons.mpr ⟨⟨ax_k149, ax_km149, ax_kc149⟩, List.forall_mem_cons.mpr ⟨⟨ax_k150, ax_km150, ax_kc150⟩, List.forall_mem_cons.mpr ⟨⟨ax_k151, ax_km151, ax_kc151⟩, List.forall_mem_cons.mpr ⟨⟨ax_k152, ax_km152, ax_kc152⟩, List.forall_mem_cons.mpr ⟨⟨ax_k153, ax_km153, ax_kc153⟩, List.forall_mem_cons.mpr ⟨⟨ax_k154, ax_km154, ax_kc154⟩, List.forall_mem_cons.mpr ⟨⟨ax_k155, ax_km155, ax_kc155⟩, List.forall_mem_cons.mpr ⟨⟨ax_k156, ax_km156, ax_kc156⟩, List.forall_mem_cons.mpr ⟨⟨ax_k157, ax_km157, ax_kc157⟩, List.forall_mem_cons.mpr ⟨⟨ax_k158, ax_km158, ax_kc158⟩, List.forall_mem_cons.mpr ⟨⟨ax_k159, ax_km159, ax_kc159⟩, fun _ h => absurd h List.not_mem_nil⟩⟩⟩⟩⟩⟩⟩⟩⟩⟩⟩⟩⟩⟩⟩⟩⟩⟩⟩⟩⟩⟩⟩⟩⟩⟩⟩⟩⟩⟩⟩⟩⟩⟩⟩⟩⟩⟩⟩⟩
theorem ax_zk4 : ∀ z ∈ ax_z4, ax_okm z.1 z.2 = true ∧ ax_Mb z.1 = true ∧ ax_Mc z.1 := List.forall_mem_cons.mpr ⟨⟨ax_k160, ax_km160, ax_kc160⟩, List.forall_mem_cons.mpr ⟨⟨ax_k161, ax_km161, ax_kc161⟩, List.forall_mem_cons.mpr ⟨⟨ax_k162, ax_km162, ax_kc162⟩, List.forall_mem_cons.mpr ⟨⟨ax_k163, ax_km163, ax_kc163⟩, List.forall_mem_cons.mpr ⟨⟨ax_k164, ax_km164, ax_kc164⟩, List.forall_mem_cons.mpr ⟨⟨ax_k165, ax_km165, ax_kc165⟩, List.forall_mem_cons.mpr ⟨⟨ax_k166, ax_km166, ax_kc166⟩, List.forall_mem_cons.mpr ⟨⟨ax_k167, ax_km167, ax_kc167⟩, List.forall_mem_cons.mpr ⟨⟨ax_k168, ax_km168, ax_kc168⟩, List.forall_mem_cons.mpr ⟨⟨ax_k169, ax_km169, ax_kc169⟩, List.forall_mem_cons.mpr ⟨⟨ax_k170, ax_km170, ax_kc170⟩, List.forall_mem_cons.mpr ⟨⟨ax_k171, ax_km171, ax_kc171⟩, List.forall_mem_cons.mpr ⟨⟨ax_k172, ax_km172, ax_kc172⟩, List.forall_mem_cons.mpr ⟨⟨ax_k173, ax_km173, ax_kc173⟩, List.forall_mem_cons.mpr ⟨⟨ax_k174, ax_km174, ax_kc174⟩, List.forall_mem_cons.mpr ⟨⟨ax_k175, ax_km175, ax_kc175⟩, List.forall_mem_cons.mpr ⟨⟨ax_k176, ax_km176, ax_kc176⟩, List.forall_mem_cons.mpr ⟨⟨ax_k177, ax_km177, ax_kc177⟩, List.forall_mem_cons.mpr ⟨⟨ax_k178, ax_km178, ax_kc178⟩, List.forall_mem_cons.mpr ⟨⟨ax_k179, ax_km179, ax_kc179⟩, List.forall_mem_cons.mpr ⟨⟨ax_k180, ax_km180, ax_kc180⟩, List.forall_mem_cons.mpr ⟨⟨ax_k181, ax_km181, ax_kc181⟩, List.forall_mem_cons.mpr ⟨⟨ax_k182, ax_km182, ax_kc182⟩, List.forall_mem_cons.mpr ⟨⟨ax_k183, ax_km183, ax_kc183⟩, List.forall_mem_cons.mpr ⟨⟨ax_k184, ax_km184, ax_kc184⟩, List.forall_mem_cons.mpr ⟨⟨ax_k185, ax_km185, ax_kc185⟩, List.forall_mem_cons.mpr ⟨⟨ax_k186, ax_km186, ax_kc186⟩, List.forall_mem_cons.mpr ⟨⟨ax_k187, ax_km187, ax_kc187⟩, List.forall_mem_cons.mpr ⟨⟨ax_k188, ax_km188, ax_kc188⟩, List.forall_mem_cons.mpr ⟨⟨ax_k189, ax_km189, ax_kc189⟩, List.forall_mem_cons.mpr ⟨⟨ax_k190, ax_km190, ax_kc190⟩, List.forall_mem_cons.mpr ⟨⟨ax_k191, ax_km191, ax_kc191⟩, List.forall_mem_cons.mpr ⟨⟨ax_k192, ax_km192, ax_kc192⟩, List.forall_mem_cons.mpr ⟨⟨ax_k193, ax_km193, ax_kc193⟩, List.forall_mem_cons.mpr ⟨⟨ax_k194, ax_km194, ax_kc194⟩, List.forall_mem_cons.mpr ⟨⟨ax_k195, ax_km195, ax_kc195⟩, List.forall_mem_cons.mpr ⟨⟨ax_k196, ax_km196, ax_kc196⟩, List.forall_mem_cons.mpr ⟨⟨ax_k197, ax_km197, ax_kc197⟩, List.forall_mem_cons.mpr ⟨⟨ax_k198, ax_km198, ax_kc198⟩, List.forall_mem_cons.mpr ⟨⟨ax_k199, ax_km199, ax_kc199⟩, fun _ h => absurd h List.not_mem_nil⟩⟩⟩⟩⟩⟩⟩⟩⟩⟩⟩⟩⟩⟩⟩⟩⟩⟩⟩⟩⟩⟩⟩⟩⟩⟩⟩⟩⟩⟩⟩⟩⟩⟩⟩⟩⟩⟩⟩⟩
theorem ax_zk5 : ∀ z ∈ ax_z5, ax_okm z.1 z.2 = true ∧ ax_Mb z.1 = true ∧ ax_Mc z.1 := List.forall_mem_cons.mpr ⟨⟨ax_k200, ax_km200, ax_kc200⟩, List.forall_mem_cons.mpr ⟨⟨ax_k201, ax_km201, ax_kc201⟩, List.forall_mem_cons.mpr ⟨⟨ax_k202, ax_km202, ax_kc202⟩, List.forall_mem_cons.mpr ⟨⟨ax_k203, ax_km203, ax_kc203⟩, List.forall_mem_cons.mpr ⟨⟨ax_k204, ax_km204, ax_kc204⟩, List.forall_mem_cons.mpr ⟨⟨ax_k205, ax_km205, ax_kc205⟩, List.forall_mem_cons.mpr ⟨⟨ax_k206, ax_km206, ax_kc206⟩, List.forall_mem_cons.mpr ⟨⟨ax_k207, ax_km207, ax_kc207⟩, List.forall_mem_cons.mpr ⟨⟨ax_k208, ax_km208, ax_kc208⟩, List.forall_mem_cons.mpr ⟨⟨ax_k209, ax_km209, ax_kc209⟩, List.forall_mem_cons.mpr ⟨⟨ax_k210, ax_km210, ax_kc210⟩, List.forall_mem_cons.mpr ⟨⟨ax_k211, ax_km211, ax_kc211⟩, List.forall_mem_cons.mpr ⟨⟨ax_k212, ax_km212, ax_kc212⟩, List.forall_mem_cons.mpr ⟨⟨ax_k213, ax_km213, ax_kc213⟩, List.forall_mem_cons.mpr ⟨⟨ax_k214, ax_km214, ax_kc214⟩, List.forall_mem_cons.mpr ⟨⟨ax_k215, ax_km215, ax_kc215⟩, List.forall_mem_cons.mpr ⟨⟨ax_k216, ax_km216, ax_kc216⟩, List.forall_mem_cons.mpr ⟨⟨ax_k217, ax_km217, ax_kc217⟩, List.forall_mem_cons.mpr ⟨⟨ax_k218, ax_km218, ax_kc218⟩, List.forall_mem_cons.mpr ⟨⟨ax_k219, ax_km219, ax_kc219⟩, List.forall_mem_cons.mpr ⟨⟨ax_k220, ax_km220, ax_kc220⟩, List.forall_mem_cons.mpr ⟨⟨ax_k221, ax_km221, ax_kc221⟩, List.forall_mem_cons.mpr ⟨⟨ax_k222, ax_km222, ax_kc222⟩, List.forall_mem_cons.mpr ⟨⟨ax_k223, ax_km223, ax_kc223⟩, List.forall_mem_cons.mpr ⟨⟨ax_k224, ax_km224, ax_kc224⟩, List.forall_mem_cons.mpr ⟨⟨ax_k225, ax_km225, ax_kc225⟩, List.forall_mem_cons.mpr ⟨⟨ax_k226, ax_km226, ax_kc226⟩, List.forall_mem_cons.mpr ⟨⟨ax_k227, ax_km227, ax_kc227⟩, List.forall_mem_cons.mpr ⟨⟨ax_k228, ax_km228, ax_kc228⟩, List.forall_mem_cons.mpr ⟨⟨ax_k229, ax_km229, ax_kc229⟩, List.forall_mem_cons.mpr ⟨⟨ax_k230, ax_km230, ax_kc230⟩, List.forall_mem_cons.mpr ⟨⟨ax_k231, ax_km231, ax_kc231⟩, List.forall_mem_cons.mpr ⟨⟨ax_k232, ax_km232, ax_kc232⟩, List.forall_mem_cons.mpr ⟨⟨ax_k233, ax_km233, ax_kc233⟩, List.forall_mem_cons.mpr ⟨⟨ax_k234, ax_km234, ax_kc234⟩, List.forall_mem_cons.mpr ⟨⟨ax_k235, ax_km235, ax_kc235⟩, List.forall_mem_cons.mpr ⟨⟨ax_k236, ax_km236, ax_kc236⟩, List.forall_mem_cons.mpr ⟨⟨ax_k237, ax_km237, ax_kc237⟩, List.forall_mem_cons.mpr ⟨⟨ax_k238, ax_km238, ax_kc238⟩, List.forall_mem_cons.mpr ⟨⟨ax_k239, ax_km239, ax_kc239⟩, fun _ h => absurd h List.not_mem_nil⟩⟩⟩⟩⟩⟩⟩⟩⟩⟩⟩⟩⟩⟩⟩⟩⟩⟩⟩⟩⟩⟩⟩⟩⟩⟩⟩⟩⟩⟩⟩⟩⟩⟩⟩⟩⟩⟩⟩⟩
theorem ax_zk6 : ∀ z ∈ ax_z6, ax_okm z.1 z.2 = true ∧ ax_Mb z.1 = true ∧ ax_Mc z.1 := List.forall_mem_cons.mpr ⟨⟨ax_k240, ax_km240, ax_kc240⟩, List.forall_mem_cons.mpr ⟨⟨ax_k241, ax_km241, ax_kc241⟩, List.forall_mem_cons.mpr ⟨⟨ax_k242, ax_km242, ax_kc242⟩, List.forall_mem_cons.mpr ⟨⟨ax_k243, ax_km243, ax_kc243⟩, List.forall_mem_cons.mpr ⟨⟨ax_k244, ax_km244, ax_kc244⟩, List.forall_mem_cons.mpr ⟨⟨ax_k245, ax_km245, ax_kc245⟩, List.forall_mem_cons.mpr ⟨⟨ax_k246, ax_km246, ax_kc246⟩, List.forall_mem_cons.mpr ⟨⟨ax_k247, ax_km247, ax_kc247⟩, List.forall_mem_cons.mpr ⟨⟨ax_k248, ax_km248, ax_kc248⟩, List.forall_mem_cons.mpr ⟨⟨ax_k249, ax_km249, ax_kc249⟩, List.forall_mem_cons.mpr ⟨⟨ax_k250, ax_km250, ax_kc250⟩, List.forall_mem_cons.mpr ⟨⟨ax_k251, ax_km251, ax_kc251⟩, List.forall_mem_cons.mpr ⟨⟨ax_k252, ax_km252, ax_kc252⟩, List.forall_mem_cons.mpr ⟨⟨ax_k253, ax_km253, ax_kc253⟩, List.forall_mem_cons.mpr ⟨⟨ax_k254, ax_km254, ax_kc254⟩, List.forall_mem_cons.mpr ⟨⟨ax_k255, ax_km255, ax_kc255⟩, List.forall_mem_cons.mpr ⟨⟨ax_k256, ax_km256, ax_kc256⟩, List.forall_mem_cons.mpr ⟨⟨ax_k257, ax_km257, ax_kc257⟩, List.forall_mem_cons.mpr ⟨⟨ax_k258, ax_km258, ax_kc258⟩, List.forall_mem_cons.mpr ⟨⟨ax_k259, ax_km259, ax_kc259⟩, List.forall_mem_cons.mpr ⟨⟨ax_k260, ax_km260, ax_kc260⟩, List.forall_mem_cons.mpr ⟨⟨ax_k261, ax_km261, ax_kc261⟩, List.forall_mem_cons.mpr ⟨⟨ax_k262, ax_km262, ax_kc262⟩, List.forall_mem_cons.mpr ⟨⟨ax_k263, ax_km263, ax_kc263⟩, List.forall_mem_cons.mpr ⟨⟨ax_k264, ax_km264, ax_kc264⟩, List.forall_mem_cons.mpr ⟨⟨ax_k265, ax_km265, ax_kc265⟩, List.forall_mem_cons.mpr ⟨⟨ax_k266, ax_km266, ax_kc266⟩, List.forall_mem_cons.mpr ⟨⟨ax_k267, ax_km267, ax_kc267⟩, List.forall_mem_cons.mpr ⟨⟨ax_k268, ax_km268, ax_kc268⟩, List.forall_mem_cons.mpr ⟨⟨ax_k269, ax_km269, ax_kc269⟩, List.forall_mem_cons.mpr ⟨⟨ax_k270, ax_km270, ax_kc270⟩, List.forall_mem_cons.mpr ⟨⟨ax_k271, ax_km271, ax_kc271⟩, List.forall_mem_cons.mpr ⟨⟨ax_k272, ax_km272, ax_kc272⟩, List.forall_mem_cons.mpr ⟨⟨ax_k273, ax_km273, ax_kc273⟩, List.forall_mem_cons.mpr ⟨⟨ax_k274, ax_km274, ax_kc274⟩, List.forall_mem_cons.mpr ⟨⟨ax_k275, ax_km275, ax_kc275⟩, List.forall_mem_cons.mpr ⟨⟨ax_k276, ax_km276, ax_kc276⟩, List.forall_mem_cons.mpr ⟨⟨ax_k277, ax_km277, ax_kc277⟩, List.forall_mem_cons.mpr ⟨⟨ax_k278, ax_km278, ax_kc278⟩, List.forall_mem_cons.mpr ⟨⟨ax_k279, ax_km279, ax_kc279⟩, fun _ h => absurd h List.not_mem_nil⟩⟩⟩⟩⟩⟩⟩⟩⟩⟩⟩⟩⟩⟩⟩⟩⟩⟩⟩⟩⟩⟩⟩⟩⟩⟩⟩⟩⟩⟩⟩⟩⟩⟩⟩⟩⟩⟩⟩⟩
theorem ax_zk7 : ∀ z ∈ ax_z7, ax_okm z.1 z.2 = true ∧ ax_Mb z.1 = true ∧ ax_Mc z.1 := List.forall_mem_cons.mpr ⟨⟨ax_k280, ax_km280, ax_kc280⟩, List.forall_mem_cons.mpr ⟨⟨ax_k281, ax_km281, ax_kc281⟩, List.forall_mem_cons.mpr ⟨⟨ax_k282, ax_km282, ax_kc282⟩, fun _ h => absurd h List.not_mem_nil⟩⟩⟩
theorem ax_Z_ok : ∀ z ∈ ax_Z, ax_okm z.1 z.2 = true ∧ ax_Mb z.1 = true ∧ ax_Mc z.1 := fun z h => (List.mem_append.mp h).elim (ax_zk0 z) ((fun z h => (List.mem_append.mp h).elim (ax_zk1 z) ((fun z h => (List.mem_append.mp h).elim (ax_zk2 z) ((fun z h => (List.mem_append.mp h).elim (ax_zk3 z) ((fun z h => (List.mem_append.mp h).elim (ax_zk4 z) ((fun z h => (List.mem_append.mp h).elim (ax_zk5 z) ((fun z h => (List.mem_append.mp h).elim (ax_zk6 z) ((ax_zk7) z)) z)) z)) z)) z)) z)) z)
def ax_lp0 : List (Nat × Nat) := [(0, 69), (1, 71)]
theorem ax_k_lp0_0 : (ax_lp0).all (ax_lpb 0 "GivenSearch$Flat" ax_T0) = true := by decide +kernel
theorem ax_lk0 : ax_lp0.all (ax_lpb 0 "GivenSearch$Flat" ax_T0) = true := ax_k_lp0_0
theorem ax_li0 : tables_1[50]? = some (Cond.instantiable "GivenSearch$Flat" 2) ∧ ax_lp0.map (fun z => z.1) = List.range 2 := by decide +kernel
def ax_lp1 : List (Nat × Nat) := [(0, 1494), (1, 1496), (2, 1498), (3, 1500), (4, 1502), (5, 1504), (6, 1506), (7, 1508), (8, 1510), (9, 1512), (10, 1514), (11, 1516), (12, 1518), (13, 1520), (14, 1522), (15, 1524), (16, 1526), (17, 1528), (18, 1530), (19, 1532), (20, 1534), (21, 1536), (22, 1538), (23, 1540), (24, 1542), (25, 1544), (26, 1546), (27, 1548), (28, 1550), (29, 1552), (30, 1554), (31, 1556), (32, 1558), (33, 1560), (34, 1562), (35, 1564), (36, 1566), (37, 1568), (38, 1570), (39, 1572), (40, 1574), (41, 1576), (42, 1578), (43, 1580), (44, 1582), (45, 1584), (46, 1586), (47, 1588), (48, 1590), (49, 1592), (50, 1594), (51, 1596), (52, 1598), (53, 1600), (54, 1602), (55, 1604), (56, 1606), (57, 1608), (58, 1610), (59, 1612), (60, 1614), (61, 1616), (62, 1618), (63, 1620), (64, 1622), (65, 1624), (66, 1626), (67, 1628), (68, 1630), (69, 1632), (70, 1634), (71, 1636), (72, 1638), (73, 1640), (74, 1642), (75, 1644), (76, 1646), (77, 1648), (78, 1650), (79, 1652), (80, 1654), (81, 1656), (82, 1658), (83, 1660), (84, 1662), (85, 1664), (86, 1666), (87, 1668), (88, 1670), (89, 1672), (90, 1674), (91, 1676), (92, 1678), (93, 1680), (94, 1682), (95, 1684), (96, 1686), (97, 1688), (98, 1690), (99, 1692), (100, 1694), (101, 1696), (102, 1698), (103, 1700), (104, 1702), (105, 1704), (106, 1706), (107, 1708), (108, 1710), (109, 1712), (110, 1714), (111, 1716), (112, 1718), (113, 1720), (114, 1722), (115, 1724), (116, 1726), (117, 1728), (118, 1730), (119, 1732), (120, 1734), (121, 1736), (122, 1738), (123, 1740), (124, 1742), (125, 1744), (126, 1746), (127, 1748), (128, 1750), (129, 1752), (130, 1754), (131, 1756), (132, 1758), (133, 1760), (134, 1762), (135, 1764), (136, 1766), (137, 1768), (138, 1770), (139, 1772), (140, 1774), (141, 1776), (142, 1778), (143, 1780)]
theorem ax_k_lp1_0 : ((ax_lp1).take 40).all (ax_lpb 1 "GivenSearchModel" ax_T1) = true := by decide +kernel
theorem ax_k_lp1_1 : (((ax_lp1).drop 40).take 40).all (ax_lpb 1 "GivenSearchModel" ax_T1) = true := by decide +kernel
theorem ax_k_lp1_2 : ((((ax_lp1).drop 40).drop 40).take 40).all (ax_lpb 1 "GivenSearchModel" ax_T1) = true := by decide +kernel
theorem ax_k_lp1_3 : ((((ax_lp1).drop 40).drop 40).drop 40).all (ax_lpb 1 "GivenSearchModel" ax_T1) = true := by decide +kernel
theorem ax_lk1 : ax_lp1.all (ax_lpb 1 "GivenSearchModel" ax_T1) = true := ax_cut 40 ax_k_lp1_0 (ax_cut 40 ax_k_lp1_1 (ax_cut 40 ax_k_lp1_2 (ax_k_lp1_3)))
theorem ax_li1 : tables_1[1161]? = some (Cond.instantiable "GivenSearchModel" 144) ∧ ax_lp1.map (fun z => z.1) = List.range 144 := by decide +kernel
def ax_lp2 : List (Nat × Nat) := [(0, 294), (1, 296), (2, 298), (3, 300), (4, 302)]
theorem ax_k_lp2_0 : (ax_lp2).all (ax_lpb 2 "GivenSearch$Counts" ax_T2) = true := by decide +kernel
theorem ax_lk2 : ax_lp2.all (ax_lpb 2 "GivenSearch$Counts" ax_T2) = true := ax_k_lp2_0
theorem ax_li2 : tables_1[283]? = some (Cond.instantiable "GivenSearch$Counts" 5) ∧ ax_lp2.map (fun z => z.1) = List.range 5 := by decide +kernel
def ax_lp3 : List (Nat × Nat) := [(0, 249), (1, 251), (2, 253)]
theorem ax_k_lp3_0 : (ax_lp3).all (ax_lpb 3 "GivenSearch$Forest" ax_T3) = true := by decide +kernel
theorem ax_lk3 : ax_lp3.all (ax_lpb 3 "GivenSearch$Forest" ax_T3) = true := ax_k_lp3_0
theorem ax_li3 : tables_1[219]? = some (Cond.instantiable "GivenSearch$Forest" 3) ∧ ax_lp3.map (fun z => z.1) = List.range 3 := by decide +kernel
def ax_lp4 : List (Nat × Nat) := [(0, 104)]
theorem ax_k_lp4_0 : (ax_lp4).all (ax_lpb 4 "GivenSearch$Match" ax_T4) = true := by decide +kernel
theorem ax_lk4 : ax_lp4.all (ax_lpb 4 "GivenSearch$Match" ax_T4) = true := ax_k_lp4_0
theorem ax_li4 : tables_1[98]? = some (Cond.instantiable "GivenSearch$Match" 1) ∧ ax_lp4.map (fun z => z.1) = List.range 1 := by decide +kernel
def ax_lp5 : List (Nat × Nat) := [(0, 265), (1, 267), (2, 269), (3, 271), (4, 273), (5, 275)]
theorem ax_k_lp5_0 : (ax_lp5).all (ax_lpb 5 "GivenSearch$Memory" ax_T5) = true := by decide +kernel
theorem ax_lk5 : ax_lp5.all (ax_lpb 5 "GivenSearch$Memory" ax_T5) = true := ax_k_lp5_0
theorem ax_li5 : tables_1[213]? = some (Cond.instantiable "GivenSearch$Memory" 6) ∧ ax_lp5.map (fun z => z.1) = List.range 6 := by decide +kernel
def ax_lp6 : List (Nat × Nat) := [(0, 237), (1, 239)]
theorem ax_k_lp6_0 : (ax_lp6).all (ax_lpb 6 "GivenSearch$Nodes" ax_T6) = true := by decide +kernel
theorem ax_lk6 : ax_lp6.all (ax_lpb 6 "GivenSearch$Nodes" ax_T6) = true := ax_k_lp6_0
theorem ax_li6 : tables_1[225]? = some (Cond.instantiable "GivenSearch$Nodes" 2) ∧ ax_lp6.map (fun z => z.1) = List.range 2 := by decide +kernel
def ax_lp7 : List (Nat × Nat) := [(0, 331), (1, 333), (2, 335), (3, 337), (4, 339), (5, 341), (6, 343), (7, 345), (8, 347), (9, 349), (10, 351), (11, 353), (12, 355), (13, 357), (14, 359), (15, 361), (16, 363), (17, 365), (18, 367), (19, 369)]
theorem ax_k_lp7_0 : (ax_lp7).all (ax_lpb 7 "GivenSearch$Search" ax_T7) = true := by decide +kernel
theorem ax_lk7 : ax_lp7.all (ax_lpb 7 "GivenSearch$Search" ax_T7) = true := ax_k_lp7_0
theorem ax_li7 : tables_1[152]? = some (Cond.instantiable "GivenSearch$Search" 20) ∧ ax_lp7.map (fun z => z.1) = List.range 20 := by decide +kernel
def ax_lp8 : List (Nat × Nat) := [(0, 38), (1, 40), (2, 42), (3, 44)]
theorem ax_k_lp8_0 : (ax_lp8).all (ax_lpb 8 "GivenSearch$Tape" ax_T8) = true := by decide +kernel
theorem ax_lk8 : ax_lp8.all (ax_lpb 8 "GivenSearch$Tape" ax_T8) = true := ax_k_lp8_0
theorem ax_li8 : tables_1[27]? = some (Cond.instantiable "GivenSearch$Tape" 4) ∧ ax_lp8.map (fun z => z.1) = List.range 4 := by decide +kernel
def ax_lp9 : List (Nat × Nat) := [(0, 181), (1, 183), (2, 185), (3, 187), (4, 189), (5, 191), (6, 193), (7, 195), (8, 197), (9, 199), (10, 201), (11, 203), (12, 205), (13, 207), (14, 209)]
theorem ax_k_lp9_0 : (ax_lp9).all (ax_lpb 9 "GivenSearch$Terms" ax_T9) = true := by decide +kernel
theorem ax_lk9 : ax_lp9.all (ax_lpb 9 "GivenSearch$Terms" ax_T9) = true := ax_k_lp9_0
theorem ax_li9 : tables_1[158]? = some (Cond.instantiable "GivenSearch$Terms" 15) ∧ ax_lp9.map (fun z => z.1) = List.range 15 := by decide +kernel
def ax_lp10 : List (Nat × Nat) := [(0, 130), (1, 132), (2, 134), (3, 136), (4, 138), (5, 140), (6, 142), (7, 144), (8, 146), (9, 148)]
theorem ax_k_lp10_0 : (ax_lp10).all (ax_lpb 10 "GivenSearch$Text" ax_T10) = true := by decide +kernel
theorem ax_lk10 : ax_lp10.all (ax_lpb 10 "GivenSearch$Text" ax_T10) = true := ax_k_lp10_0
theorem ax_li10 : tables_1[92]? = some (Cond.instantiable "GivenSearch$Text" 10) ∧ ax_lp10.map (fun z => z.1) = List.range 10 := by decide +kernel
def ax_lp11 : List (Nat × Nat) := [(0, 84), (1, 86), (2, 88)]
theorem ax_k_lp11_0 : (ax_lp11).all (ax_lpb 11 "GivenSearch$Written" ax_T11) = true := by decide +kernel
theorem ax_lk11 : ax_lp11.all (ax_lpb 11 "GivenSearch$Written" ax_T11) = true := ax_k_lp11_0
theorem ax_li11 : tables_1[75]? = some (Cond.instantiable "GivenSearch$Written" 3) ∧ ax_lp11.map (fun z => z.1) = List.range 3 := by decide +kernel
def ax_lp12 : List (Nat × Nat) := [(0, 396), (1, 398), (2, 400), (3, 402), (4, 404), (5, 406), (6, 408), (7, 410), (8, 412), (9, 414), (10, 416), (11, 418), (12, 420), (13, 422), (14, 424), (15, 426), (16, 428), (17, 430)]
theorem ax_k_lp12_0 : (ax_lp12).all (ax_lpb 12 "GivenSearch" ax_T12) = true := by decide +kernel
theorem ax_lk12 : ax_lp12.all (ax_lpb 12 "GivenSearch" ax_T12) = true := ax_k_lp12_0
theorem ax_li12 : tables_1[19]? = some (Cond.instantiable "GivenSearch" 18) ∧ ax_lp12.map (fun z => z.1) = List.range 18 := by decide +kernel
def ax_ip : List Nat := [3, 14, 13, 11, 7, 10, 12, 8, 2, 9, 6, 5, 1, 16, 4, 15, 0]
theorem ax_ip_ok : (List.range 17).all (fun o => decide (((ax_ip[o]?).bind (fun i => tables_1[i]?)) = some (Cond.initialized (ax_own o)))) = true := by decide +kernel
