/-! (written by wip/tools/simp63.py) reads and writes at the cells of both objects -/
section SMP
variable {vv : hp_V} {ww : hp_W} {aa : hp_V} {bb : hp_B}
theorem is_0 : m_is (hp_mk vv ww aa bb) 0 0 = true := rfl
theorem gr_0_0 : m_gR (hp_mk vv ww aa bb) 0 0 0 = some (some 1) := gR_mk rfl
theorem gr_0_1 : m_gR (hp_mk vv ww aa bb) 0 0 1 = some (some 3) := gR_mk rfl
theorem gr_0_2 : m_gR (hp_mk vv ww aa bb) 0 0 2 = some (some 65) := gR_mk rfl
theorem gr_0_3 : m_gR (hp_mk vv ww aa bb) 0 0 3 = some (some 69) := gR_mk rfl
theorem gr_0_4 : m_gR (hp_mk vv ww aa bb) 0 0 4 = some (some 71) := gR_mk rfl
theorem gr_0_5 : m_gR (hp_mk vv ww aa bb) 0 0 5 = some (some 76) := gR_mk rfl
theorem gr_0_6 : m_gR (hp_mk vv ww aa bb) 0 0 6 = some (some 125) := gR_mk rfl
theorem gi_0_7 : m_gI (hp_mk vv ww aa bb) 0 0 7 = some (vv 0 7) := gI_mk rfl
theorem pi_0_7 {x : Int32} : m_pI (hp_mk vv ww aa bb) 0 0 7 x = some (hp_mk (up_v vv 0 7 x) ww aa bb) := pI_mk rfl
theorem gi_0_8 : m_gI (hp_mk vv ww aa bb) 0 0 8 = some (vv 0 8) := gI_mk rfl
theorem pi_0_8 {x : Int32} : m_pI (hp_mk vv ww aa bb) 0 0 8 x = some (hp_mk (up_v vv 0 8 x) ww aa bb) := pI_mk rfl
theorem gi_0_9 : m_gI (hp_mk vv ww aa bb) 0 0 9 = some (vv 0 9) := gI_mk rfl
theorem pi_0_9 {x : Int32} : m_pI (hp_mk vv ww aa bb) 0 0 9 x = some (hp_mk (up_v vv 0 9 x) ww aa bb) := pI_mk rfl
theorem is_3 : m_is (hp_mk vv ww aa bb) 3 2 = true := rfl
theorem gr_3_0 : m_gR (hp_mk vv ww aa bb) 3 2 0 = some (some 4) := gR_mk rfl
theorem gi_3_1 : m_gI (hp_mk vv ww aa bb) 3 2 1 = some (vv 3 1) := gI_mk rfl
theorem pi_3_1 {x : Int32} : m_pI (hp_mk vv ww aa bb) 3 2 1 x = some (hp_mk (up_v vv 3 1 x) ww aa bb) := pI_mk rfl
theorem is_65 : m_is (hp_mk vv ww aa bb) 65 5 = true := rfl
theorem gr_65_0 : m_gR (hp_mk vv ww aa bb) 65 5 0 = some (some 66) := gR_mk rfl
theorem gr_65_1 : m_gR (hp_mk vv ww aa bb) 65 5 1 = some (some 67) := gR_mk rfl
theorem is_66 : m_is (hp_mk vv ww aa bb) 66 3 = true := rfl
theorem gl_66_0 : m_gL (hp_mk vv ww aa bb) 66 3 0 = some (ww 66) := gL_mk rfl
theorem gi_66_1 : m_gI (hp_mk vv ww aa bb) 66 3 1 = some (vv 66 1) := gI_mk rfl
theorem pi_66_1 {x : Int32} : m_pI (hp_mk vv ww aa bb) 66 3 1 x = some (hp_mk (up_v vv 66 1 x) ww aa bb) := pI_mk rfl
theorem is_69 : m_is (hp_mk vv ww aa bb) 69 6 = true := rfl
theorem gr_69_0 : m_gR (hp_mk vv ww aa bb) 69 6 0 = some (some 70) := gR_mk rfl
theorem is_71 : m_is (hp_mk vv ww aa bb) 71 7 = true := rfl
theorem gr_71_0 : m_gR (hp_mk vv ww aa bb) 71 7 0 = some (some 72) := gR_mk rfl
theorem gr_71_1 : m_gR (hp_mk vv ww aa bb) 71 7 1 = some (some 73) := gR_mk rfl
theorem gr_71_2 : m_gR (hp_mk vv ww aa bb) 71 7 2 = some (some 74) := gR_mk rfl
theorem gr_71_3 : m_gR (hp_mk vv ww aa bb) 71 7 3 = some (some 75) := gR_mk rfl
theorem gi_71_4 : m_gI (hp_mk vv ww aa bb) 71 7 4 = some (vv 71 4) := gI_mk rfl
theorem pi_71_4 {x : Int32} : m_pI (hp_mk vv ww aa bb) 71 7 4 x = some (hp_mk (up_v vv 71 4 x) ww aa bb) := pI_mk rfl
theorem gi_71_5 : m_gI (hp_mk vv ww aa bb) 71 7 5 = some (vv 71 5) := gI_mk rfl
theorem pi_71_5 {x : Int32} : m_pI (hp_mk vv ww aa bb) 71 7 5 x = some (hp_mk (up_v vv 71 5 x) ww aa bb) := pI_mk rfl
theorem gi_71_6 : m_gI (hp_mk vv ww aa bb) 71 7 6 = some (vv 71 6) := gI_mk rfl
theorem pi_71_6 {x : Int32} : m_pI (hp_mk vv ww aa bb) 71 7 6 x = some (hp_mk (up_v vv 71 6 x) ww aa bb) := pI_mk rfl
theorem is_75 : m_is (hp_mk vv ww aa bb) 75 3 = true := rfl
theorem gl_75_0 : m_gL (hp_mk vv ww aa bb) 75 3 0 = some (ww 75) := gL_mk rfl
theorem gi_75_1 : m_gI (hp_mk vv ww aa bb) 75 3 1 = some (vv 75 1) := gI_mk rfl
theorem pi_75_1 {x : Int32} : m_pI (hp_mk vv ww aa bb) 75 3 1 x = some (hp_mk (up_v vv 75 1 x) ww aa bb) := pI_mk rfl
theorem is_126 : m_is (hp_mk vv ww aa bb) 126 8 = true := rfl
theorem gr_126_0 : m_gR (hp_mk vv ww aa bb) 126 8 0 = some (some 127) := gR_mk rfl
theorem gr_126_1 : m_gR (hp_mk vv ww aa bb) 126 8 1 = some (some 128) := gR_mk rfl
theorem gi_126_2 : m_gI (hp_mk vv ww aa bb) 126 8 2 = some (vv 126 2) := gI_mk rfl
theorem pi_126_2 {x : Int32} : m_pI (hp_mk vv ww aa bb) 126 8 2 x = some (hp_mk (up_v vv 126 2 x) ww aa bb) := pI_mk rfl
theorem gr_126_3 : m_gR (hp_mk vv ww aa bb) 126 8 3 = some (some 129) := gR_mk rfl
theorem gr_126_4 : m_gR (hp_mk vv ww aa bb) 126 8 4 = some (some 130) := gR_mk rfl
theorem gr_126_5 : m_gR (hp_mk vv ww aa bb) 126 8 5 = some (some 131) := gR_mk rfl
theorem gi_126_6 : m_gI (hp_mk vv ww aa bb) 126 8 6 = some (vv 126 6) := gI_mk rfl
theorem pi_126_6 {x : Int32} : m_pI (hp_mk vv ww aa bb) 126 8 6 x = some (hp_mk (up_v vv 126 6 x) ww aa bb) := pI_mk rfl
theorem gr_126_7 : m_gR (hp_mk vv ww aa bb) 126 8 7 = some (some 132) := gR_mk rfl
theorem gr_126_8 : m_gR (hp_mk vv ww aa bb) 126 8 8 = some (some 133) := gR_mk rfl
theorem gr_126_9 : m_gR (hp_mk vv ww aa bb) 126 8 9 = some (some 134) := gR_mk rfl
theorem gi_126_10 : m_gI (hp_mk vv ww aa bb) 126 8 10 = some (vv 126 10) := gI_mk rfl
theorem pi_126_10 {x : Int32} : m_pI (hp_mk vv ww aa bb) 126 8 10 x = some (hp_mk (up_v vv 126 10 x) ww aa bb) := pI_mk rfl
theorem gr_126_11 : m_gR (hp_mk vv ww aa bb) 126 8 11 = some (some 135) := gR_mk rfl
theorem gr_126_12 : m_gR (hp_mk vv ww aa bb) 126 8 12 = some (some 136) := gR_mk rfl
theorem gr_126_13 : m_gR (hp_mk vv ww aa bb) 126 8 13 = some (some 137) := gR_mk rfl
theorem gr_126_14 : m_gR (hp_mk vv ww aa bb) 126 8 14 = some (some 138) := gR_mk rfl
theorem gr_126_15 : m_gR (hp_mk vv ww aa bb) 126 8 15 = some (some 139) := gR_mk rfl
theorem gr_126_16 : m_gR (hp_mk vv ww aa bb) 126 8 16 = some (some 140) := gR_mk rfl
theorem gr_126_17 : m_gR (hp_mk vv ww aa bb) 126 8 17 = some (some 141) := gR_mk rfl
theorem gi_126_18 : m_gI (hp_mk vv ww aa bb) 126 8 18 = some (vv 126 18) := gI_mk rfl
theorem pi_126_18 {x : Int32} : m_pI (hp_mk vv ww aa bb) 126 8 18 x = some (hp_mk (up_v vv 126 18 x) ww aa bb) := pI_mk rfl
theorem gr_126_19 : m_gR (hp_mk vv ww aa bb) 126 8 19 = some (some 142) := gR_mk rfl
theorem gi_126_20 : m_gI (hp_mk vv ww aa bb) 126 8 20 = some (vv 126 20) := gI_mk rfl
theorem pi_126_20 {x : Int32} : m_pI (hp_mk vv ww aa bb) 126 8 20 x = some (hp_mk (up_v vv 126 20 x) ww aa bb) := pI_mk rfl
theorem gi_126_21 : m_gI (hp_mk vv ww aa bb) 126 8 21 = some (vv 126 21) := gI_mk rfl
theorem pi_126_21 {x : Int32} : m_pI (hp_mk vv ww aa bb) 126 8 21 x = some (hp_mk (up_v vv 126 21 x) ww aa bb) := pI_mk rfl
theorem gr_126_22 : m_gR (hp_mk vv ww aa bb) 126 8 22 = some (some 143) := gR_mk rfl
theorem gr_126_23 : m_gR (hp_mk vv ww aa bb) 126 8 23 = some (some 144) := gR_mk rfl
theorem gi_126_24 : m_gI (hp_mk vv ww aa bb) 126 8 24 = some (vv 126 24) := gI_mk rfl
theorem pi_126_24 {x : Int32} : m_pI (hp_mk vv ww aa bb) 126 8 24 x = some (hp_mk (up_v vv 126 24 x) ww aa bb) := pI_mk rfl
theorem gi_126_25 : m_gI (hp_mk vv ww aa bb) 126 8 25 = some (vv 126 25) := gI_mk rfl
theorem pi_126_25 {x : Int32} : m_pI (hp_mk vv ww aa bb) 126 8 25 x = some (hp_mk (up_v vv 126 25 x) ww aa bb) := pI_mk rfl
theorem gl_126_26 : m_gL (hp_mk vv ww aa bb) 126 8 26 = some (ww 126) := gL_mk rfl
theorem gi_126_27 : m_gI (hp_mk vv ww aa bb) 126 8 27 = some (vv 126 27) := gI_mk rfl
theorem pi_126_27 {x : Int32} : m_pI (hp_mk vv ww aa bb) 126 8 27 x = some (hp_mk (up_v vv 126 27 x) ww aa bb) := pI_mk rfl
theorem ld_70 {k : Nat} (h : k < 64) : m_ld (hp_mk vv ww aa bb) 70 0 (nI k) = some (aa 70 k) := ld_n rfl h (by omega)
theorem st_70 {k : Nat} {y : Int32} (h : k < 64) : m_st (hp_mk vv ww aa bb) 70 0 (nI k) y = some (hp_mk vv ww (up_a aa 70 (upd (aa 70) k y)) bb) := st_n rfl h (by omega)
theorem ld_72 {k : Nat} (h : k < 7) : m_ld (hp_mk vv ww aa bb) 72 0 (nI k) = some (aa 72 k) := ld_n rfl h (by omega)
theorem st_72 {k : Nat} {y : Int32} (h : k < 7) : m_st (hp_mk vv ww aa bb) 72 0 (nI k) y = some (hp_mk vv ww (up_a aa 72 (upd (aa 72) k y)) bb) := st_n rfl h (by omega)
theorem ld_73 {k : Nat} (h : k < 7) : m_ld (hp_mk vv ww aa bb) 73 0 (nI k) = some (aa 73 k) := ld_n rfl h (by omega)
theorem st_73 {k : Nat} {y : Int32} (h : k < 7) : m_st (hp_mk vv ww aa bb) 73 0 (nI k) y = some (hp_mk vv ww (up_a aa 73 (upd (aa 73) k y)) bb) := st_n rfl h (by omega)
theorem ld_74 {k : Nat} (h : k < 7) : m_ld (hp_mk vv ww aa bb) 74 3 (nI k) = some (aa 74 k) := ld_n rfl h (by omega)
theorem st_74 {k : Nat} {y : Int32} (h : k < 7) : m_st (hp_mk vv ww aa bb) 74 3 (nI k) y = some (hp_mk vv ww (up_a aa 74 (upd (aa 74) k y)) bb) := st_n rfl h (by omega)
theorem ld_125 {k : Nat} (h : k < 12) : m_ld (hp_mk vv ww aa bb) 125 0 (nI k) = some (aa 125 k) := ld_n rfl h (by omega)
theorem st_125 {k : Nat} {y : Int32} (h : k < 12) : m_st (hp_mk vv ww aa bb) 125 0 (nI k) y = some (hp_mk vv ww (up_a aa 125 (upd (aa 125) k y)) bb) := st_n rfl h (by omega)
theorem ld_127 {k : Nat} (h : k < 1240) : m_ld (hp_mk vv ww aa bb) 127 0 (nI k) = some (aa 127 k) := ld_n rfl h (by omega)
theorem st_127 {k : Nat} {y : Int32} (h : k < 1240) : m_st (hp_mk vv ww aa bb) 127 0 (nI k) y = some (hp_mk vv ww (up_a aa 127 (upd (aa 127) k y)) bb) := st_n rfl h (by omega)
theorem ld_128 {k : Nat} (h : k < 31) : m_ld (hp_mk vv ww aa bb) 128 0 (nI k) = some (aa 128 k) := ld_n rfl h (by omega)
theorem st_128 {k : Nat} {y : Int32} (h : k < 31) : m_st (hp_mk vv ww aa bb) 128 0 (nI k) y = some (hp_mk vv ww (up_a aa 128 (upd (aa 128) k y)) bb) := st_n rfl h (by omega)
theorem ld_129 {k : Nat} (h : k < 40) : m_ld (hp_mk vv ww aa bb) 129 0 (nI k) = some (aa 129 k) := ld_n rfl h (by omega)
theorem st_129 {k : Nat} {y : Int32} (h : k < 40) : m_st (hp_mk vv ww aa bb) 129 0 (nI k) y = some (hp_mk vv ww (up_a aa 129 (upd (aa 129) k y)) bb) := st_n rfl h (by omega)
theorem ld_130 {k : Nat} (h : k < 40) : m_ld (hp_mk vv ww aa bb) 130 0 (nI k) = some (aa 130 k) := ld_n rfl h (by omega)
theorem st_130 {k : Nat} {y : Int32} (h : k < 40) : m_st (hp_mk vv ww aa bb) 130 0 (nI k) y = some (hp_mk vv ww (up_a aa 130 (upd (aa 130) k y)) bb) := st_n rfl h (by omega)
theorem ld_131 {k : Nat} (h : k < 40) : m_ld (hp_mk vv ww aa bb) 131 0 (nI k) = some (aa 131 k) := ld_n rfl h (by omega)
theorem st_131 {k : Nat} {y : Int32} (h : k < 40) : m_st (hp_mk vv ww aa bb) 131 0 (nI k) y = some (hp_mk vv ww (up_a aa 131 (upd (aa 131) k y)) bb) := st_n rfl h (by omega)
theorem ld_132 {k : Nat} (h : k < 12) : m_ld (hp_mk vv ww aa bb) 132 3 (nI k) = some (aa 132 k) := ld_n rfl h (by omega)
theorem st_132 {k : Nat} {y : Int32} (h : k < 12) : m_st (hp_mk vv ww aa bb) 132 3 (nI k) y = some (hp_mk vv ww (up_a aa 132 (upd (aa 132) k y)) bb) := st_n rfl h (by omega)
theorem ld_133 {k : Nat} (h : k < 12) : m_ld (hp_mk vv ww aa bb) 133 0 (nI k) = some (aa 133 k) := ld_n rfl h (by omega)
theorem st_133 {k : Nat} {y : Int32} (h : k < 12) : m_st (hp_mk vv ww aa bb) 133 0 (nI k) y = some (hp_mk vv ww (up_a aa 133 (upd (aa 133) k y)) bb) := st_n rfl h (by omega)
theorem ld_134 {k : Nat} (h : k < 12) : m_ld (hp_mk vv ww aa bb) 134 0 (nI k) = some (aa 134 k) := ld_n rfl h (by omega)
theorem st_134 {k : Nat} {y : Int32} (h : k < 12) : m_st (hp_mk vv ww aa bb) 134 0 (nI k) y = some (hp_mk vv ww (up_a aa 134 (upd (aa 134) k y)) bb) := st_n rfl h (by omega)
theorem ld_135 {k : Nat} (h : k < 48) : m_ld (hp_mk vv ww aa bb) 135 0 (nI k) = some (aa 135 k) := ld_n rfl h (by omega)
theorem st_135 {k : Nat} {y : Int32} (h : k < 48) : m_st (hp_mk vv ww aa bb) 135 0 (nI k) y = some (hp_mk vv ww (up_a aa 135 (upd (aa 135) k y)) bb) := st_n rfl h (by omega)
theorem ld_136 {k : Nat} (h : k < 12) : m_ld (hp_mk vv ww aa bb) 136 0 (nI k) = some (aa 136 k) := ld_n rfl h (by omega)
theorem st_136 {k : Nat} {y : Int32} (h : k < 12) : m_st (hp_mk vv ww aa bb) 136 0 (nI k) y = some (hp_mk vv ww (up_a aa 136 (upd (aa 136) k y)) bb) := st_n rfl h (by omega)
theorem ld_137 {k : Nat} (h : k < 12) : m_ld (hp_mk vv ww aa bb) 137 0 (nI k) = some (aa 137 k) := ld_n rfl h (by omega)
theorem st_137 {k : Nat} {y : Int32} (h : k < 12) : m_st (hp_mk vv ww aa bb) 137 0 (nI k) y = some (hp_mk vv ww (up_a aa 137 (upd (aa 137) k y)) bb) := st_n rfl h (by omega)
theorem ld_138 {k : Nat} (h : k < 12) : m_ld (hp_mk vv ww aa bb) 138 0 (nI k) = some (aa 138 k) := ld_n rfl h (by omega)
theorem st_138 {k : Nat} {y : Int32} (h : k < 12) : m_st (hp_mk vv ww aa bb) 138 0 (nI k) y = some (hp_mk vv ww (up_a aa 138 (upd (aa 138) k y)) bb) := st_n rfl h (by omega)
theorem ld_139 {k : Nat} (h : k < 12) : m_ld (hp_mk vv ww aa bb) 139 0 (nI k) = some (aa 139 k) := ld_n rfl h (by omega)
theorem st_139 {k : Nat} {y : Int32} (h : k < 12) : m_st (hp_mk vv ww aa bb) 139 0 (nI k) y = some (hp_mk vv ww (up_a aa 139 (upd (aa 139) k y)) bb) := st_n rfl h (by omega)
theorem ld_141 {k : Nat} (h : k < 600) : m_ld (hp_mk vv ww aa bb) 141 0 (nI k) = some (aa 141 k) := ld_n rfl h (by omega)
theorem st_141 {k : Nat} {y : Int32} (h : k < 600) : m_st (hp_mk vv ww aa bb) 141 0 (nI k) y = some (hp_mk vv ww (up_a aa 141 (upd (aa 141) k y)) bb) := st_n rfl h (by omega)
theorem ld_142 {k : Nat} (h : k < 64) : m_ld (hp_mk vv ww aa bb) 142 0 (nI k) = some (aa 142 k) := ld_n rfl h (by omega)
theorem st_142 {k : Nat} {y : Int32} (h : k < 64) : m_st (hp_mk vv ww aa bb) 142 0 (nI k) y = some (hp_mk vv ww (up_a aa 142 (upd (aa 142) k y)) bb) := st_n rfl h (by omega)
theorem ld_143 {k : Nat} (h : k < 44) : m_ld (hp_mk vv ww aa bb) 143 0 (nI k) = some (aa 143 k) := ld_n rfl h (by omega)
theorem st_143 {k : Nat} {y : Int32} (h : k < 44) : m_st (hp_mk vv ww aa bb) 143 0 (nI k) y = some (hp_mk vv ww (up_a aa 143 (upd (aa 143) k y)) bb) := st_n rfl h (by omega)
theorem ld_144 {k : Nat} (h : k < 44) : m_ld (hp_mk vv ww aa bb) 144 0 (nI k) = some (aa 144 k) := ld_n rfl h (by omega)
theorem st_144 {k : Nat} {y : Int32} (h : k < 44) : m_st (hp_mk vv ww aa bb) 144 0 (nI k) y = some (hp_mk vv ww (up_a aa 144 (upd (aa 144) k y)) bb) := st_n rfl h (by omega)
theorem ld_140 {k : Nat} (h : k < 600) : m_ldL (hp_mk vv ww aa bb) 140 2 (nI k) = some (bb 140 k) := ldL_n rfl h (by omega)
theorem st_140 {k : Nat} {y : Int64} (h : k < 600) : m_stL (hp_mk vv ww aa bb) 140 2 (nI k) y = some (hp_mk vv ww aa (up_b bb 140 (vp_updL (bb 140) k y))) := stL_n rfl h (by omega)
end SMP
