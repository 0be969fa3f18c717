set_option maxRecDepth 100000 in
set_option maxHeartbeats 4000000 in
theorem c_Md_told {l : Launch} {D : va_G} {cs : Nat → ClassId} {φ : Nat → Nat} {p0 : Int32} {h : Hp} {P : Int32 → Hp → Prop} (hP : wp_Md_told p0 h P) : Ct l D cs φ M_Md_told [.ref (φ 7), .int p0] h (fun rv h2 => ∃ v, rv = some (.int v) ∧ P v h2) := by
  refine Ct.of (lc := [some (.ref (φ 7)), some (.int p0)]) RX11 7 177 rfl (by decide +kernel) rfl (Nat.le_of_ble_eq_true rfl) rfl rfl (fun V R RI RV => ?_)
  have R : Ru l D cs φ RX11 cX11_told 2 7 177 V := R
  have Rt : ∀ pc lc v h, decode cX11_told pc = .ok (.ireturn, 1) → P v h → V pc lc [.int v] h := fun pc lc v h hd hp => RI pc lc _ .int h rfl rfl hd ⟨v, rfl, hp⟩
  unfold wp_Md_told at hP
  refine v_iload_1 R dX11_told_0 ?_
  refine v_iconst R dX11_told_1 (v := (0 : Int32)) (by decide) ?_
  refine v_bipush R dX11_told_2 (v := (13 : Int32)) (by decide) ?_
  refine cS3_br R dX11_told_4 (c_Md_in hP) ml_X11_84 mv_Md_in (by decide) (Nat.le_of_ble_eq_true rfl) (fun v4 hP => ?_)
  refine v_ifb_ne (tgt := 13) R dX11_told_7 (by decide) (fun q7 => ?_) (fun q7 => ?_)
  · have hP := hP.1 q7
    refine v_iload_1 R dX11_told_13 ?_
    by_cases q14_0 : p0 = (0 : Int32)
    · have hP := hP.1 q14_0
      refine v_tabEq (tgt := 80) R dX11_told_14 (0 : Int32) q14_0 (by decide) (by decide) rfl (by decide) ?_
      refine v_aload_0 R dX11_told_80 ?_
      refine g_Md_wires R dX11_told_81 fl_X11_81 ?_
      exact Rt _ _ _ _ dX11_told_84 hP
    have hP := hP.2 q14_0
    by_cases q14_1 : p0 = (1 : Int32)
    · have hP := hP.1 q14_1
      refine v_tabEq (tgt := 85) R dX11_told_14 (1 : Int32) q14_1 (by decide) (by decide) rfl (by decide) ?_
      refine v_aload_0 R dX11_told_85 ?_
      refine g_Md_place R dX11_told_86 fl_X11_170 ?_
      exact Rt _ _ _ _ dX11_told_89 hP
    have hP := hP.2 q14_1
    by_cases q14_2 : p0 = (2 : Int32)
    · have hP := hP.1 q14_2
      refine v_tabEq (tgt := 90) R dX11_told_14 (2 : Int32) q14_2 (by decide) (by decide) rfl (by decide) ?_
      refine v_aload_0 R dX11_told_90 ?_
      refine g_Md_hour R dX11_told_91 fl_X11_173 ?_
      exact Rt _ _ _ _ dX11_told_94 hP
    have hP := hP.2 q14_2
    by_cases q14_3 : p0 = (3 : Int32)
    · have hP := hP.1 q14_3
      refine v_tabEq (tgt := 95) R dX11_told_14 (3 : Int32) q14_3 (by decide) (by decide) rfl (by decide) ?_
      refine v_aload_0 R dX11_told_95 ?_
      refine g_Md_crossed R dX11_told_96 fl_X11_176 ?_
      exact Rt _ _ _ _ dX11_told_99 hP
    have hP := hP.2 q14_3
    by_cases q14_4 : p0 = (4 : Int32)
    · have hP := hP.1 q14_4
      refine v_tabEq (tgt := 100) R dX11_told_14 (4 : Int32) q14_4 (by decide) (by decide) rfl (by decide) ?_
      refine v_aload_0 R dX11_told_100 ?_
      refine g_Md_tests R dX11_told_101 fl_X11_179 ?_
      exact Rt _ _ _ _ dX11_told_104 hP
    have hP := hP.2 q14_4
    by_cases q14_5 : p0 = (5 : Int32)
    · have hP := hP.1 q14_5
      refine v_tabEq (tgt := 105) R dX11_told_14 (5 : Int32) q14_5 (by decide) (by decide) rfl (by decide) ?_
      refine v_aload_0 R dX11_told_105 ?_
      refine g_Md_size R dX11_told_106 fl_X11_107 ?_
      exact Rt _ _ _ _ dX11_told_109 hP
    have hP := hP.2 q14_5
    by_cases q14_6 : p0 = (6 : Int32)
    · have hP := hP.1 q14_6
      refine v_tabEq (tgt := 110) R dX11_told_14 (6 : Int32) q14_6 (by decide) (by decide) rfl (by decide) ?_
      refine v_aload_0 R dX11_told_110 ?_
      refine cV0_ir R dX11_told_111 (c_Md_touchMany hP) rc_Md ml_X11_247 mv_Md_touchMany (by decide) (Nat.le_of_ble_eq_true rfl) (fun v111 hP => ?_)
      exact Rt _ _ _ _ dX11_told_114 hP
    have hP := hP.2 q14_6
    by_cases q14_7 : p0 = (7 : Int32)
    · have hP := hP.1 q14_7
      refine v_tabEq (tgt := 115) R dX11_told_14 (7 : Int32) q14_7 (by decide) (by decide) rfl (by decide) ?_
      refine v_aload_0 R dX11_told_115 ?_
      refine cV0_ir R dX11_told_116 (c_Md_goodSet hP) rc_Md ml_X11_308 mv_Md_goodSet (by decide) (Nat.le_of_ble_eq_true rfl) (fun v116 hP => ?_)
      exact Rt _ _ _ _ dX11_told_119 hP
    have hP := hP.2 q14_7
    by_cases q14_8 : p0 = (8 : Int32)
    · have hP := hP.1 q14_8
      refine v_tabEq (tgt := 120) R dX11_told_14 (8 : Int32) q14_8 (by decide) (by decide) rfl (by decide) ?_
      refine v_aload_0 R dX11_told_120 ?_
      refine cV0_vw R dX11_told_121 (c_Md_setCould hP) rc_Md ml_X11_290 mv_Md_setCould (by decide) (Nat.le_of_ble_eq_true rfl) (fun h121 hP => ?_)
      refine v_aload_0 R dX11_told_124 ?_
      refine g_Md_couldMany R dX11_told_125 fl_X11_275 ?_
      exact Rt _ _ _ _ dX11_told_128 hP
    have hP := hP.2 q14_8
    by_cases q14_9 : p0 = (9 : Int32)
    · have hP := hP.1 q14_9
      refine v_tabEq (tgt := 129) R dX11_told_14 (9 : Int32) q14_9 (by decide) (by decide) rfl (by decide) ?_
      refine v_aload_0 R dX11_told_129 ?_
      refine cV0_iw R dX11_told_130 (c_Md_askPair hP) rc_Md ml_X11_311 mv_Md_askPair (by decide) (Nat.le_of_ble_eq_true rfl) (fun v130 h130 hP => ?_)
      exact Rt _ _ _ _ dX11_told_133 hP
    have hP := hP.2 q14_9
    by_cases q14_10 : p0 = (10 : Int32)
    · have hP := hP.1 q14_10
      refine v_tabEq (tgt := 134) R dX11_told_14 (10 : Int32) q14_10 (by decide) (by decide) rfl (by decide) ?_
      refine v_aload_0 R dX11_told_134 ?_
      refine v_aload_0 R dX11_told_135 ?_
      refine g_Md_place R dX11_told_136 fl_X11_170 ?_
      refine v_aload_0 R dX11_told_139 ?_
      refine g_Md_near R dX11_told_140 fl_X11_16 ?_
      refine v_aload_0 R dX11_told_143 ?_
      refine g_Md_far R dX11_told_144 fl_X11_19 ?_
      refine cV3_iw R dX11_told_147 (c_Md_leftBy rfl rfl hP) rc_Md ml_X11_297 mv_Md_leftBy (by decide) (Nat.le_of_ble_eq_true rfl) (fun v147 h147 hP => ?_)
      exact Rt _ _ _ _ dX11_told_150 hP
    have hP := hP.2 q14_10
    by_cases q14_11 : p0 = (11 : Int32)
    · have hP := hP.1 q14_11
      refine v_tabEq (tgt := 151) R dX11_told_14 (11 : Int32) q14_11 (by decide) (by decide) rfl (by decide) ?_
      refine v_aload_0 R dX11_told_151 ?_
      refine g_Md_seenMany R dX11_told_152 fl_X11_182 ?_
      exact Rt _ _ _ _ dX11_told_155 hP
    have hP := hP.2 q14_11
    by_cases q14_12 : p0 = (12 : Int32)
    · have hP := hP.1 q14_12
      refine v_tabEq (tgt := 156) R dX11_told_14 (12 : Int32) q14_12 (by decide) (by decide) rfl (by decide) ?_
      refine v_aload_0 R dX11_told_156 ?_
      refine g_Md_bookMany R dX11_told_157 fl_X11_185 ?_
      exact Rt _ _ _ _ dX11_told_160 hP
    have hP := hP.2 q14_12
    refine v_tabDf (tgt := 161) R dX11_told_14 (by have e0 := lv_neT (a := 0) q14_0 rfl; have e1 := lv_neT (a := 1) q14_1 rfl; have e2 := lv_neT (a := 2) q14_2 rfl; have e3 := lv_neT (a := 3) q14_3 rfl; have e4 := lv_neT (a := 4) q14_4 rfl; have e5 := lv_neT (a := 5) q14_5 rfl; have e6 := lv_neT (a := 6) q14_6 rfl; have e7 := lv_neT (a := 7) q14_7 rfl; have e8 := lv_neT (a := 8) q14_8 rfl; have e9 := lv_neT (a := 9) q14_9 rfl; have e10 := lv_neT (a := 10) q14_10 rfl; have e11 := lv_neT (a := 11) q14_11 rfl; have e12 := lv_neT (a := 12) q14_12 rfl; omega) (by decide) ?_
    refine v_aload_0 R dX11_told_161 ?_
    refine g_Md_undoMany R dX11_told_162 fl_X11_188 ?_
    exact Rt _ _ _ _ dX11_told_165 hP
  · have hP := hP.2 q7
    refine v_ldc R dX11_told_10 ct_X11_106 ?_
    exact Rt _ _ _ _ dX11_told_12 hP
