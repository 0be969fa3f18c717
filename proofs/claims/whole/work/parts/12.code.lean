set_option maxRecDepth 100000 in
set_option maxHeartbeats 4000000 in
theorem c_Fe_ringsBy {l : Launch} {D : va_G} {cs : Nat → ClassId} {φ : Nat → Nat} {p0 p1 p2 : Int32} {h : Hp} {P : Bool → Hp → Prop} (hP : wp_Fe_ringsBy p0 p1 p2 h P) : Ct l D cs φ M_Fe_ringsBy [.ref (φ 0), .int p0, .int p1, .int p2] h (fun rv h2 => ∃ v, rv = some (.int (bI v)) ∧ P v h2) := by
  refine Ct.of (lc := [some (.ref (φ 0)), some (.int p0), some (.int p1), some (.int p2)]) RX10 4 91 rfl (by decide +kernel) rfl (Nat.le_of_ble_eq_true rfl) rfl rfl (fun V R RI RV => ?_)
  have R : Ru l D cs φ RX10 cX10_ringsBy 4 4 91 V := R
  have Rt : ∀ pc lc v h, decode cX10_ringsBy pc = .ok (.ireturn, 1) → P v h → V pc lc [.int (bI v)] h := fun pc lc v h hd hp => RI pc lc _ .boolean h rfl (bI_n v) hd ⟨v, rfl, hp⟩
  unfold wp_Fe_ringsBy at hP
  refine v_aload_0 R dX10_ringsBy_0 ?_
  refine v_iload_1 R dX10_ringsBy_1 ?_
  refine cV1_vw R dX10_ringsBy_2 (c_Fe_joinAll hP) rc_Fe ml_X10_204 mv_Fe_joinAll (by decide) (Nat.le_of_ble_eq_true rfl) (fun h2 hP => ?_)
  refine v_aload_0 R dX10_ringsBy_5 ?_
  refine g_Fe_nets R dX10_ringsBy_6 fl_X10_62 ?_
  refine v_aload_0 R dX10_ringsBy_9 ?_
  refine g_Fe_now R dX10_ringsBy_10 fl_X10_23 ?_
  refine g_State_place R dX10_ringsBy_13 fl_X10_142 rfl ?_
  refine v_iload_2 R dX10_ringsBy_16 ?_
  refine cS2_ir R dX10_ringsBy_17 (c_Fe_nodeOf hP) ml_X10_208 mv_Fe_nodeOf (by decide) (Nat.le_of_ble_eq_true rfl) (fun v17 hP => ?_)
  refine v_aload_0 R dX10_ringsBy_20 ?_
  refine g_Fe_now R dX10_ringsBy_21 fl_X10_23 ?_
  refine g_State_place R dX10_ringsBy_24 fl_X10_142 rfl ?_
  refine v_iload_3 R dX10_ringsBy_27 ?_
  refine cS2_ir R dX10_ringsBy_28 (c_Fe_nodeOf hP) ml_X10_208 mv_Fe_nodeOf (by decide) (Nat.le_of_ble_eq_true rfl) (fun v28 hP => ?_)
  refine cV2_br R dX10_ringsBy_31 (c_Nets_areJoined rfl hP) (rc_Nets rfl) ml_X10_304 mv_Nets_areJoined (by decide) (Nat.le_of_ble_eq_true rfl) (fun v31 hP => ?_)
  exact Rt _ _ _ _ dX10_ringsBy_34 hP
set_option maxRecDepth 100000 in
set_option maxHeartbeats 4000000 in
theorem c_Fe_rings {l : Launch} {D : va_G} {cs : Nat → ClassId} {φ : Nat → Nat} {p0 p1 : Int32} {h : Hp} {P : Int32 → Hp → Prop} (hP : wp_Fe_rings p0 p1 h P) : Ct l D cs φ M_Fe_rings [.ref (φ 0), .int p0, .int p1] h (fun rv h2 => ∃ v, rv = some (.int v) ∧ P v h2) := by
  refine Ct.of (lc := [some (.ref (φ 0)), some (.int p0), some (.int p1)]) RX10 5 114 rfl (by decide +kernel) rfl (Nat.le_of_ble_eq_true rfl) rfl rfl (fun V R RI RV => ?_)
  have R : Ru l D cs φ RX10 cX10_rings 3 5 114 V := R
  have Rt : ∀ pc lc v h, decode cX10_rings pc = .ok (.ireturn, 1) → P v h → V pc lc [.int v] h := fun pc lc v h hd hp => RI pc lc _ .int h rfl rfl hd ⟨v, rfl, hp⟩
  unfold wp_Fe_rings at hP
  refine v_aload_0 R dX10_rings_0 ?_
  refine v_iload_1 R dX10_rings_1 ?_
  refine v_iload_2 R dX10_rings_2 ?_
  refine cV2_br R dX10_rings_3 (c_Fe_canHold hP) rc_Fe ml_X10_214 mv_Fe_canHold (by decide) (Nat.le_of_ble_eq_true rfl) (fun v3 hP => ?_)
  refine v_ifb_ne (tgt := 12) R dX10_rings_6 (by decide) (fun q6 => ?_) (fun q6 => ?_)
  · have hP := hP.1 q6
    refine v_aload_0 R dX10_rings_12 ?_
    refine v_aload_0 R dX10_rings_13 ?_
    refine g_Fe_now R dX10_rings_14 fl_X10_23 ?_
    refine g_State_kinds R dX10_rings_17 fl_X10_181 rfl ?_
    refine v_iload_1 R dX10_rings_20 ?_
    refine v_iload_2 R dX10_rings_21 ?_
    refine cV3_bw R dX10_rings_22 (c_Fe_ringsBy hP) rc_Fe ml_X10_218 mv_Fe_ringsBy (by decide) (Nat.le_of_ble_eq_true rfl) (fun v22 h22 hP => ?_)
    refine v_ifb_eq (tgt := 32) R dX10_rings_25 (by decide) (fun q25 => ?_) (fun q25 => ?_)
    · have hP := hP.1 q25
      refine v_iconst R dX10_rings_32 (v := (0 : Int32)) (by decide) ?_
      exact Rt _ _ _ _ dX10_rings_33 hP
    · have hP := hP.2 q25
      refine v_iconst R dX10_rings_28 (v := (1 : Int32)) (by decide) ?_
      refine v_goto (tgt := 33) R dX10_rings_29 (by decide) ?_
      exact Rt _ _ _ _ dX10_rings_33 hP
  · have hP := hP.2 q6
    refine v_ldc R dX10_rings_9 ct_X10_180 ?_
    exact Rt _ _ _ _ dX10_rings_11 hP
set_option maxRecDepth 100000 in
set_option maxHeartbeats 4000000 in
theorem c_Fe_touches {l : Launch} {D : va_G} {cs : Nat → ClassId} {φ : Nat → Nat} {p0 p1 : Int32} {h : Hp} {P : Int32 → Prop} (hP : wp_Fe_touches p0 p1 h P) : Ct l D cs φ M_Fe_touches [.ref (φ 0), .int p0, .int p1] h (fun rv h2 => ∃ v, rv = some (.int v) ∧ h2 = h ∧ P v) := by
  refine Ct.of (lc := [some (.ref (φ 0)), some (.int p0), some (.int p1)]) RX10 2 43 rfl (by decide +kernel) rfl (Nat.le_of_ble_eq_true rfl) rfl rfl (fun V R RI RV => ?_)
  have R : Ru l D cs φ RX10 cX10_touches 3 2 43 V := R
  have Rt : ∀ pc lc v, decode cX10_touches pc = .ok (.ireturn, 1) → P v → V pc lc [.int v] h := fun pc lc v hd hp => RI pc lc _ .int h rfl rfl hd ⟨v, rfl, rfl, hp⟩
  unfold wp_Fe_touches at hP
  refine v_aload_0 R dX10_touches_0 ?_
  refine v_iload_1 R dX10_touches_1 ?_
  refine v_iload_2 R dX10_touches_2 ?_
  refine cV2_br R dX10_touches_3 (c_Fe_areTwo hP) rc_Fe ml_X10_222 mv_Fe_areTwo (by decide) (Nat.le_of_ble_eq_true rfl) (fun v3 hP => ?_)
  refine v_ifb_ne (tgt := 12) R dX10_touches_6 (by decide) (fun q6 => ?_) (fun q6 => ?_)
  · have hP := hP.1 q6
    refine v_aload_0 R dX10_touches_12 ?_
    refine g_Fe_now R dX10_touches_13 fl_X10_23 ?_
    refine g_State_touching R dX10_touches_16 fl_X10_154 rfl ?_
    refine v_iload_1 R dX10_touches_19 ?_
    refine v_iload_2 R dX10_touches_20 ?_
    refine cS2_ir R dX10_touches_21 (c_Fe_pairBit hP) ml_X10_225 mv_Fe_pairBit (by decide) (Nat.le_of_ble_eq_true rfl) (fun v21 hP => ?_)
    refine v_iand R dX10_touches_24 ?_
    refine v_if_eq (tgt := 32) R dX10_touches_25 (by decide) (fun q25 => ?_) (fun q25 => ?_)
    · have hP := hP.1 q25
      refine v_iconst R dX10_touches_32 (v := (0 : Int32)) (by decide) ?_
      exact Rt _ _ _ dX10_touches_33 hP
    · have hP := hP.2 q25
      refine v_iconst R dX10_touches_28 (v := (1 : Int32)) (by decide) ?_
      refine v_goto (tgt := 33) R dX10_touches_29 (by decide) ?_
      exact Rt _ _ _ dX10_touches_33 hP
  · have hP := hP.2 q6
    refine v_ldc R dX10_touches_9 ct_X10_180 ?_
    exact Rt _ _ _ dX10_touches_11 hP
set_option maxRecDepth 100000 in
set_option maxHeartbeats 4000000 in
theorem c_State_tiesHere {l : Launch} {D : va_G} {cs : Nat → ClassId} {φ : Nat → Nat} {r : Nat} {h : Hp} {P : Int32 → Prop} (hk_r : kd r = 9) (hP : wp_State_tiesHere r h P) : Ct l D cs φ M_State_tiesHere [.ref (φ r)] h (fun rv h2 => ∃ v, rv = some (.int v) ∧ h2 = h ∧ P v) := by
  refine Ct.of (lc := [some (.ref (φ r))]) RX8 0 0 rfl (by decide +kernel) rfl (Nat.le_of_ble_eq_true rfl) rfl rfl (fun V R RI RV => ?_)
  have R : Ru l D cs φ RX8 cX8_tiesHere 1 0 0 V := R
  have Rt : ∀ pc lc v, decode cX8_tiesHere pc = .ok (.ireturn, 1) → P v → V pc lc [.int v] h := fun pc lc v hd hp => RI pc lc _ .int h rfl rfl hd ⟨v, rfl, rfl, hp⟩
  unfold wp_State_tiesHere at hP
  refine v_aload_0 R dX8_tiesHere_0 ?_
  refine g_State_place R dX8_tiesHere_1 fl_X8_24 hk_r ?_
  refine v_if_ne (tgt := 14) R dX8_tiesHere_4 (by decide) (fun q4 => ?_) (fun q4 => ?_)
  · have hP := hP.1 q4
    refine v_aload_0 R dX8_tiesHere_14 ?_
    refine g_State_farTies R dX8_tiesHere_15 fl_X8_21 hk_r ?_
    exact Rt _ _ _ dX8_tiesHere_18 hP
  · have hP := hP.2 q4
    refine v_aload_0 R dX8_tiesHere_7 ?_
    refine g_State_nearTies R dX8_tiesHere_8 fl_X8_18 hk_r ?_
    refine v_goto (tgt := 18) R dX8_tiesHere_11 (by decide) ?_
    exact Rt _ _ _ dX8_tiesHere_18 hP
set_option maxRecDepth 100000 in
set_option maxHeartbeats 4000000 in
theorem c_State_become {l : Launch} {D : va_G} {cs : Nat → ClassId} {φ : Nat → Nat} {r c0 : Nat} {h : Hp} {P : Hp → Prop} (hk_r : kd r = 9) (hk_c0 : kd c0 = 9) (hP : wp_State_become r c0 h P) : Ct l D cs φ M_State_become [.ref (φ r), .ref (φ c0)] h (fun rv h2 => rv = none ∧ P h2) := by
  refine Ct.of (lc := [some (.ref (φ r)), some (.ref (φ c0))]) RX8 0 0 rfl (by decide +kernel) rfl (Nat.le_of_ble_eq_true rfl) rfl rfl (fun V R RI RV => ?_)
  have R : Ru l D cs φ RX8 cX8_become 2 0 0 V := R
  have Rt : ∀ pc lc h, decode cX8_become pc = .ok (.return_, 1) → P h → V pc lc [] h := fun pc lc h hd hp => RV pc lc h rfl hd ⟨rfl, hp⟩
  unfold wp_State_become at hP
  refine v_aload_0 R dX8_become_0 ?_
  refine v_aload_1 R dX8_become_1 ?_
  refine g_State_kinds R dX8_become_2 fl_X8_9 hk_c0 ?_
  refine p_State_kinds R dX8_become_5 fl_X8_9 hk_r hP (fun h5 hP => ?_)
  refine v_aload_0 R dX8_become_8 ?_
  refine v_aload_1 R dX8_become_9 ?_
  refine g_State_touching R dX8_become_10 fl_X8_15 hk_c0 ?_
  refine p_State_touching R dX8_become_13 fl_X8_15 hk_r hP (fun h13 hP => ?_)
  refine v_aload_0 R dX8_become_16 ?_
  refine v_aload_1 R dX8_become_17 ?_
  refine g_State_nearTies R dX8_become_18 fl_X8_18 hk_c0 ?_
  refine p_State_nearTies R dX8_become_21 fl_X8_18 hk_r hP (fun h21 hP => ?_)
  refine v_aload_0 R dX8_become_24 ?_
  refine v_aload_1 R dX8_become_25 ?_
  refine g_State_farTies R dX8_become_26 fl_X8_21 hk_c0 ?_
  refine p_State_farTies R dX8_become_29 fl_X8_21 hk_r hP (fun h29 hP => ?_)
  refine v_aload_0 R dX8_become_32 ?_
  refine v_aload_1 R dX8_become_33 ?_
  refine g_State_place R dX8_become_34 fl_X8_24 hk_c0 ?_
  refine p_State_place R dX8_become_37 fl_X8_24 hk_r hP (fun h37 hP => ?_)
  refine v_aload_0 R dX8_become_40 ?_
  refine v_aload_1 R dX8_become_41 ?_
  refine g_State_hours R dX8_become_42 fl_X8_27 hk_c0 ?_
  refine p_State_hours R dX8_become_45 fl_X8_27 hk_r hP (fun h45 hP => ?_)
  refine v_aload_0 R dX8_become_48 ?_
  refine v_aload_1 R dX8_become_49 ?_
  refine g_State_crosses R dX8_become_50 fl_X8_30 hk_c0 ?_
  refine p_State_crosses R dX8_become_53 fl_X8_30 hk_r hP (fun h53 hP => ?_)
  refine v_aload_0 R dX8_become_56 ?_
  refine v_aload_1 R dX8_become_57 ?_
  refine g_State_tests R dX8_become_58 fl_X8_33 hk_c0 ?_
  refine p_State_tests R dX8_become_61 fl_X8_33 hk_r hP (fun h61 hP => ?_)
  exact Rt _ _ _ dX8_become_64 hP
set_option maxRecDepth 100000 in
set_option maxHeartbeats 4000000 in
theorem c_Past_remember {l : Launch} {D : va_G} {cs : Nat → ClassId} {φ : Nat → Nat} {c0 : Nat} {h : Hp} {P : Hp → Prop} (hk_c0 : kd c0 = 9) (hP : wp_Past_remember c0 h P) : Ct l D cs φ M_Past_remember [.ref (φ 2), .ref (φ c0)] h (fun rv h2 => rv = none ∧ P h2) := by
  refine Ct.of (lc := [some (.ref (φ 2)), some (.ref (φ c0))]) RX5 1 21 rfl (by decide +kernel) rfl (Nat.le_of_ble_eq_true rfl) rfl rfl (fun V R RI RV => ?_)
  have R : Ru l D cs φ RX5 cX5_remember 2 1 21 V := R
  have Rt : ∀ pc lc h, decode cX5_remember pc = .ok (.return_, 1) → P h → V pc lc [] h := fun pc lc h hd hp => RV pc lc h rfl hd ⟨rfl, hp⟩
  unfold wp_Past_remember at hP
  refine v_aload_0 R dX5_remember_0 ?_
  refine g_Past_next R dX5_remember_1 fl_X5_22 ?_
  refine jn_v (fun K => ∀ (h21 : Hp), K h21 → V 21 [some (.ref (φ 2)), some (.ref (φ c0))] [] h21) ?_ ?_ hP
  · intro h21 hP
    refine v_aload_0 R dX5_remember_21 ?_
    refine g_Past_states R dX5_remember_22 fl_X5_11 ?_
    refine v_aload_0 R dX5_remember_25 ?_
    refine g_Past_next R dX5_remember_26 fl_X5_22 ?_
    obtain ⟨hi29, hP⟩ := hP
    refine v_aald_64 R dX5_remember_29 hi29 ?_
    refine v_aload_1 R dX5_remember_30 ?_
    refine cV1_vw R dX5_remember_31 (c_State_become (kd_64 hi29) hk_c0 hP) (rc_State (kd_64 hi29)) ml_X5_25 mv_State_become (by decide) (Nat.le_of_ble_eq_true rfl) (fun h31 hP => ?_)
    refine v_aload_0 R dX5_remember_34 ?_
    refine v_aload_0 R dX5_remember_35 ?_
    refine g_Past_next R dX5_remember_36 fl_X5_22 ?_
    refine v_iconst R dX5_remember_39 (v := (1 : Int32)) (by decide) ?_
    refine v_iadd R dX5_remember_40 ?_
    refine v_bipush R dX5_remember_41 (v := (16 : Int32)) (by decide) ?_
    refine v_irem2 R dX5_remember_43 (by decide) ?_
    refine p_Past_next R dX5_remember_44 fl_X5_22 hP (fun h44 hP => ?_)
    refine v_aload_0 R dX5_remember_47 ?_
    refine v_aload_0 R dX5_remember_48 ?_
    refine g_Past_count R dX5_remember_49 fl_X5_18 ?_
    refine v_iconst R dX5_remember_52 (v := (1 : Int32)) (by decide) ?_
    refine v_iadd R dX5_remember_53 ?_
    refine v_bipush R dX5_remember_54 (v := (16 : Int32)) (by decide) ?_
    refine v_mmin2 R dX5_remember_56 ml_X5_29 ms_min in_java_lang_Math mc_min (by decide) (Nat.le_of_ble_eq_true rfl) ?_
    refine p_Past_count R dX5_remember_59 fl_X5_18 hP (fun h59 hP => ?_)
    exact Rt _ _ _ dX5_remember_62 hP
  · intro K J21 hP
    refine jn_v (fun K => K → V 16 [some (.ref (φ 2)), some (.ref (φ c0))] [] h) ?_ ?_ hP
    · intro hP
      refine v_aload_0 R dX5_remember_16 ?_
      refine v_iconst R dX5_remember_17 (v := (0 : Int32)) (by decide) ?_
      refine p_Past_next R dX5_remember_18 fl_X5_22 hP (fun h18 hP => ?_)
      exact J21 h18 hP
    · intro K J16 hP
      refine v_if_lt (tgt := 16) R dX5_remember_4 (by decide) (fun q4 => ?_) (fun q4 => ?_)
      · have hP := hP.1 q4
        exact J16 hP
      · have hP := hP.2 q4
        refine v_aload_0 R dX5_remember_7 ?_
        refine g_Past_next R dX5_remember_8 fl_X5_22 ?_
        refine v_bipush R dX5_remember_11 (v := (16 : Int32)) (by decide) ?_
        refine v_icmp_lt (tgt := 21) R dX5_remember_13 (by decide) (fun q13 => ?_) (fun q13 => ?_)
        · have hP := hP.1 q13
          exact J21 h hP
        · have hP := hP.2 q13
          exact J16 hP
set_option maxRecDepth 100000 in
set_option maxHeartbeats 4000000 in
theorem c_State_tieHere {l : Launch} {D : va_G} {cs : Nat → ClassId} {φ : Nat → Nat} {r : Nat} {p0 p1 : Int32} {h : Hp} {P : Hp → Prop} (hk_r : kd r = 9) (hP : wp_State_tieHere r p0 p1 h P) : Ct l D cs φ M_State_tieHere [.ref (φ r), .int p0, .int p1] h (fun rv h2 => rv = none ∧ P h2) := by
  refine Ct.of (lc := [some (.ref (φ r)), some (.int p0), some (.int p1)]) RX8 1 22 rfl (by decide +kernel) rfl (Nat.le_of_ble_eq_true rfl) rfl rfl (fun V R RI RV => ?_)
  have R : Ru l D cs φ RX8 cX8_tieHere 3 1 22 V := R
  have Rt : ∀ pc lc h, decode cX8_tieHere pc = .ok (.return_, 1) → P h → V pc lc [] h := fun pc lc h hd hp => RV pc lc h rfl hd ⟨rfl, hp⟩
  unfold wp_State_tieHere at hP
  refine v_aload_0 R dX8_tieHere_0 ?_
  refine g_State_place R dX8_tieHere_1 fl_X8_24 hk_r ?_
  refine v_if_ne (tgt := 23) R dX8_tieHere_4 (by decide) (fun q4 => ?_) (fun q4 => ?_)
  · have hP := hP.1 q4
    refine v_aload_0 R dX8_tieHere_23 ?_
    refine v_aload_0 R dX8_tieHere_24 ?_
    refine g_State_farTies R dX8_tieHere_25 fl_X8_21 hk_r ?_
    refine v_iload_1 R dX8_tieHere_28 ?_
    refine v_iload_2 R dX8_tieHere_29 ?_
    refine cN3_ir R dX8_tieHere_30 (c_Fe_withPart hP) mn_X8_36 mv_Fe_withPart (by decide) (Nat.le_of_ble_eq_true rfl) (fun v30 hP => ?_)
    refine p_State_farTies R dX8_tieHere_33 fl_X8_21 hk_r hP (fun h33 hP => ?_)
    exact Rt _ _ _ dX8_tieHere_36 hP
  · have hP := hP.2 q4
    refine v_aload_0 R dX8_tieHere_7 ?_
    refine v_aload_0 R dX8_tieHere_8 ?_
    refine g_State_nearTies R dX8_tieHere_9 fl_X8_18 hk_r ?_
    refine v_iload_1 R dX8_tieHere_12 ?_
    refine v_iload_2 R dX8_tieHere_13 ?_
    refine cN3_ir R dX8_tieHere_14 (c_Fe_withPart hP) mn_X8_36 mv_Fe_withPart (by decide) (Nat.le_of_ble_eq_true rfl) (fun v14 hP => ?_)
    refine p_State_nearTies R dX8_tieHere_17 fl_X8_18 hk_r hP (fun h17 hP => ?_)
    refine v_goto (tgt := 36) R dX8_tieHere_20 (by decide) ?_
    exact Rt _ _ _ dX8_tieHere_36 hP
set_option maxRecDepth 100000 in
set_option maxHeartbeats 4000000 in
theorem c_Fe_tie {l : Launch} {D : va_G} {cs : Nat → ClassId} {φ : Nat → Nat} {p0 p1 : Int32} {h : Hp} {P : Int32 → Hp → Prop} (hP : wp_Fe_tie p0 p1 h P) : Ct l D cs φ M_Fe_tie [.ref (φ 0), .int p0, .int p1] h (fun rv h2 => ∃ v, rv = some (.int v) ∧ P v h2) := by
  refine Ct.of (lc := [some (.ref (φ 0)), some (.int p0), some (.int p1), none]) RX10 2 44 rfl (by decide +kernel) rfl (Nat.le_of_ble_eq_true rfl) rfl rfl (fun V R RI RV => ?_)
  have R : Ru l D cs φ RX10 cX10_tie 4 2 44 V := R
  have Rt : ∀ pc lc v h, decode cX10_tie pc = .ok (.ireturn, 1) → P v h → V pc lc [.int v] h := fun pc lc v h hd hp => RI pc lc _ .int h rfl rfl hd ⟨v, rfl, hp⟩
  unfold wp_Fe_tie at hP
  refine v_aload_0 R dX10_tie_0 ?_
  refine v_iload_1 R dX10_tie_1 ?_
  refine cV1_br R dX10_tie_2 (c_Fe_isNumber hP) rc_Fe ml_X10_177 mv_Fe_isNumber (by decide) (Nat.le_of_ble_eq_true rfl) (fun v2 hP => ?_)
  refine v_ifb_ne (tgt := 11) R dX10_tie_5 (by decide) (fun q5 => ?_) (fun q5 => ?_)
  · have hP := hP.1 q5
    refine v_iload_2 R dX10_tie_11 ?_
    refine v_if_lt (tgt := 20) R dX10_tie_12 (by decide) (fun q12 => ?_) (fun q12 => ?_)
    · have hP := hP.1 q12
      refine v_ldc R dX10_tie_20 ct_X10_89 ?_
      exact Rt _ _ _ _ dX10_tie_22 hP
    · have hP := hP.2 q12
      refine v_iload_2 R dX10_tie_15 ?_
      refine v_iconst R dX10_tie_16 (v := (4 : Int32)) (by decide) ?_
      refine v_icmp_lt (tgt := 23) R dX10_tie_17 (by decide) (fun q17 => ?_) (fun q17 => ?_)
      · have hP := hP.1 q17
        refine v_aload_0 R dX10_tie_23 ?_
        refine g_Fe_now R dX10_tie_24 fl_X10_23 ?_
        refine cV0_ir R dX10_tie_27 (c_State_tiesHere rfl hP) (rc_State rfl) ml_X10_228 mv_State_tiesHere (by decide) (Nat.le_of_ble_eq_true rfl) (fun v27 hP => ?_)
        refine v_iload_1 R dX10_tie_30 ?_
        refine cS2_ir R dX10_tie_31 (c_Fe_part hP) ml_X10_182 mv_Fe_part (by decide) (Nat.le_of_ble_eq_true rfl) (fun v31 hP => ?_)
        refine v_istore_3 R dX10_tie_34 (by decide) rfl ?_
        refine v_iload_3 R dX10_tie_35 ?_
        refine v_iload_2 R dX10_tie_36 ?_
        refine v_icmp_ne (tgt := 43) R dX10_tie_37 (by decide) (fun q37 => ?_) (fun q37 => ?_)
        · have hP := hP.1 q37
          refine v_aload_0 R dX10_tie_43 ?_
          refine g_Fe_past R dX10_tie_44 fl_X10_30 ?_
          refine v_aload_0 R dX10_tie_47 ?_
          refine g_Fe_now R dX10_tie_48 fl_X10_23 ?_
          refine cV1_vw R dX10_tie_51 (c_Past_remember rfl hP) rc_Past ml_X10_232 mv_Past_remember (by decide) (Nat.le_of_ble_eq_true rfl) (fun h51 hP => ?_)
          refine v_aload_0 R dX10_tie_54 ?_
          refine g_Fe_now R dX10_tie_55 fl_X10_23 ?_
          refine v_iload_1 R dX10_tie_58 ?_
          refine v_iload_2 R dX10_tie_59 ?_
          refine cV2_vw R dX10_tie_60 (c_State_tieHere rfl hP) (rc_State rfl) ml_X10_236 mv_State_tieHere (by decide) (Nat.le_of_ble_eq_true rfl) (fun h60 hP => ?_)
          refine v_iload_3 R dX10_tie_63 ?_
          exact Rt _ _ _ _ dX10_tie_64 hP
        · have hP := hP.2 q37
          refine v_ldc R dX10_tie_40 ct_X10_231 ?_
          exact Rt _ _ _ _ dX10_tie_42 hP
      · have hP := hP.2 q17
        refine v_ldc R dX10_tie_20 ct_X10_89 ?_
        exact Rt _ _ _ _ dX10_tie_22 hP
  · have hP := hP.2 q5
    refine v_ldc R dX10_tie_8 ct_X10_180 ?_
    exact Rt _ _ _ _ dX10_tie_10 hP
set_option maxRecDepth 100000 in
set_option maxHeartbeats 4000000 in
theorem c_Fe_whyNoTime {l : Launch} {D : va_G} {cs : Nat → ClassId} {φ : Nat → Nat} {h : Hp} {P : Int32 → Prop} (hP : wp_Fe_whyNoTime h P) : Ct l D cs φ M_Fe_whyNoTime [.ref (φ 0)] h (fun rv h2 => ∃ v, rv = some (.int v) ∧ h2 = h ∧ P v) := by
  refine Ct.of (lc := [some (.ref (φ 0))]) RX10 0 0 rfl (by decide +kernel) rfl (Nat.le_of_ble_eq_true rfl) rfl rfl (fun V R RI RV => ?_)
  have R : Ru l D cs φ RX10 cX10_whyNoTime 1 0 0 V := R
  have Rt : ∀ pc lc v, decode cX10_whyNoTime pc = .ok (.ireturn, 1) → P v → V pc lc [.int v] h := fun pc lc v hd hp => RI pc lc _ .int h rfl rfl hd ⟨v, rfl, rfl, hp⟩
  unfold wp_Fe_whyNoTime at hP
  refine v_aload_0 R dX10_whyNoTime_0 ?_
  refine g_Fe_wires R dX10_whyNoTime_1 fl_X10_108 ?_
  refine v_if_ne (tgt := 10) R dX10_whyNoTime_4 (by decide) (fun q4 => ?_) (fun q4 => ?_)
  · have hP := hP.1 q4
    refine v_aload_0 R dX10_whyNoTime_10 ?_
    refine g_Fe_now R dX10_whyNoTime_11 fl_X10_23 ?_
    refine g_State_hours R dX10_whyNoTime_14 fl_X10_145 rfl ?_
    refine v_sipush R dX10_whyNoTime_17 (v := (9000 : Int32)) (by decide) ?_
    refine v_icmp_le (tgt := 28) R dX10_whyNoTime_20 (by decide) (fun q20 => ?_) (fun q20 => ?_)
    · have hP := hP.1 q20
      refine v_iconst R dX10_whyNoTime_28 (v := (0 : Int32)) (by decide) ?_
      exact Rt _ _ _ dX10_whyNoTime_29 hP
    · have hP := hP.2 q20
      refine v_ldc R dX10_whyNoTime_23 ct_X10_98 ?_
      refine v_goto (tgt := 29) R dX10_whyNoTime_25 (by decide) ?_
      exact Rt _ _ _ dX10_whyNoTime_29 hP
  · have hP := hP.2 q4
    refine v_ldc R dX10_whyNoTime_7 ct_X10_231 ?_
    exact Rt _ _ _ dX10_whyNoTime_9 hP
set_option maxRecDepth 100000 in
set_option maxHeartbeats 4000000 in
theorem c_State_walk {l : Launch} {D : va_G} {cs : Nat → ClassId} {φ : Nat → Nat} {r : Nat} {h : Hp} {P : Hp → Prop} (hk_r : kd r = 9) (hP : wp_State_walk r h P) : Ct l D cs φ M_State_walk [.ref (φ r)] h (fun rv h2 => rv = none ∧ P h2) := by
  refine Ct.of (lc := [some (.ref (φ r))]) RX8 1 21 rfl (by decide +kernel) rfl (Nat.le_of_ble_eq_true rfl) rfl rfl (fun V R RI RV => ?_)
  have R : Ru l D cs φ RX8 cX8_walk 1 1 21 V := R
  have Rt : ∀ pc lc h, decode cX8_walk pc = .ok (.return_, 1) → P h → V pc lc [] h := fun pc lc h hd hp => RV pc lc h rfl hd ⟨rfl, hp⟩
  unfold wp_State_walk at hP
  refine v_aload_0 R dX8_walk_0 ?_
  refine v_iconst R dX8_walk_1 (v := (1 : Int32)) (by decide) ?_
  refine v_aload_0 R dX8_walk_2 ?_
  refine g_State_place R dX8_walk_3 fl_X8_24 hk_r ?_
  refine v_isub R dX8_walk_6 ?_
  refine p_State_place R dX8_walk_7 fl_X8_24 hk_r hP (fun h7 hP => ?_)
  refine v_aload_0 R dX8_walk_10 ?_
  refine v_aload_0 R dX8_walk_11 ?_
  refine g_State_crosses R dX8_walk_12 fl_X8_30 hk_r ?_
  refine v_iconst R dX8_walk_15 (v := (1 : Int32)) (by decide) ?_
  refine v_iadd R dX8_walk_16 ?_
  refine v_sipush R dX8_walk_17 (v := (9999 : Int32)) (by decide) ?_
  refine v_mmin2 R dX8_walk_20 ml_X8_40 ms_min in_java_lang_Math mc_min (by decide) (Nat.le_of_ble_eq_true rfl) ?_
  refine p_State_crosses R dX8_walk_23 fl_X8_30 hk_r hP (fun h23 hP => ?_)
  exact Rt _ _ _ dX8_walk_26 hP
set_option maxRecDepth 100000 in
set_option maxHeartbeats 4000000 in
theorem c_Fe_cross {l : Launch} {D : va_G} {cs : Nat → ClassId} {φ : Nat → Nat} {h : Hp} {P : Int32 → Hp → Prop} (hP : wp_Fe_cross h P) : Ct l D cs φ M_Fe_cross [.ref (φ 0)] h (fun rv h2 => ∃ v, rv = some (.int v) ∧ P v h2) := by
  refine Ct.of (lc := [some (.ref (φ 0)), none]) RX10 2 42 rfl (by decide +kernel) rfl (Nat.le_of_ble_eq_true rfl) rfl rfl (fun V R RI RV => ?_)
  have R : Ru l D cs φ RX10 cX10_cross 2 2 42 V := R
  have Rt : ∀ pc lc v h, decode cX10_cross pc = .ok (.ireturn, 1) → P v h → V pc lc [.int v] h := fun pc lc v h hd hp => RI pc lc _ .int h rfl rfl hd ⟨v, rfl, hp⟩
  unfold wp_Fe_cross at hP
  refine v_aload_0 R dX10_cross_0 ?_
  refine cV0_ir R dX10_cross_1 (c_Fe_whyNoTime hP) rc_Fe ml_X10_239 mv_Fe_whyNoTime (by decide) (Nat.le_of_ble_eq_true rfl) (fun v1 hP => ?_)
  refine v_istore_1 R dX10_cross_4 (by decide) rfl ?_
  refine v_iload_1 R dX10_cross_5 ?_
  refine v_if_eq (tgt := 11) R dX10_cross_6 (by decide) (fun q6 => ?_) (fun q6 => ?_)
  · have hP := hP.1 q6
    refine v_aload_0 R dX10_cross_11 ?_
    refine g_Fe_past R dX10_cross_12 fl_X10_30 ?_
    refine v_aload_0 R dX10_cross_15 ?_
    refine g_Fe_now R dX10_cross_16 fl_X10_23 ?_
    refine cV1_vw R dX10_cross_19 (c_Past_remember rfl hP) rc_Past ml_X10_232 mv_Past_remember (by decide) (Nat.le_of_ble_eq_true rfl) (fun h19 hP => ?_)
    refine v_aload_0 R dX10_cross_22 ?_
    refine g_Fe_now R dX10_cross_23 fl_X10_23 ?_
    refine cV0_vw R dX10_cross_26 (c_State_walk rfl hP) (rc_State rfl) ml_X10_242 mv_State_walk (by decide) (Nat.le_of_ble_eq_true rfl) (fun h26 hP => ?_)
    refine v_aload_0 R dX10_cross_29 ?_
    refine g_Fe_now R dX10_cross_30 fl_X10_23 ?_
    refine v_dup R dX10_cross_33 rfl ?_
    refine g_State_hours R dX10_cross_34 fl_X10_145 rfl ?_
    refine v_iconst R dX10_cross_37 (v := (1 : Int32)) (by decide) ?_
    refine v_iadd R dX10_cross_38 ?_
    refine p_State_hours R dX10_cross_39 fl_X10_145 rfl hP (fun h39 hP => ?_)
    refine v_aload_0 R dX10_cross_42 ?_
    refine g_Fe_now R dX10_cross_43 fl_X10_23 ?_
    refine g_State_hours R dX10_cross_46 fl_X10_145 rfl ?_
    exact Rt _ _ _ _ dX10_cross_49 hP
  · have hP := hP.2 q6
    refine v_iload_1 R dX10_cross_9 ?_
    exact Rt _ _ _ _ dX10_cross_10 hP
set_option maxRecDepth 100000 in
set_option maxHeartbeats 4000000 in
theorem c_State_countTest {l : Launch} {D : va_G} {cs : Nat → ClassId} {φ : Nat → Nat} {r : Nat} {h : Hp} {P : Hp → Prop} (hk_r : kd r = 9) (hP : wp_State_countTest r h P) : Ct l D cs φ M_State_countTest [.ref (φ r)] h (fun rv h2 => rv = none ∧ P h2) := by
  refine Ct.of (lc := [some (.ref (φ r))]) RX8 1 21 rfl (by decide +kernel) rfl (Nat.le_of_ble_eq_true rfl) rfl rfl (fun V R RI RV => ?_)
  have R : Ru l D cs φ RX8 cX8_countTest 1 1 21 V := R
  have Rt : ∀ pc lc h, decode cX8_countTest pc = .ok (.return_, 1) → P h → V pc lc [] h := fun pc lc h hd hp => RV pc lc h rfl hd ⟨rfl, hp⟩
  unfold wp_State_countTest at hP
  refine v_aload_0 R dX8_countTest_0 ?_
  refine v_aload_0 R dX8_countTest_1 ?_
  refine g_State_tests R dX8_countTest_2 fl_X8_33 hk_r ?_
  refine v_iconst R dX8_countTest_5 (v := (1 : Int32)) (by decide) ?_
  refine v_iadd R dX8_countTest_6 ?_
  refine v_sipush R dX8_countTest_7 (v := (9999 : Int32)) (by decide) ?_
  refine v_mmin2 R dX8_countTest_10 ml_X8_40 ms_min in_java_lang_Math mc_min (by decide) (Nat.le_of_ble_eq_true rfl) ?_
  refine p_State_tests R dX8_countTest_13 fl_X8_33 hk_r hP (fun h13 hP => ?_)
  exact Rt _ _ _ dX8_countTest_16 hP
set_option maxRecDepth 100000 in
set_option maxHeartbeats 4000000 in
theorem c_Fe_test {l : Launch} {D : va_G} {cs : Nat → ClassId} {φ : Nat → Nat} {p0 p1 : Int32} {h : Hp} {P : Int32 → Hp → Prop} (hP : wp_Fe_test p0 p1 h P) : Ct l D cs φ M_Fe_test [.ref (φ 0), .int p0, .int p1] h (fun rv h2 => ∃ v, rv = some (.int v) ∧ P v h2) := by
  refine Ct.of (lc := [some (.ref (φ 0)), some (.int p0), some (.int p1)]) RX10 5 114 rfl (by decide +kernel) rfl (Nat.le_of_ble_eq_true rfl) rfl rfl (fun V R RI RV => ?_)
  have R : Ru l D cs φ RX10 cX10_test 3 5 114 V := R
  have Rt : ∀ pc lc v h, decode cX10_test pc = .ok (.ireturn, 1) → P v h → V pc lc [.int v] h := fun pc lc v h hd hp => RI pc lc _ .int h rfl rfl hd ⟨v, rfl, hp⟩
  unfold wp_Fe_test at hP
  refine v_aload_0 R dX10_test_0 ?_
  refine v_iload_1 R dX10_test_1 ?_
  refine v_iload_2 R dX10_test_2 ?_
  refine cV2_br R dX10_test_3 (c_Fe_canHold hP) rc_Fe ml_X10_214 mv_Fe_canHold (by decide) (Nat.le_of_ble_eq_true rfl) (fun v3 hP => ?_)
  refine v_ifb_ne (tgt := 12) R dX10_test_6 (by decide) (fun q6 => ?_) (fun q6 => ?_)
  · have hP := hP.1 q6
    refine v_aload_0 R dX10_test_12 ?_
    refine g_Fe_past R dX10_test_13 fl_X10_30 ?_
    refine v_aload_0 R dX10_test_16 ?_
    refine g_Fe_now R dX10_test_17 fl_X10_23 ?_
    refine cV1_vw R dX10_test_20 (c_Past_remember rfl hP) rc_Past ml_X10_232 mv_Past_remember (by decide) (Nat.le_of_ble_eq_true rfl) (fun h20 hP => ?_)
    refine v_aload_0 R dX10_test_23 ?_
    refine g_Fe_now R dX10_test_24 fl_X10_23 ?_
    refine cV0_vw R dX10_test_27 (c_State_countTest rfl hP) (rc_State rfl) ml_X10_245 mv_State_countTest (by decide) (Nat.le_of_ble_eq_true rfl) (fun h27 hP => ?_)
    refine v_aload_0 R dX10_test_30 ?_
    refine v_aload_0 R dX10_test_31 ?_
    refine g_Fe_now R dX10_test_32 fl_X10_23 ?_
    refine g_State_kinds R dX10_test_35 fl_X10_181 rfl ?_
    refine v_iload_1 R dX10_test_38 ?_
    refine v_iload_2 R dX10_test_39 ?_
    refine cV3_bw R dX10_test_40 (c_Fe_ringsBy hP) rc_Fe ml_X10_218 mv_Fe_ringsBy (by decide) (Nat.le_of_ble_eq_true rfl) (fun v40 h40 hP => ?_)
    refine v_ifb_eq (tgt := 50) R dX10_test_43 (by decide) (fun q43 => ?_) (fun q43 => ?_)
    · have hP := hP.1 q43
      refine v_iconst R dX10_test_50 (v := (0 : Int32)) (by decide) ?_
      exact Rt _ _ _ _ dX10_test_51 hP
    · have hP := hP.2 q43
      refine v_iconst R dX10_test_46 (v := (1 : Int32)) (by decide) ?_
      refine v_goto (tgt := 51) R dX10_test_47 (by decide) ?_
      exact Rt _ _ _ _ dX10_test_51 hP
  · have hP := hP.2 q6
    refine v_ldc R dX10_test_9 ct_X10_180 ?_
    exact Rt _ _ _ _ dX10_test_11 hP
set_option maxRecDepth 100000 in
set_option maxHeartbeats 4000000 in
theorem c_Fe_rest {l : Launch} {D : va_G} {cs : Nat → ClassId} {φ : Nat → Nat} {p0 : Int32} {h : Hp} {P : Int32 → Hp → Prop} (hP : wp_Fe_rest p0 h P) : Ct l D cs φ M_Fe_rest [.ref (φ 0), .int p0] h (fun rv h2 => ∃ v, rv = some (.int v) ∧ P v h2) := by
  refine Ct.of (lc := [some (.ref (φ 0)), some (.int p0), none]) RX10 2 42 rfl (by decide +kernel) rfl (Nat.le_of_ble_eq_true rfl) rfl rfl (fun V R RI RV => ?_)
  have R : Ru l D cs φ RX10 cX10_rest 3 2 42 V := R
  have Rt : ∀ pc lc v h, decode cX10_rest pc = .ok (.ireturn, 1) → P v h → V pc lc [.int v] h := fun pc lc v h hd hp => RI pc lc _ .int h rfl rfl hd ⟨v, rfl, hp⟩
  unfold wp_Fe_rest at hP
  refine v_iload_1 R dX10_rest_0 ?_
  refine v_iconst R dX10_rest_1 (v := (1 : Int32)) (by decide) ?_
  refine jn_v (fun K => ∀ (z20_0 : Int32), K z20_0 → V 20 [some (.ref (φ 0)), some (.int p0), none] [.int z20_0] h) ?_ ?_ hP
  · intro z20_0 hP
    refine v_istore_2 R dX10_rest_20 (by decide) rfl ?_
    refine v_iload_2 R dX10_rest_21 ?_
    refine v_if_eq (tgt := 27) R dX10_rest_22 (by decide) (fun q22 => ?_) (fun q22 => ?_)
    · have hP := hP.1 q22
      refine v_aload_0 R dX10_rest_27 ?_
      refine g_Fe_past R dX10_rest_28 fl_X10_30 ?_
      refine v_aload_0 R dX10_rest_31 ?_
      refine g_Fe_now R dX10_rest_32 fl_X10_23 ?_
      refine cV1_vw R dX10_rest_35 (c_Past_remember rfl hP) rc_Past ml_X10_232 mv_Past_remember (by decide) (Nat.le_of_ble_eq_true rfl) (fun h35 hP => ?_)
      refine v_aload_0 R dX10_rest_38 ?_
      refine g_Fe_now R dX10_rest_39 fl_X10_23 ?_
      refine v_dup R dX10_rest_42 rfl ?_
      refine g_State_hours R dX10_rest_43 fl_X10_145 rfl ?_
      refine v_iload_1 R dX10_rest_46 ?_
      refine v_iadd R dX10_rest_47 ?_
      refine p_State_hours R dX10_rest_48 fl_X10_145 rfl hP (fun h48 hP => ?_)
      refine v_aload_0 R dX10_rest_51 ?_
      refine g_Fe_now R dX10_rest_52 fl_X10_23 ?_
      refine g_State_hours R dX10_rest_55 fl_X10_145 rfl ?_
      exact Rt _ _ _ _ dX10_rest_58 hP
    · have hP := hP.2 q22
      refine v_iload_2 R dX10_rest_25 ?_
      exact Rt _ _ _ _ dX10_rest_26 hP
  · intro K J20 hP
    refine jn_v (fun K => K → V 11 [some (.ref (φ 0)), some (.int p0), none] [] h) ?_ ?_ hP
    · intro hP
      refine v_ldc R dX10_rest_11 ct_X10_89 ?_
      refine v_goto (tgt := 20) R dX10_rest_13 (by decide) ?_
      exact J20 (-1000000002 : Int32) hP
    · intro K J11 hP
      refine v_icmp_lt (tgt := 11) R dX10_rest_2 (by decide) (fun q2 => ?_) (fun q2 => ?_)
      · have hP := hP.1 q2
        exact J11 hP
      · have hP := hP.2 q2
        refine v_iload_1 R dX10_rest_5 ?_
        refine v_bipush R dX10_rest_6 (v := (60 : Int32)) (by decide) ?_
        refine v_icmp_le (tgt := 16) R dX10_rest_8 (by decide) (fun q8 => ?_) (fun q8 => ?_)
        · have hP := hP.1 q8
          refine v_aload_0 R dX10_rest_16 ?_
          refine cV0_ir R dX10_rest_17 (c_Fe_whyNoTime hP) rc_Fe ml_X10_239 mv_Fe_whyNoTime (by decide) (Nat.le_of_ble_eq_true rfl) (fun v17 hP => ?_)
          exact J20 v17 hP
        · have hP := hP.2 q8
          exact J11 hP
set_option maxRecDepth 100000 in
set_option maxHeartbeats 4000000 in
theorem c_Fe_mend {l : Launch} {D : va_G} {cs : Nat → ClassId} {φ : Nat → Nat} {p0 p1 : Int32} {h : Hp} {P : Int32 → Hp → Prop} (hP : wp_Fe_mend p0 p1 h P) : Ct l D cs φ M_Fe_mend [.ref (φ 0), .int p0, .int p1] h (fun rv h2 => ∃ v, rv = some (.int v) ∧ P v h2) := by
  refine Ct.of (lc := [some (.ref (φ 0)), some (.int p0), some (.int p1), none]) RX10 2 42 rfl (by decide +kernel) rfl (Nat.le_of_ble_eq_true rfl) rfl rfl (fun V R RI RV => ?_)
  have R : Ru l D cs φ RX10 cX10_mend 4 2 42 V := R
  have Rt : ∀ pc lc v h, decode cX10_mend pc = .ok (.ireturn, 1) → P v h → V pc lc [.int v] h := fun pc lc v h hd hp => RI pc lc _ .int h rfl rfl hd ⟨v, rfl, hp⟩
  unfold wp_Fe_mend at hP
  refine v_aload_0 R dX10_mend_0 ?_
  refine v_iload_1 R dX10_mend_1 ?_
  refine cV1_br R dX10_mend_2 (c_Fe_isNumber hP) rc_Fe ml_X10_177 mv_Fe_isNumber (by decide) (Nat.le_of_ble_eq_true rfl) (fun v2 hP => ?_)
  refine v_ifb_ne (tgt := 11) R dX10_mend_5 (by decide) (fun q5 => ?_) (fun q5 => ?_)
  · have hP := hP.1 q5
    refine v_iload_2 R dX10_mend_11 ?_
    refine v_if_lt (tgt := 20) R dX10_mend_12 (by decide) (fun q12 => ?_) (fun q12 => ?_)
    · have hP := hP.1 q12
      refine v_ldc R dX10_mend_20 ct_X10_89 ?_
      exact Rt _ _ _ _ dX10_mend_22 hP
    · have hP := hP.2 q12
      refine v_iload_2 R dX10_mend_15 ?_
      refine v_iconst R dX10_mend_16 (v := (4 : Int32)) (by decide) ?_
      refine v_icmp_lt (tgt := 23) R dX10_mend_17 (by decide) (fun q17 => ?_) (fun q17 => ?_)
      · have hP := hP.1 q17
        refine v_aload_0 R dX10_mend_23 ?_
        refine g_Fe_now R dX10_mend_24 fl_X10_23 ?_
        refine g_State_kinds R dX10_mend_27 fl_X10_181 rfl ?_
        refine v_iload_1 R dX10_mend_30 ?_
        refine cS2_ir R dX10_mend_31 (c_Fe_part hP) ml_X10_182 mv_Fe_part (by decide) (Nat.le_of_ble_eq_true rfl) (fun v31 hP => ?_)
        refine v_istore_3 R dX10_mend_34 (by decide) rfl ?_
        refine v_iload_3 R dX10_mend_35 ?_
        refine v_iload_2 R dX10_mend_36 ?_
        refine v_icmp_ne (tgt := 43) R dX10_mend_37 (by decide) (fun q37 => ?_) (fun q37 => ?_)
        · have hP := hP.1 q37
          refine v_aload_0 R dX10_mend_43 ?_
          refine g_Fe_past R dX10_mend_44 fl_X10_30 ?_
          refine v_aload_0 R dX10_mend_47 ?_
          refine g_Fe_now R dX10_mend_48 fl_X10_23 ?_
          refine cV1_vw R dX10_mend_51 (c_Past_remember rfl hP) rc_Past ml_X10_232 mv_Past_remember (by decide) (Nat.le_of_ble_eq_true rfl) (fun h51 hP => ?_)
          refine v_aload_0 R dX10_mend_54 ?_
          refine g_Fe_now R dX10_mend_55 fl_X10_23 ?_
          refine v_aload_0 R dX10_mend_58 ?_
          refine g_Fe_now R dX10_mend_59 fl_X10_23 ?_
          refine g_State_kinds R dX10_mend_62 fl_X10_181 rfl ?_
          refine v_iload_1 R dX10_mend_65 ?_
          refine v_iload_2 R dX10_mend_66 ?_
          refine cS3_ir R dX10_mend_67 (c_Fe_withPart hP) ml_X10_248 mv_Fe_withPart (by decide) (Nat.le_of_ble_eq_true rfl) (fun v67 hP => ?_)
          refine p_State_kinds R dX10_mend_70 fl_X10_181 rfl hP (fun h70 hP => ?_)
          refine v_iload_3 R dX10_mend_73 ?_
          exact Rt _ _ _ _ dX10_mend_74 hP
        · have hP := hP.2 q37
          refine v_ldc R dX10_mend_40 ct_X10_231 ?_
          exact Rt _ _ _ _ dX10_mend_42 hP
      · have hP := hP.2 q17
        refine v_ldc R dX10_mend_20 ct_X10_89 ?_
        exact Rt _ _ _ _ dX10_mend_22 hP
  · have hP := hP.2 q5
    refine v_ldc R dX10_mend_8 ct_X10_180 ?_
    exact Rt _ _ _ _ dX10_mend_10 hP
set_option maxRecDepth 100000 in
set_option maxHeartbeats 4000000 in
theorem c_Fe_touch {l : Launch} {D : va_G} {cs : Nat → ClassId} {φ : Nat → Nat} {p0 p1 p2 : Int32} {h : Hp} {P : Int32 → Hp → Prop} (hP : wp_Fe_touch p0 p1 p2 h P) : Ct l D cs φ M_Fe_touch [.ref (φ 0), .int p0, .int p1, .int p2] h (fun rv h2 => ∃ v, rv = some (.int v) ∧ P v h2) := by
  refine Ct.of (lc := [some (.ref (φ 0)), some (.int p0), some (.int p1), some (.int p2), none, none]) RX10 2 43 rfl (by decide +kernel) rfl (Nat.le_of_ble_eq_true rfl) rfl rfl (fun V R RI RV => ?_)
  have R : Ru l D cs φ RX10 cX10_touch 6 2 43 V := R
  have Rt : ∀ pc lc v h, decode cX10_touch pc = .ok (.ireturn, 1) → P v h → V pc lc [.int v] h := fun pc lc v h hd hp => RI pc lc _ .int h rfl rfl hd ⟨v, rfl, hp⟩
  unfold wp_Fe_touch at hP
  refine v_aload_0 R dX10_touch_0 ?_
  refine v_iload_1 R dX10_touch_1 ?_
  refine v_iload_2 R dX10_touch_2 ?_
  refine cV2_br R dX10_touch_3 (c_Fe_areTwo hP) rc_Fe ml_X10_222 mv_Fe_areTwo (by decide) (Nat.le_of_ble_eq_true rfl) (fun v3 hP => ?_)
  refine v_ifb_ne (tgt := 12) R dX10_touch_6 (by decide) (fun q6 => ?_) (fun q6 => ?_)
  · have hP := hP.1 q6
    refine v_iload_1 R dX10_touch_12 ?_
    refine v_iload_2 R dX10_touch_13 ?_
    refine cS2_ir R dX10_touch_14 (c_Fe_pairBit hP) ml_X10_225 mv_Fe_pairBit (by decide) (Nat.le_of_ble_eq_true rfl) (fun v14 hP => ?_)
    refine v_istore_4 R dX10_touch_17 (by decide) rfl ?_
    refine v_aload_0 R dX10_touch_19 ?_
    refine g_Fe_now R dX10_touch_20 fl_X10_23 ?_
    refine g_State_touching R dX10_touch_23 fl_X10_154 rfl ?_
    refine v_iload_4 R dX10_touch_26 ?_
    refine v_iand R dX10_touch_28 ?_
    refine jn_v (fun K => ∀ (z37_0 : Int32), K z37_0 → V 37 [some (.ref (φ 0)), none, none, some (.int p2), some (.int v14), none] [.int z37_0] h) ?_ ?_ hP
    · intro z37_0 hP
      refine v_istore_5 R dX10_touch_37 (by decide) rfl ?_
      refine v_iload_5 R dX10_touch_39 ?_
      refine v_iload_3 R dX10_touch_41 ?_
      refine v_icmp_ne (tgt := 48) R dX10_touch_42 (by decide) (fun q42 => ?_) (fun q42 => ?_)
      · have hP := hP.1 q42
        refine v_aload_0 R dX10_touch_48 ?_
        refine g_Fe_past R dX10_touch_49 fl_X10_30 ?_
        refine v_aload_0 R dX10_touch_52 ?_
        refine g_Fe_now R dX10_touch_53 fl_X10_23 ?_
        refine cV1_vw R dX10_touch_56 (c_Past_remember rfl hP) rc_Past ml_X10_232 mv_Past_remember (by decide) (Nat.le_of_ble_eq_true rfl) (fun h56 hP => ?_)
        refine v_aload_0 R dX10_touch_59 ?_
        refine g_Fe_now R dX10_touch_60 fl_X10_23 ?_
        refine v_dup R dX10_touch_63 rfl ?_
        refine g_State_touching R dX10_touch_64 fl_X10_154 rfl ?_
        refine v_iload_4 R dX10_touch_67 ?_
        refine v_ixor R dX10_touch_69 ?_
        refine p_State_touching R dX10_touch_70 fl_X10_154 rfl hP (fun h70 hP => ?_)
        refine v_aload_0 R dX10_touch_73 ?_
        refine g_Fe_now R dX10_touch_74 fl_X10_23 ?_
        refine g_State_touching R dX10_touch_77 fl_X10_154 rfl ?_
        refine cS1_ir R dX10_touch_80 (c_Int_bitCount hP) ml_X10_155 mv_Int_bitCount (by decide) (Nat.le_of_ble_eq_true rfl) (fun v80 hP => ?_)
        exact Rt _ _ _ _ dX10_touch_83 hP
      · have hP := hP.2 q42
        refine v_ldc R dX10_touch_45 ct_X10_231 ?_
        exact Rt _ _ _ _ dX10_touch_47 hP
    · intro K J37 hP
      refine v_if_eq (tgt := 36) R dX10_touch_29 (by decide) (fun q29 => ?_) (fun q29 => ?_)
      · have hP := hP.1 q29
        refine v_iconst R dX10_touch_36 (v := (0 : Int32)) (by decide) ?_
        refine v_wk R [some (.ref (φ 0)), none, none, some (.int p2), some (.int v14), none] ⟨rfl, ⟨rfl, ⟨rfl, trivial⟩⟩⟩ ?_
        exact J37 (0 : Int32) hP
      · have hP := hP.2 q29
        refine v_iconst R dX10_touch_32 (v := (1 : Int32)) (by decide) ?_
        refine v_goto (tgt := 37) R dX10_touch_33 (by decide) ?_
        refine v_wk R [some (.ref (φ 0)), none, none, some (.int p2), some (.int v14), none] ⟨rfl, ⟨rfl, ⟨rfl, trivial⟩⟩⟩ ?_
        exact J37 (1 : Int32) hP
  · have hP := hP.2 q6
    refine v_ldc R dX10_touch_9 ct_X10_180 ?_
    exact Rt _ _ _ _ dX10_touch_11 hP
set_option maxRecDepth 100000 in
set_option maxHeartbeats 4000000 in
theorem c_Draws_draw {l : Launch} {D : va_G} {cs : Nat → ClassId} {φ : Nat → Nat} {p0 : Int32} {h : Hp} {P : Int32 → Hp → Prop} (hP : wp_Draws_draw p0 h P) : Ct l D cs φ M_Draws_draw [.ref (φ 3), .int p0] h (fun rv h2 => ∃ v, rv = some (.int v) ∧ P v h2) := by
  refine Ct.of (lc := [some (.ref (φ 3)), some (.int p0)]) RX0 0 0 rfl (by decide +kernel) rfl (Nat.le_of_ble_eq_true rfl) rfl rfl (fun V R RI RV => ?_)
  have R : Ru l D cs φ RX0 cX0_draw 2 0 0 V := R
  have Rt : ∀ pc lc v h, decode cX0_draw pc = .ok (.ireturn, 1) → P v h → V pc lc [.int v] h := fun pc lc v h hd hp => RI pc lc _ .int h rfl rfl hd ⟨v, rfl, hp⟩
  unfold wp_Draws_draw at hP
  refine v_aload_0 R dX0_draw_0 ?_
  refine v_aload_0 R dX0_draw_1 ?_
  refine g_Draws_seed R dX0_draw_2 fl_X0_7 ?_
  refine v_i2l R dX0_draw_5 ?_
  refine v_ldc2 R dX0_draw_6 ct_X0_13 ?_
  refine v_lmul R dX0_draw_9 ?_
  refine v_ldc2 R dX0_draw_10 ct_X0_15 ?_
  refine v_ladd R dX0_draw_13 ?_
  refine v_ldc2 R dX0_draw_14 ct_X0_17 ?_
  refine v_land R dX0_draw_17 ?_
  refine v_l2i R dX0_draw_18 ?_
  refine p_Draws_seed R dX0_draw_19 fl_X0_7 hP (fun h19 hP => ?_)
  refine v_iload_1 R dX0_draw_22 ?_
  refine v_if_gt (tgt := 30) R dX0_draw_23 (by decide) (fun q23 => ?_) (fun q23 => ?_)
  · have hP := hP.1 q23
    refine v_aload_0 R dX0_draw_30 ?_
    refine g_Draws_seed R dX0_draw_31 fl_X0_7 ?_
    refine v_ldc R dX0_draw_34 ct_X0_19 ?_
    refine v_idiv R dX0_draw_36 (by decide) ?_
    refine v_iload_1 R dX0_draw_37 ?_
    obtain ⟨hd38, hP⟩ := hP
    refine v_irem2 R dX0_draw_38 hd38 ?_
    exact Rt _ _ _ _ dX0_draw_39 hP
  · have hP := hP.2 q23
    refine v_iconst R dX0_draw_26 (v := (0 : Int32)) (by decide) ?_
    refine v_goto (tgt := 39) R dX0_draw_27 (by decide) ?_
    exact Rt _ _ _ _ dX0_draw_39 hP
set_option maxRecDepth 100000 in
set_option maxHeartbeats 4000000 in
theorem c_Fe_driftOneHour {l : Launch} {D : va_G} {cs : Nat → ClassId} {φ : Nat → Nat} {h : Hp} {P : Hp → Prop} (hP : wp_Fe_driftOneHour h P) : Ct l D cs φ M_Fe_driftOneHour [.ref (φ 0)] h (fun rv h2 => rv = none ∧ P h2) := by
  refine Ct.of (lc := [some (.ref (φ 0)), none, none]) RX10 2 44 rfl (by decide +kernel) rfl (Nat.le_of_ble_eq_true rfl) rfl rfl (fun V R RI RV => ?_)
  have R : Ru l D cs φ RX10 cX10_driftOneHour 3 2 44 V := R
  have Rt : ∀ pc lc h, decode cX10_driftOneHour pc = .ok (.return_, 1) → P h → V pc lc [] h := fun pc lc h hd hp => RV pc lc h rfl hd ⟨rfl, hp⟩
  unfold wp_Fe_driftOneHour at hP
  refine v_aload_0 R dX10_driftOneHour_0 ?_
  refine g_Fe_draws R dX10_driftOneHour_1 fl_X10_37 ?_
  refine v_iconst R dX10_driftOneHour_4 (v := (4 : Int32)) (by decide) ?_
  refine cV1_iw R dX10_driftOneHour_5 (c_Draws_draw hP) rc_Draws ml_X10_307 mv_Draws_draw (by decide) (Nat.le_of_ble_eq_true rfl) (fun v5 h5 hP => ?_)
  refine v_istore_1 R dX10_driftOneHour_8 (by decide) rfl ?_
  refine v_aload_0 R dX10_driftOneHour_9 ?_
  refine g_Fe_draws R dX10_driftOneHour_10 fl_X10_37 ?_
  refine v_aload_0 R dX10_driftOneHour_13 ?_
  refine g_Fe_wires R dX10_driftOneHour_14 fl_X10_108 ?_
  refine cV1_iw R dX10_driftOneHour_17 (c_Draws_draw hP) rc_Draws ml_X10_307 mv_Draws_draw (by decide) (Nat.le_of_ble_eq_true rfl) (fun v17 h17 hP => ?_)
  refine v_istore_2 R dX10_driftOneHour_20 (by decide) rfl ?_
  refine v_iload_1 R dX10_driftOneHour_21 ?_
  refine jn_v (fun K => ∀ (h115 : Hp), K h115 → V 115 [some (.ref (φ 0)), none, none] [] h115) ?_ ?_ hP
  · intro h115 hP
    refine v_aload_0 R dX10_driftOneHour_115 ?_
    refine g_Fe_now R dX10_driftOneHour_116 fl_X10_23 ?_
    refine v_dup R dX10_driftOneHour_119 rfl ?_
    refine g_State_hours R dX10_driftOneHour_120 fl_X10_145 rfl ?_
    refine v_iconst R dX10_driftOneHour_123 (v := (1 : Int32)) (by decide) ?_
    refine v_iadd R dX10_driftOneHour_124 ?_
    refine p_State_hours R dX10_driftOneHour_125 fl_X10_145 rfl hP (fun h125 hP => ?_)
    exact Rt _ _ _ dX10_driftOneHour_128 hP
  · intro K J115 hP
    refine v_if_ne (tgt := 44) R dX10_driftOneHour_22 (by decide) (fun q22 => ?_) (fun q22 => ?_)
    · have hP := hP.1 q22
      refine v_iload_1 R dX10_driftOneHour_44 ?_
      refine v_iconst R dX10_driftOneHour_45 (v := (1 : Int32)) (by decide) ?_
      refine v_icmp_ne (tgt := 74) R dX10_driftOneHour_46 (by decide) (fun q46 => ?_) (fun q46 => ?_)
      · have hP := hP.1 q46
        refine v_iload_1 R dX10_driftOneHour_74 ?_
        refine v_iconst R dX10_driftOneHour_75 (v := (2 : Int32)) (by decide) ?_
        refine v_icmp_ne (tgt := 89) R dX10_driftOneHour_76 (by decide) (fun q76 => ?_) (fun q76 => ?_)
        · have hP := hP.1 q76
          refine v_aload_0 R dX10_driftOneHour_89 ?_
          refine g_Fe_now R dX10_driftOneHour_90 fl_X10_23 ?_
          refine v_aload_0 R dX10_driftOneHour_93 ?_
          refine g_Fe_now R dX10_driftOneHour_94 fl_X10_23 ?_
          refine g_State_kinds R dX10_driftOneHour_97 fl_X10_181 rfl ?_
          refine v_iload_2 R dX10_driftOneHour_100 ?_
          refine v_aload_0 R dX10_driftOneHour_101 ?_
          refine g_Fe_draws R dX10_driftOneHour_102 fl_X10_37 ?_
          refine v_iconst R dX10_driftOneHour_105 (v := (4 : Int32)) (by decide) ?_
          refine cV1_iw R dX10_driftOneHour_106 (c_Draws_draw hP) rc_Draws ml_X10_307 mv_Draws_draw (by decide) (Nat.le_of_ble_eq_true rfl) (fun v106 h106 hP => ?_)
          refine cS3_ir R dX10_driftOneHour_109 (c_Fe_withPart hP) ml_X10_248 mv_Fe_withPart (by decide) (Nat.le_of_ble_eq_true rfl) (fun v109 hP => ?_)
          refine p_State_kinds R dX10_driftOneHour_112 fl_X10_181 rfl hP (fun h112 hP => ?_)
          refine v_wk R [some (.ref (φ 0)), none, none] ⟨rfl, trivial⟩ ?_
          exact J115 h112 hP
        · have hP := hP.2 q76
          refine v_aload_0 R dX10_driftOneHour_79 ?_
          refine g_Fe_now R dX10_driftOneHour_80 fl_X10_23 ?_
          refine cV0_vw R dX10_driftOneHour_83 (c_State_walk rfl hP) (rc_State rfl) ml_X10_242 mv_State_walk (by decide) (Nat.le_of_ble_eq_true rfl) (fun h83 hP => ?_)
          refine v_goto (tgt := 115) R dX10_driftOneHour_86 (by decide) ?_
          refine v_wk R [some (.ref (φ 0)), none, none] ⟨rfl, trivial⟩ ?_
          exact J115 h83 hP
      · have hP := hP.2 q46
        refine v_aload_0 R dX10_driftOneHour_49 ?_
        refine g_Fe_draws R dX10_driftOneHour_50 fl_X10_37 ?_
        refine v_aload_0 R dX10_driftOneHour_53 ?_
        refine g_Fe_wires R dX10_driftOneHour_54 fl_X10_108 ?_
        refine cV1_iw R dX10_driftOneHour_57 (c_Draws_draw hP) rc_Draws ml_X10_307 mv_Draws_draw (by decide) (Nat.le_of_ble_eq_true rfl) (fun v57 h57 hP => ?_)
        refine v_iload_2 R dX10_driftOneHour_60 ?_
        refine v_icmp_eq (tgt := 115) R dX10_driftOneHour_61 (by decide) (fun q61 => ?_) (fun q61 => ?_)
        · have hP := hP.1 q61
          refine v_wk R [some (.ref (φ 0)), none, none] ⟨rfl, trivial⟩ ?_
          exact J115 h57 hP
        · have hP := hP.2 q61
          refine v_aload_0 R dX10_driftOneHour_64 ?_
          refine g_Fe_now R dX10_driftOneHour_65 fl_X10_23 ?_
          refine cV0_vw R dX10_driftOneHour_68 (c_State_countTest rfl hP) (rc_State rfl) ml_X10_245 mv_State_countTest (by decide) (Nat.le_of_ble_eq_true rfl) (fun h68 hP => ?_)
          refine v_goto (tgt := 115) R dX10_driftOneHour_71 (by decide) ?_
          refine v_wk R [some (.ref (φ 0)), none, none] ⟨rfl, trivial⟩ ?_
          exact J115 h68 hP
    · have hP := hP.2 q22
      refine v_aload_0 R dX10_driftOneHour_25 ?_
      refine g_Fe_now R dX10_driftOneHour_26 fl_X10_23 ?_
      refine v_iload_2 R dX10_driftOneHour_29 ?_
      refine v_aload_0 R dX10_driftOneHour_30 ?_
      refine g_Fe_draws R dX10_driftOneHour_31 fl_X10_37 ?_
      refine v_iconst R dX10_driftOneHour_34 (v := (4 : Int32)) (by decide) ?_
      refine cV1_iw R dX10_driftOneHour_35 (c_Draws_draw hP) rc_Draws ml_X10_307 mv_Draws_draw (by decide) (Nat.le_of_ble_eq_true rfl) (fun v35 h35 hP => ?_)
      refine cV2_vw R dX10_driftOneHour_38 (c_State_tieHere rfl hP) (rc_State rfl) ml_X10_236 mv_State_tieHere (by decide) (Nat.le_of_ble_eq_true rfl) (fun h38 hP => ?_)
      refine v_goto (tgt := 115) R dX10_driftOneHour_41 (by decide) ?_
      refine v_wk R [some (.ref (φ 0)), none, none] ⟨rfl, trivial⟩ ?_
      exact J115 h38 hP
set_option maxRecDepth 100000 in
set_option maxHeartbeats 4000000 in
theorem L_Fe_drift_40 {l : Launch} {D : va_G} {cs : Nat → ClassId} {φ : Nat → Nat} {V : Nat → List (Option Value) → List Value → Hp → Prop} {a1 : Int32} {E : Hp → Prop} (R : Ru l D cs φ RX10 cX10_drift 4 3 66 V) (hE : ∀ (h : Hp), E h → V 55 [some (.ref (φ 0)), none, none, none] [] h) : ∀ (n : Nat) (a3 : Int32) (h : Hp), lp_Fe_drift_40 n a1 a3 h E → V 40 [some (.ref (φ 0)), some (.int a1), none, some (.int a3)] [] h := by
  intro n
  induction n with
  | zero => intro a3 h hP; exact hP.elim
  | succ n ih =>
    intro a3 h hP
    unfold lp_Fe_drift_40 at hP
    refine v_iload_3 R dX10_drift_40 ?_
    refine v_iload_1 R dX10_drift_41 ?_
    refine v_icmp_ge (tgt := 55) R dX10_drift_42 (by decide) (fun q42 => ?_) (fun q42 => ?_)
    · have hP := hP.1 q42
      refine v_wk R [some (.ref (φ 0)), none, none, none] ⟨rfl, trivial⟩ ?_
      exact hE h hP
    · have hP := hP.2 q42
      refine v_aload_0 R dX10_drift_45 ?_
      refine cV0_vw R dX10_drift_46 (c_Fe_driftOneHour hP) rc_Fe ml_X10_252 mv_Fe_driftOneHour (by decide) (Nat.le_of_ble_eq_true rfl) (fun h46 hP => ?_)
      refine v_iincL_3 R (1 : Int32) dX10_drift_49 (by decide) rfl (by decide) hP (fun x49 hP => ?_)
      refine v_goto (tgt := 40) R dX10_drift_52 (by decide) ?_
      exact ih x49 h46 hP
set_option maxRecDepth 100000 in
set_option maxHeartbeats 4000000 in
theorem c_Fe_drift {l : Launch} {D : va_G} {cs : Nat → ClassId} {φ : Nat → Nat} {p0 : Int32} {h : Hp} {P : Int32 → Hp → Prop} (hP : wp_Fe_drift p0 h P) : Ct l D cs φ M_Fe_drift [.ref (φ 0), .int p0] h (fun rv h2 => ∃ v, rv = some (.int v) ∧ P v h2) := by
  refine Ct.of (lc := [some (.ref (φ 0)), some (.int p0), none, none]) RX10 3 66 rfl (by decide +kernel) rfl (Nat.le_of_ble_eq_true rfl) rfl rfl (fun V R RI RV => ?_)
  have R : Ru l D cs φ RX10 cX10_drift 4 3 66 V := R
  have Rt : ∀ pc lc v h, decode cX10_drift pc = .ok (.ireturn, 1) → P v h → V pc lc [.int v] h := fun pc lc v h hd hp => RI pc lc _ .int h rfl rfl hd ⟨v, rfl, hp⟩
  unfold wp_Fe_drift at hP
  refine v_iload_1 R dX10_drift_0 ?_
  refine v_iconst R dX10_drift_1 (v := (1 : Int32)) (by decide) ?_
  refine jn_v (fun K => ∀ (z20_0 : Int32), K z20_0 → V 20 [some (.ref (φ 0)), some (.int p0), none, none] [.int z20_0] h) ?_ ?_ hP
  · intro z20_0 hP
    refine v_istore_2 R dX10_drift_20 (by decide) rfl ?_
    refine v_iload_2 R dX10_drift_21 ?_
    refine v_if_eq (tgt := 27) R dX10_drift_22 (by decide) (fun q22 => ?_) (fun q22 => ?_)
    · have hP := hP.1 q22
      refine v_aload_0 R dX10_drift_27 ?_
      refine g_Fe_past R dX10_drift_28 fl_X10_30 ?_
      refine v_aload_0 R dX10_drift_31 ?_
      refine g_Fe_now R dX10_drift_32 fl_X10_23 ?_
      refine cV1_vw R dX10_drift_35 (c_Past_remember rfl hP) rc_Past ml_X10_232 mv_Past_remember (by decide) (Nat.le_of_ble_eq_true rfl) (fun h35 hP => ?_)
      refine v_iconst R dX10_drift_38 (v := (0 : Int32)) (by decide) ?_
      refine v_istore_3 R dX10_drift_39 (by decide) rfl ?_
      refine v_wk R [some (.ref (φ 0)), some (.int p0), none, some (.int (0 : Int32))] ⟨rfl, ⟨rfl, ⟨rfl, trivial⟩⟩⟩ ?_
      obtain ⟨n40, hP⟩ := hP
      refine L_Fe_drift_40 R ?_ n40 _ _ hP
      intro h40x hP
      refine v_aload_0 R dX10_drift_55 ?_
      refine g_Fe_now R dX10_drift_56 fl_X10_23 ?_
      refine g_State_hours R dX10_drift_59 fl_X10_145 rfl ?_
      exact Rt _ _ _ _ dX10_drift_62 hP
    · have hP := hP.2 q22
      refine v_iload_2 R dX10_drift_25 ?_
      exact Rt _ _ _ _ dX10_drift_26 hP
  · intro K J20 hP
    refine jn_v (fun K => K → V 11 [some (.ref (φ 0)), some (.int p0), none, none] [] h) ?_ ?_ hP
    · intro hP
      refine v_ldc R dX10_drift_11 ct_X10_89 ?_
      refine v_goto (tgt := 20) R dX10_drift_13 (by decide) ?_
      exact J20 (-1000000002 : Int32) hP
    · intro K J11 hP
      refine v_icmp_lt (tgt := 11) R dX10_drift_2 (by decide) (fun q2 => ?_) (fun q2 => ?_)
      · have hP := hP.1 q2
        exact J11 hP
      · have hP := hP.2 q2
        refine v_iload_1 R dX10_drift_5 ?_
        refine v_bipush R dX10_drift_6 (v := (60 : Int32)) (by decide) ?_
        refine v_icmp_le (tgt := 16) R dX10_drift_8 (by decide) (fun q8 => ?_) (fun q8 => ?_)
        · have hP := hP.1 q8
          refine v_aload_0 R dX10_drift_16 ?_
          refine cV0_ir R dX10_drift_17 (c_Fe_whyNoTime hP) rc_Fe ml_X10_239 mv_Fe_whyNoTime (by decide) (Nat.le_of_ble_eq_true rfl) (fun v17 hP => ?_)
          exact J20 v17 hP
        · have hP := hP.2 q8
          exact J11 hP
set_option maxRecDepth 100000 in
set_option maxHeartbeats 4000000 in
theorem c_Past_restore {l : Launch} {D : va_G} {cs : Nat → ClassId} {φ : Nat → Nat} {c0 : Nat} {h : Hp} {P : Hp → Prop} (hk_c0 : kd c0 = 9) (hP : wp_Past_restore c0 h P) : Ct l D cs φ M_Past_restore [.ref (φ 2), .ref (φ c0)] h (fun rv h2 => rv = none ∧ P h2) := by
  refine Ct.of (lc := [some (.ref (φ 2)), some (.ref (φ c0))]) RX5 1 21 rfl (by decide +kernel) rfl (Nat.le_of_ble_eq_true rfl) rfl rfl (fun V R RI RV => ?_)
  have R : Ru l D cs φ RX5 cX5_restore 2 1 21 V := R
  have Rt : ∀ pc lc h, decode cX5_restore pc = .ok (.return_, 1) → P h → V pc lc [] h := fun pc lc h hd hp => RV pc lc h rfl hd ⟨rfl, hp⟩
  unfold wp_Past_restore at hP
  refine v_aload_0 R dX5_restore_0 ?_
  refine g_Past_count R dX5_restore_1 fl_X5_18 ?_
  refine v_if_ne (tgt := 8) R dX5_restore_4 (by decide) (fun q4 => ?_) (fun q4 => ?_)
  · have hP := hP.1 q4
    refine v_aload_0 R dX5_restore_8 ?_
    refine v_aload_0 R dX5_restore_9 ?_
    refine g_Past_next R dX5_restore_10 fl_X5_22 ?_
    refine jn_v (fun K => ∀ (z36_1 : Int32), K z36_1 → V 36 [some (.ref (φ 2)), some (.ref (φ c0))] [.int z36_1, .ref (φ 2)] h) ?_ ?_ hP
    · intro z36_1 hP
      refine p_Past_next R dX5_restore_36 fl_X5_22 hP (fun h36 hP => ?_)
      refine v_aload_1 R dX5_restore_39 ?_
      refine v_aload_0 R dX5_restore_40 ?_
      refine g_Past_states R dX5_restore_41 fl_X5_11 ?_
      refine v_aload_0 R dX5_restore_44 ?_
      refine g_Past_next R dX5_restore_45 fl_X5_22 ?_
      obtain ⟨hi48, hP⟩ := hP
      refine v_aald_64 R dX5_restore_48 hi48 ?_
      refine cV1_vw R dX5_restore_49 (c_State_become hk_c0 (kd_64 hi48) hP) (rc_State hk_c0) ml_X5_25 mv_State_become (by decide) (Nat.le_of_ble_eq_true rfl) (fun h49 hP => ?_)
      refine v_aload_0 R dX5_restore_52 ?_
      refine v_dup R dX5_restore_53 rfl ?_
      refine g_Past_count R dX5_restore_54 fl_X5_18 ?_
      refine v_iconst R dX5_restore_57 (v := (1 : Int32)) (by decide) ?_
      refine v_isub R dX5_restore_58 ?_
      refine p_Past_count R dX5_restore_59 fl_X5_18 hP (fun h59 hP => ?_)
      exact Rt _ _ _ dX5_restore_62 hP
    · intro K J36 hP
      refine jn_v (fun K => K → V 34 [some (.ref (φ 2)), some (.ref (φ c0))] [.ref (φ 2)] h) ?_ ?_ hP
      · intro hP
        refine v_bipush R dX5_restore_34 (v := (15 : Int32)) (by decide) ?_
        exact J36 (15 : Int32) hP
      · intro K J34 hP
        refine v_if_le (tgt := 34) R dX5_restore_13 (by decide) (fun q13 => ?_) (fun q13 => ?_)
        · have hP := hP.1 q13
          exact J34 hP
        · have hP := hP.2 q13
          refine v_aload_0 R dX5_restore_16 ?_
          refine g_Past_next R dX5_restore_17 fl_X5_22 ?_
          refine v_bipush R dX5_restore_20 (v := (16 : Int32)) (by decide) ?_
          refine v_icmp_ge (tgt := 34) R dX5_restore_22 (by decide) (fun q22 => ?_) (fun q22 => ?_)
          · have hP := hP.1 q22
            exact J34 hP
          · have hP := hP.2 q22
            refine v_aload_0 R dX5_restore_25 ?_
            refine g_Past_next R dX5_restore_26 fl_X5_22 ?_
            refine v_iconst R dX5_restore_29 (v := (1 : Int32)) (by decide) ?_
            refine v_isub R dX5_restore_30 ?_
            refine v_goto (tgt := 36) R dX5_restore_31 (by decide) ?_
            exact J36 ((h.1 2 2) - (1 : Int32)) hP
  · have hP := hP.2 q4
    exact Rt _ _ _ dX5_restore_7 hP
set_option maxRecDepth 100000 in
set_option maxHeartbeats 4000000 in
theorem c_Fe_undo {l : Launch} {D : va_G} {cs : Nat → ClassId} {φ : Nat → Nat} {h : Hp} {P : Int32 → Hp → Prop} (hP : wp_Fe_undo h P) : Ct l D cs φ M_Fe_undo [.ref (φ 0)] h (fun rv h2 => ∃ v, rv = some (.int v) ∧ P v h2) := by
  refine Ct.of (lc := [some (.ref (φ 0))]) RX10 2 42 rfl (by decide +kernel) rfl (Nat.le_of_ble_eq_true rfl) rfl rfl (fun V R RI RV => ?_)
  have R : Ru l D cs φ RX10 cX10_undo 1 2 42 V := R
  have Rt : ∀ pc lc v h, decode cX10_undo pc = .ok (.ireturn, 1) → P v h → V pc lc [.int v] h := fun pc lc v h hd hp => RI pc lc _ .int h rfl rfl hd ⟨v, rfl, hp⟩
  unfold wp_Fe_undo at hP
  refine v_aload_0 R dX10_undo_0 ?_
  refine g_Fe_past R dX10_undo_1 fl_X10_30 ?_
  refine g_Past_count R dX10_undo_4 fl_X10_174 ?_
  refine v_if_ne (tgt := 13) R dX10_undo_7 (by decide) (fun q7 => ?_) (fun q7 => ?_)
  · have hP := hP.1 q7
    refine v_aload_0 R dX10_undo_13 ?_
    refine g_Fe_past R dX10_undo_14 fl_X10_30 ?_
    refine v_aload_0 R dX10_undo_17 ?_
    refine g_Fe_now R dX10_undo_18 fl_X10_23 ?_
    refine cV1_vw R dX10_undo_21 (c_Past_restore rfl hP) rc_Past ml_X10_255 mv_Past_restore (by decide) (Nat.le_of_ble_eq_true rfl) (fun h21 hP => ?_)
    refine v_aload_0 R dX10_undo_24 ?_
    refine g_Fe_past R dX10_undo_25 fl_X10_30 ?_
    refine g_Past_count R dX10_undo_28 fl_X10_174 ?_
    exact Rt _ _ _ _ dX10_undo_31 hP
  · have hP := hP.2 q7
    refine v_ldc R dX10_undo_10 ct_X10_231 ?_
    exact Rt _ _ _ _ dX10_undo_12 hP
set_option maxRecDepth 100000 in
set_option maxHeartbeats 4000000 in
theorem L_Fe_kindsWithBroken_10 {l : Launch} {D : va_G} {cs : Nat → ClassId} {φ : Nat → Nat} {V : Nat → List (Option Value) → List Value → Hp → Prop} {a1 : Int32} {h : Hp} {E : Int32 → Prop} (R : Ru l D cs φ RX10 cX10_kindsWithBroken 4 1 22 V) (hE : ∀ (a2 : Int32), E a2 → V 39 [none, none, some (.int a2), none] [] h) : ∀ (n : Nat) (a2 : Int32) (a3 : Int32), lp_Fe_kindsWithBroken_10 n a1 a2 a3 h E → V 10 [some (.ref (φ 0)), some (.int a1), some (.int a2), some (.int a3)] [] h := by
  intro n
  induction n with
  | zero => intro a2 a3 hP; exact hP.elim
  | succ n ih =>
    intro a2 a3 hP
    unfold lp_Fe_kindsWithBroken_10 at hP
    refine v_iload_3 R dX10_kindsWithBroken_10 ?_
    refine v_aload_0 R dX10_kindsWithBroken_11 ?_
    refine g_Fe_wires R dX10_kindsWithBroken_12 fl_X10_108 ?_
    refine v_icmp_ge (tgt := 39) R dX10_kindsWithBroken_15 (by decide) (fun q15 => ?_) (fun q15 => ?_)
    · have hP := hP.1 q15
      refine v_wk R [none, none, some (.int a2), none] ⟨rfl, trivial⟩ ?_
      exact hE a2 hP
    · have hP := hP.2 q15
      refine v_iload_1 R dX10_kindsWithBroken_18 ?_
      refine v_iload_3 R dX10_kindsWithBroken_19 ?_
      refine v_ishr R dX10_kindsWithBroken_20 ?_
      refine v_iconst R dX10_kindsWithBroken_21 (v := (1 : Int32)) (by decide) ?_
      refine v_iand R dX10_kindsWithBroken_22 ?_
      refine jn_v (fun K => ∀ (y33_2 : Int32), K y33_2 → V 33 [some (.ref (φ 0)), some (.int a1), some (.int y33_2), some (.int a3)] [] h) ?_ ?_ hP
      · intro y33_2 hP
        refine v_iincL_3 R (1 : Int32) dX10_kindsWithBroken_33 (by decide) rfl (by decide) hP (fun x33 hP => ?_)
        refine v_goto (tgt := 10) R dX10_kindsWithBroken_36 (by decide) ?_
        exact ih y33_2 x33 hP
      · intro K J33 hP
        refine v_if_eq (tgt := 33) R dX10_kindsWithBroken_23 (by decide) (fun q23 => ?_) (fun q23 => ?_)
        · have hP := hP.1 q23
          exact J33 a2 hP
        · have hP := hP.2 q23
          refine v_iload_2 R dX10_kindsWithBroken_26 ?_
          refine v_iload_3 R dX10_kindsWithBroken_27 ?_
          refine v_iconst R dX10_kindsWithBroken_28 (v := (1 : Int32)) (by decide) ?_
          refine cS3_ir R dX10_kindsWithBroken_29 (c_Fe_withPart hP) ml_X10_248 mv_Fe_withPart (by decide) (Nat.le_of_ble_eq_true rfl) (fun v29 hP => ?_)
          refine v_istore_2 R dX10_kindsWithBroken_32 (by decide) rfl ?_
          exact J33 v29 hP
set_option maxRecDepth 100000 in
set_option maxHeartbeats 4000000 in
theorem c_Fe_kindsWithBroken {l : Launch} {D : va_G} {cs : Nat → ClassId} {φ : Nat → Nat} {p0 : Int32} {h : Hp} {P : Int32 → Prop} (hP : wp_Fe_kindsWithBroken p0 h P) : Ct l D cs φ M_Fe_kindsWithBroken [.ref (φ 0), .int p0] h (fun rv h2 => ∃ v, rv = some (.int v) ∧ h2 = h ∧ P v) := by
  refine Ct.of (lc := [some (.ref (φ 0)), some (.int p0), none, none]) RX10 1 22 rfl (by decide +kernel) rfl (Nat.le_of_ble_eq_true rfl) rfl rfl (fun V R RI RV => ?_)
  have R : Ru l D cs φ RX10 cX10_kindsWithBroken 4 1 22 V := R
  have Rt : ∀ pc lc v, decode cX10_kindsWithBroken pc = .ok (.ireturn, 1) → P v → V pc lc [.int v] h := fun pc lc v hd hp => RI pc lc _ .int h rfl rfl hd ⟨v, rfl, rfl, hp⟩
  unfold wp_Fe_kindsWithBroken at hP
  refine v_aload_0 R dX10_kindsWithBroken_0 ?_
  refine g_Fe_now R dX10_kindsWithBroken_1 fl_X10_23 ?_
  refine g_State_kinds R dX10_kindsWithBroken_4 fl_X10_181 rfl ?_
  refine v_istoreL_2 R dX10_kindsWithBroken_7 (by decide) rfl hP (fun x7 hP => ?_)
  refine v_iconst R dX10_kindsWithBroken_8 (v := (0 : Int32)) (by decide) ?_
  refine v_istore_3 R dX10_kindsWithBroken_9 (by decide) rfl ?_
  obtain ⟨n10, hP⟩ := hP
  refine L_Fe_kindsWithBroken_10 R ?_ n10 _ _ hP
  intro w10_2 hP
  refine v_iload_2 R dX10_kindsWithBroken_39 ?_
  exact Rt _ _ _ dX10_kindsWithBroken_40 hP
set_option maxRecDepth 100000 in
set_option maxHeartbeats 4000000 in
theorem L_Fe_cut_17 {l : Launch} {D : va_G} {cs : Nat → ClassId} {φ : Nat → Nat} {V : Nat → List (Option Value) → List Value → Hp → Prop} {a1 a2 : Int32} {E : Int32 → Hp → Prop} (R : Ru l D cs φ RX10 cX10_cut 6 5 114 V) (hE : ∀ (a3 : Int32) (h : Hp), E a3 h → V 81 [none, none, none, some (.int a3), none, none] [] h) : ∀ (n : Nat) (a3 : Int32) (a4 : Int32) (h : Hp), lp_Fe_cut_17 n a1 a2 a3 a4 h E → V 17 [some (.ref (φ 0)), some (.int a1), some (.int a2), some (.int a3), some (.int a4), none] [] h := by
  intro n
  induction n with
  | zero => intro a3 a4 h hP; exact hP.elim
  | succ n ih =>
    intro a3 a4 h hP
    unfold lp_Fe_cut_17 at hP
    refine v_iload_4 R dX10_cut_17 ?_
    refine v_iconst R dX10_cut_19 (v := (1 : Int32)) (by decide) ?_
    refine v_aload_0 R dX10_cut_20 ?_
    refine g_Fe_wires R dX10_cut_21 fl_X10_108 ?_
    refine v_ishl R dX10_cut_24 ?_
    refine v_icmp_ge (tgt := 81) R dX10_cut_25 (by decide) (fun q25 => ?_) (fun q25 => ?_)
    · have hP := hP.1 q25
      refine v_wk R [none, none, none, some (.int a3), none, none] ⟨rfl, trivial⟩ ?_
      exact hE a3 h hP
    · have hP := hP.2 q25
      refine v_iload_3 R dX10_cut_28 ?_
      refine v_iconst R dX10_cut_29 (v := (-1 : Int32)) (by decide) ?_
      refine jn_v (fun K => ∀ (z50_0 : Int32), K z50_0 → V 50 [some (.ref (φ 0)), some (.int a1), some (.int a2), some (.int a3), some (.int a4), none] [.int z50_0] h) ?_ ?_ hP
      · intro z50_0 hP
        refine v_istore_5 R dX10_cut_50 (by decide) rfl ?_
        refine v_iload_5 R dX10_cut_52 ?_
        refine jn_v (fun K => ∀ (y75_3 : Int32) (h75 : Hp), K y75_3 h75 → V 75 [some (.ref (φ 0)), some (.int a1), some (.int a2), some (.int y75_3), some (.int a4), none] [] h75) ?_ ?_ hP
        · intro y75_3 h75 hP
          refine v_iincL_4 R (1 : Int32) dX10_cut_75 (by decide) rfl (by decide) hP (fun x75 hP => ?_)
          refine v_goto (tgt := 17) R dX10_cut_78 (by decide) ?_
          exact ih y75_3 x75 h75 hP
        · intro K J75 hP
          refine v_if_eq (tgt := 75) R dX10_cut_54 (by decide) (fun q54 => ?_) (fun q54 => ?_)
          · have hP := hP.1 q54
            refine v_wk R [some (.ref (φ 0)), some (.int a1), some (.int a2), some (.int a3), some (.int a4), none] ⟨rfl, ⟨rfl, ⟨rfl, ⟨rfl, ⟨rfl, trivial⟩⟩⟩⟩⟩ ?_
            exact J75 a3 h hP
          · have hP := hP.2 q54
            refine v_aload_0 R dX10_cut_57 ?_
            refine v_aload_0 R dX10_cut_58 ?_
            refine v_iload_4 R dX10_cut_59 ?_
            refine cV1_ir R dX10_cut_61 (c_Fe_kindsWithBroken hP) rc_Fe ml_X10_258 mv_Fe_kindsWithBroken (by decide) (Nat.le_of_ble_eq_true rfl) (fun v61 hP => ?_)
            refine v_iload_1 R dX10_cut_64 ?_
            refine v_iload_2 R dX10_cut_65 ?_
            refine cV3_bw R dX10_cut_66 (c_Fe_ringsBy hP) rc_Fe ml_X10_218 mv_Fe_ringsBy (by decide) (Nat.le_of_ble_eq_true rfl) (fun v66 h66 hP => ?_)
            refine v_ifb_ne (tgt := 75) R dX10_cut_69 (by decide) (fun q69 => ?_) (fun q69 => ?_)
            · have hP := hP.1 q69
              refine v_wk R [some (.ref (φ 0)), some (.int a1), some (.int a2), some (.int a3), some (.int a4), none] ⟨rfl, ⟨rfl, ⟨rfl, ⟨rfl, ⟨rfl, trivial⟩⟩⟩⟩⟩ ?_
              exact J75 a3 h66 hP
            · have hP := hP.2 q69
              refine v_iload_4 R dX10_cut_72 ?_
              refine v_istore_3 R dX10_cut_74 (by decide) rfl ?_
              refine v_wk R [some (.ref (φ 0)), some (.int a1), some (.int a2), some (.int a4), some (.int a4), none] ⟨rfl, ⟨rfl, ⟨rfl, ⟨rfl, ⟨rfl, trivial⟩⟩⟩⟩⟩ ?_
              exact J75 a4 h66 hP
      · intro K J50 hP
        refine jn_v (fun K => K → V 45 [some (.ref (φ 0)), some (.int a1), some (.int a2), some (.int a3), some (.int a4), none] [] h) ?_ ?_ hP
        · intro hP
          refine v_iconst R dX10_cut_45 (v := (1 : Int32)) (by decide) ?_
          refine v_goto (tgt := 50) R dX10_cut_46 (by decide) ?_
          exact J50 (1 : Int32) hP
        · intro K J45 hP
          refine v_icmp_eq (tgt := 45) R dX10_cut_30 (by decide) (fun q30 => ?_) (fun q30 => ?_)
          · have hP := hP.1 q30
            exact J45 hP
          · have hP := hP.2 q30
            refine v_iload_4 R dX10_cut_33 ?_
            refine cS1_ir R dX10_cut_35 (c_Int_bitCount hP) ml_X10_155 mv_Int_bitCount (by decide) (Nat.le_of_ble_eq_true rfl) (fun v35 hP => ?_)
            refine v_iload_3 R dX10_cut_38 ?_
            refine cS1_ir R dX10_cut_39 (c_Int_bitCount hP) ml_X10_155 mv_Int_bitCount (by decide) (Nat.le_of_ble_eq_true rfl) (fun v39 hP => ?_)
            refine v_icmp_ge (tgt := 49) R dX10_cut_42 (by decide) (fun q42 => ?_) (fun q42 => ?_)
            · have hP := hP.1 q42
              refine v_iconst R dX10_cut_49 (v := (0 : Int32)) (by decide) ?_
              exact J50 (0 : Int32) hP
            · have hP := hP.2 q42
              exact J45 hP
set_option maxRecDepth 100000 in
set_option maxHeartbeats 4000000 in
theorem c_Fe_cut {l : Launch} {D : va_G} {cs : Nat → ClassId} {φ : Nat → Nat} {p0 p1 : Int32} {h : Hp} {P : Int32 → Hp → Prop} (hP : wp_Fe_cut p0 p1 h P) : Ct l D cs φ M_Fe_cut [.ref (φ 0), .int p0, .int p1] h (fun rv h2 => ∃ v, rv = some (.int v) ∧ P v h2) := by
  refine Ct.of (lc := [some (.ref (φ 0)), some (.int p0), some (.int p1), none, none, none]) RX10 5 114 rfl (by decide +kernel) rfl (Nat.le_of_ble_eq_true rfl) rfl rfl (fun V R RI RV => ?_)
  have R : Ru l D cs φ RX10 cX10_cut 6 5 114 V := R
  have Rt : ∀ pc lc v h, decode cX10_cut pc = .ok (.ireturn, 1) → P v h → V pc lc [.int v] h := fun pc lc v h hd hp => RI pc lc _ .int h rfl rfl hd ⟨v, rfl, hp⟩
  unfold wp_Fe_cut at hP
  refine v_aload_0 R dX10_cut_0 ?_
  refine v_iload_1 R dX10_cut_1 ?_
  refine v_iload_2 R dX10_cut_2 ?_
  refine cV2_br R dX10_cut_3 (c_Fe_areTwo hP) rc_Fe ml_X10_222 mv_Fe_areTwo (by decide) (Nat.le_of_ble_eq_true rfl) (fun v3 hP => ?_)
  refine v_ifb_ne (tgt := 12) R dX10_cut_6 (by decide) (fun q6 => ?_) (fun q6 => ?_)
  · have hP := hP.1 q6
    refine v_iconst R dX10_cut_12 (v := (-1 : Int32)) (by decide) ?_
    refine v_istore_3 R dX10_cut_13 (by decide) rfl ?_
    refine v_iconst R dX10_cut_14 (v := (0 : Int32)) (by decide) ?_
    refine v_istore_4 R dX10_cut_15 (by decide) rfl ?_
    obtain ⟨n17, hP⟩ := hP
    refine L_Fe_cut_17 R ?_ n17 _ _ _ hP
    intro w17_3 h17x hP
    refine v_iload_3 R dX10_cut_81 ?_
    exact Rt _ _ _ _ dX10_cut_82 hP
  · have hP := hP.2 q6
    refine v_ldc R dX10_cut_9 ct_X10_180 ?_
    exact Rt _ _ _ _ dX10_cut_11 hP
set_option maxRecDepth 100000 in
set_option maxHeartbeats 4000000 in
theorem L_Ways_start_2 {l : Launch} {D : va_G} {cs : Nat → ClassId} {φ : Nat → Nat} {V : Nat → List (Option Value) → List Value → Hp → Prop} {E : Hp → Prop} (R : Ru l D cs φ RX9 cX9_start 2 0 0 V) (hE : ∀ (h : Hp), E h → V 20 [none, none] [] h) : ∀ (n : Nat) (a1 : Int32) (h : Hp), lp_Ways_start_2 n a1 h E → V 2 [some (.ref (φ 6)), some (.int a1)] [] h := by
  intro n
  induction n with
  | zero => intro a1 h hP; exact hP.elim
  | succ n ih =>
    intro a1 h hP
    unfold lp_Ways_start_2 at hP
    refine v_iload_1 R dX9_start_2 ?_
    refine v_iconst R dX9_start_3 (v := (5 : Int32)) (by decide) ?_
    refine v_icmp_ge (tgt := 20) R dX9_start_4 (by decide) (fun q4 => ?_) (fun q4 => ?_)
    · have hP := hP.1 q4
      refine v_wk R [none, none] trivial ?_
      exact hE h hP
    · have hP := hP.2 q4
      refine v_aload_0 R dX9_start_7 ?_
      refine g_Ways_groups R dX9_start_8 fl_X9_9 ?_
      refine v_iload_1 R dX9_start_11 ?_
      refine v_iconst R dX9_start_12 (v := (0 : Int32)) (by decide) ?_
      obtain ⟨hi13, hP⟩ := hP
      refine v_iastL R dX9_start_13 rfl hi13 hP (fun h13 hP => ?_)
      refine v_iincL_1 R (1 : Int32) dX9_start_14 (by decide) rfl (by decide) hP (fun x14 hP => ?_)
      refine v_goto (tgt := 2) R dX9_start_17 (by decide) ?_
      exact ih x14 h13 hP
set_option maxRecDepth 100000 in
set_option maxHeartbeats 4000000 in
theorem c_Ways_start {l : Launch} {D : va_G} {cs : Nat → ClassId} {φ : Nat → Nat} {h : Hp} {P : Hp → Prop} (hP : wp_Ways_start h P) : Ct l D cs φ M_Ways_start [.ref (φ 6)] h (fun rv h2 => rv = none ∧ P h2) := by
  refine Ct.of (lc := [some (.ref (φ 6)), none]) RX9 0 0 rfl (by decide +kernel) rfl (Nat.le_of_ble_eq_true rfl) rfl rfl (fun V R RI RV => ?_)
  have R : Ru l D cs φ RX9 cX9_start 2 0 0 V := R
  have Rt : ∀ pc lc h, decode cX9_start pc = .ok (.return_, 1) → P h → V pc lc [] h := fun pc lc h hd hp => RV pc lc h rfl hd ⟨rfl, hp⟩
  unfold wp_Ways_start at hP
  refine v_iconst R dX9_start_0 (v := (0 : Int32)) (by decide) ?_
  refine v_istore_1 R dX9_start_1 (by decide) rfl ?_
  obtain ⟨n2, hP⟩ := hP
  refine L_Ways_start_2 R ?_ n2 _ _ hP
  intro h2x hP
  exact Rt _ _ _ dX9_start_20 hP
set_option maxRecDepth 100000 in
set_option maxHeartbeats 4000000 in
theorem L_Ways_row_4 {l : Launch} {D : va_G} {cs : Nat → ClassId} {φ : Nat → Nat} {V : Nat → List (Option Value) → List Value → Hp → Prop} {a1 : Int32} {h : Hp} {E : Int32 → Prop} (R : Ru l D cs φ RX9 cX9_row 4 1 22 V) (hE : ∀ (a2 : Int32), E a2 → V 34 [none, none, some (.int a2), none] [] h) : ∀ (n : Nat) (a2 : Int32) (a3 : Int32), lp_Ways_row_4 n a1 a2 a3 h E → V 4 [some (.ref (φ 6)), some (.int a1), some (.int a2), some (.int a3)] [] h := by
  intro n
  induction n with
  | zero => intro a2 a3 hP; exact hP.elim
  | succ n ih =>
    intro a2 a3 hP
    unfold lp_Ways_row_4 at hP
    refine v_iload_3 R dX9_row_4 ?_
    refine v_iload_1 R dX9_row_5 ?_
    refine v_icmp_ge (tgt := 34) R dX9_row_6 (by decide) (fun q6 => ?_) (fun q6 => ?_)
    · have hP := hP.1 q6
      refine v_wk R [none, none, some (.int a2), none] ⟨rfl, trivial⟩ ?_
      exact hE a2 hP
    · have hP := hP.2 q6
      refine v_iload_3 R dX9_row_9 ?_
      refine v_iconst R dX9_row_10 (v := (5 : Int32)) (by decide) ?_
      refine v_icmp_ge (tgt := 34) R dX9_row_11 (by decide) (fun q11 => ?_) (fun q11 => ?_)
      · have hP := hP.1 q11
        refine v_wk R [none, none, some (.int a2), none] ⟨rfl, trivial⟩ ?_
        exact hE a2 hP
      · have hP := hP.2 q11
        refine v_iload_2 R dX9_row_14 ?_
        refine v_iload_3 R dX9_row_15 ?_
        refine v_aload_0 R dX9_row_16 ?_
        refine g_Ways_groups R dX9_row_17 fl_X9_9 ?_
        refine v_iload_3 R dX9_row_20 ?_
        obtain ⟨hi21, hP⟩ := hP
        refine v_iald R dX9_row_21 rfl hi21 ?_
        refine v_iconst R dX9_row_22 (v := (1 : Int32)) (by decide) ?_
        refine v_iadd R dX9_row_23 ?_
        refine cN3_ir R dX9_row_24 (c_Fe_withPart hP) mn_X9_25 mv_Fe_withPart (by decide) (Nat.le_of_ble_eq_true rfl) (fun v24 hP => ?_)
        refine v_istore_2 R dX9_row_27 (by decide) rfl ?_
        refine v_iincL_3 R (1 : Int32) dX9_row_28 (by decide) rfl (by decide) hP (fun x28 hP => ?_)
        refine v_goto (tgt := 4) R dX9_row_31 (by decide) ?_
        exact ih v24 x28 hP
set_option maxRecDepth 100000 in
set_option maxHeartbeats 4000000 in
theorem c_Ways_row {l : Launch} {D : va_G} {cs : Nat → ClassId} {φ : Nat → Nat} {p0 : Int32} {h : Hp} {P : Int32 → Prop} (hP : wp_Ways_row p0 h P) : Ct l D cs φ M_Ways_row [.ref (φ 6), .int p0] h (fun rv h2 => ∃ v, rv = some (.int v) ∧ h2 = h ∧ P v) := by
  refine Ct.of (lc := [some (.ref (φ 6)), some (.int p0), none, none]) RX9 1 22 rfl (by decide +kernel) rfl (Nat.le_of_ble_eq_true rfl) rfl rfl (fun V R RI RV => ?_)
  have R : Ru l D cs φ RX9 cX9_row 4 1 22 V := R
  have Rt : ∀ pc lc v, decode cX9_row pc = .ok (.ireturn, 1) → P v → V pc lc [.int v] h := fun pc lc v hd hp => RI pc lc _ .int h rfl rfl hd ⟨v, rfl, rfl, hp⟩
  unfold wp_Ways_row at hP
  refine v_iconst R dX9_row_0 (v := (0 : Int32)) (by decide) ?_
  refine v_istore_2 R dX9_row_1 (by decide) rfl ?_
  refine v_iconst R dX9_row_2 (v := (0 : Int32)) (by decide) ?_
  refine v_istore_3 R dX9_row_3 (by decide) rfl ?_
  obtain ⟨n4, hP⟩ := hP
  refine L_Ways_row_4 R ?_ n4 _ _ hP
  intro w4_2 hP
  refine v_iload_2 R dX9_row_34 ?_
  exact Rt _ _ _ dX9_row_35 hP
set_option maxRecDepth 100000 in
set_option maxHeartbeats 4000000 in
theorem c_Nets_bare {l : Launch} {D : va_G} {cs : Nat → ClassId} {φ : Nat → Nat} {r : Nat} {p0 : Int32} {h : Hp} {P : Int32 → Prop} (hk_r : kd r = 11) (hP : wp_Nets_bare r p0 h P) : Ct l D cs φ M_Nets_bare [.ref (φ r), .int p0] h (fun rv h2 => ∃ v, rv = some (.int v) ∧ h2 = h ∧ P v) := by
  refine Ct.of (lc := [some (.ref (φ r)), some (.int p0)]) RX3 0 0 rfl (by decide +kernel) rfl (Nat.le_of_ble_eq_true rfl) rfl rfl (fun V R RI RV => ?_)
  have R : Ru l D cs φ RX3 cX3_bare 2 0 0 V := R
  have Rt : ∀ pc lc v, decode cX3_bare pc = .ok (.ireturn, 1) → P v → V pc lc [.int v] h := fun pc lc v hd hp => RI pc lc _ .int h rfl rfl hd ⟨v, rfl, rfl, hp⟩
  unfold wp_Nets_bare at hP
  refine v_iload_1 R dX3_bare_0 ?_
  refine v_if_lt (tgt := 19) R dX3_bare_1 (by decide) (fun q1 => ?_) (fun q1 => ?_)
  · have hP := hP.1 q1
    refine v_iconst R dX3_bare_19 (v := (0 : Int32)) (by decide) ?_
    exact Rt _ _ _ dX3_bare_20 hP
  · have hP := hP.2 q1
    refine v_iload_1 R dX3_bare_4 ?_
    refine v_bipush R dX3_bare_5 (v := (11 : Int32)) (by decide) ?_
    refine v_icmp_ge (tgt := 19) R dX3_bare_7 (by decide) (fun q7 => ?_) (fun q7 => ?_)
    · have hP := hP.1 q7
      refine v_iconst R dX3_bare_19 (v := (0 : Int32)) (by decide) ?_
      exact Rt _ _ _ dX3_bare_20 hP
    · have hP := hP.2 q7
      refine v_aload_0 R dX3_bare_10 ?_
      refine g_Nets_bare R dX3_bare_11 fl_X3_9 hk_r ?_
      refine v_iload_1 R dX3_bare_14 ?_
      obtain ⟨hi15, hP⟩ := hP
      refine v_iald R dX3_bare_15 (kd_bare hk_r) (by rw [al_bare hk_r]; exact hi15) ?_
      refine v_goto (tgt := 20) R dX3_bare_16 (by decide) ?_
      exact Rt _ _ _ dX3_bare_20 hP
set_option maxRecDepth 100000 in
set_option maxHeartbeats 4000000 in
theorem c_Nets_isEarthedBare {l : Launch} {D : va_G} {cs : Nat → ClassId} {φ : Nat → Nat} {r : Nat} {p0 : Int32} {h : Hp} {P : Bool → Prop} (hk_r : kd r = 11) (hP : wp_Nets_isEarthedBare r p0 h P) : Ct l D cs φ M_Nets_isEarthedBare [.ref (φ r), .int p0] h (fun rv h2 => ∃ v, rv = some (.int (bI v)) ∧ h2 = h ∧ P v) := by
  refine Ct.of (lc := [some (.ref (φ r)), some (.int p0)]) RX3 1 21 rfl (by decide +kernel) rfl (Nat.le_of_ble_eq_true rfl) rfl rfl (fun V R RI RV => ?_)
  have R : Ru l D cs φ RX3 cX3_isEarthedBare 2 1 21 V := R
  have Rt : ∀ pc lc v, decode cX3_isEarthedBare pc = .ok (.ireturn, 1) → P v → V pc lc [.int (bI v)] h := fun pc lc v hd hp => RI pc lc _ .boolean h rfl (bI_n v) hd ⟨v, rfl, rfl, hp⟩
  unfold wp_Nets_isEarthedBare at hP
  refine v_aload_0 R dX3_isEarthedBare_0 ?_
  refine v_iload_1 R dX3_isEarthedBare_1 ?_
  refine cV1_ir R dX3_isEarthedBare_2 (c_Nets_bare hk_r hP) (rc_Nets hk_r) ml_X3_39 mv_Nets_bare (by decide) (Nat.le_of_ble_eq_true rfl) (fun v2 hP => ?_)
  refine v_bipush R dX3_isEarthedBare_5 (v := (10 : Int32)) (by decide) ?_
  refine v_ishr R dX3_isEarthedBare_7 ?_
  refine v_iconst R dX3_isEarthedBare_8 (v := (1 : Int32)) (by decide) ?_
  refine v_iand R dX3_isEarthedBare_9 ?_
  refine v_if_eq (tgt := 17) R dX3_isEarthedBare_10 (by decide) (fun q10 => ?_) (fun q10 => ?_)
  · have hP := hP.1 q10
    refine v_iconst R dX3_isEarthedBare_17 (v := (0 : Int32)) (by decide) ?_
    exact Rt _ _ false dX3_isEarthedBare_18 hP
  · have hP := hP.2 q10
    refine v_iconst R dX3_isEarthedBare_13 (v := (1 : Int32)) (by decide) ?_
    refine v_goto (tgt := 18) R dX3_isEarthedBare_14 (by decide) ?_
    exact Rt _ _ true dX3_isEarthedBare_18 hP
set_option maxRecDepth 100000 in
set_option maxHeartbeats 4000000 in
theorem L_Fe_leftByWay_61 {l : Launch} {D : va_G} {cs : Nat → ClassId} {φ : Nat → Nat} {V : Nat → List (Option Value) → List Value → Hp → Prop} {a2 : Int32} {h : Hp} {E : Int32 → Int32 → Prop} (R : Ru l D cs φ RX10 cX10_leftByWay 11 3 70 V) (hE : ∀ (a3 : Int32) (a4 : Int32), E a3 a4 → V 196 [none, none, none, some (.int a3), some (.int a4), none, none, none, none, none, none] [] h) : ∀ (n : Nat) (a3 : Int32) (a4 : Int32) (a5 : Int32) (a6 : Int32), lp_Fe_leftByWay_61 n a2 a3 a4 a5 a6 h E → V 61 [some (.ref (φ 0)), none, some (.int a2), some (.int a3), some (.int a4), some (.int a5), some (.int a6), none, none, none, none] [] h := by
  intro n
  induction n with
  | zero => intro a3 a4 a5 a6 hP; exact hP.elim
  | succ n ih =>
    intro a3 a4 a5 a6 hP
    unfold lp_Fe_leftByWay_61 at hP
    refine v_iload_6 R dX10_leftByWay_61 ?_
    refine v_aload_0 R dX10_leftByWay_63 ?_
    refine g_Fe_wires R dX10_leftByWay_64 fl_X10_108 ?_
    refine v_icmp_ge (tgt := 196) R dX10_leftByWay_67 (by decide) (fun q67 => ?_) (fun q67 => ?_)
    · have hP := hP.1 q67
      refine v_wk R [none, none, none, some (.int a3), some (.int a4), none, none, none, none, none, none] ⟨rfl, ⟨rfl, trivial⟩⟩ ?_
      exact hE a3 a4 hP
    · have hP := hP.2 q67
      refine v_iload_2 R dX10_leftByWay_70 ?_
      refine v_iload_6 R dX10_leftByWay_71 ?_
      refine v_ishr R dX10_leftByWay_73 ?_
      refine v_iconst R dX10_leftByWay_74 (v := (1 : Int32)) (by decide) ?_
      refine v_iand R dX10_leftByWay_75 ?_
      refine jn_v (fun K => ∀ (z84_0 : Int32), K z84_0 → V 84 [some (.ref (φ 0)), none, some (.int a2), some (.int a3), some (.int a4), some (.int a5), some (.int a6), none, none, none, none] [.int z84_0] h) ?_ ?_ hP
      · intro z84_0 hP
        refine v_istore_7 R dX10_leftByWay_84 (by decide) rfl ?_
        refine v_iload_7 R dX10_leftByWay_86 ?_
        refine jn_v (fun K => ∀ (z109_0 : Int32), K z109_0 → V 109 [some (.ref (φ 0)), none, some (.int a2), some (.int a3), some (.int a4), some (.int a5), some (.int a6), some (.int z84_0), none, none, none] [.int z109_0] h) ?_ ?_ hP
        · intro z109_0 hP
          refine v_istore_8 R dX10_leftByWay_109 (by decide) rfl ?_
          refine v_iload_7 R dX10_leftByWay_111 ?_
          refine jn_v (fun K => ∀ (y190_3 : Int32) (y190_4 : Int32) (y190_5 : Int32), K y190_3 y190_4 y190_5 → V 190 [some (.ref (φ 0)), none, some (.int a2), some (.int y190_3), some (.int y190_4), some (.int y190_5), some (.int a6), none, none, none, none] [] h) ?_ ?_ hP
          · intro y190_3 y190_4 y190_5 hP
            refine v_iincL_6 R (1 : Int32) dX10_leftByWay_190 (by decide) rfl (by decide) hP (fun x190 hP => ?_)
            refine v_goto (tgt := 61) R dX10_leftByWay_193 (by decide) ?_
            exact ih y190_3 y190_4 y190_5 x190 hP
          · intro K J190 hP
            refine jn_v (fun K => K → V 134 [some (.ref (φ 0)), none, some (.int a2), some (.int a3), some (.int a4), some (.int a5), some (.int a6), none, some (.int z109_0), none, none] [] h) ?_ ?_ hP
            · intro hP
              refine v_iload_8 R dX10_leftByWay_134 ?_
              refine v_iconst R dX10_leftByWay_136 (v := (1 : Int32)) (by decide) ?_
              refine v_iload_6 R dX10_leftByWay_137 ?_
              refine v_ishl R dX10_leftByWay_139 ?_
              refine v_iconst R dX10_leftByWay_140 (v := (1 : Int32)) (by decide) ?_
              refine v_isub R dX10_leftByWay_141 ?_
              refine v_iand R dX10_leftByWay_142 ?_
              refine v_if_ne (tgt := 190) R dX10_leftByWay_143 (by decide) (fun q143 => ?_) (fun q143 => ?_)
              · have hP := hP.1 q143
                refine v_wk R [some (.ref (φ 0)), none, some (.int a2), some (.int a3), some (.int a4), some (.int a5), some (.int a6), none, none, none, none] ⟨rfl, ⟨rfl, ⟨rfl, ⟨rfl, ⟨rfl, ⟨rfl, trivial⟩⟩⟩⟩⟩⟩ ?_
                exact J190 a3 a4 a5 hP
              · have hP := hP.2 q143
                refine v_iload_8 R dX10_leftByWay_146 ?_
                refine cS1_ir R dX10_leftByWay_148 (c_Int_bitCount hP) ml_X10_155 mv_Int_bitCount (by decide) (Nat.le_of_ble_eq_true rfl) (fun v148 hP => ?_)
                refine v_istore_9 R dX10_leftByWay_151 (by decide) rfl ?_
                refine v_iload_5 R dX10_leftByWay_153 ?_
                refine v_iload_9 R dX10_leftByWay_155 ?_
                refine v_iconst R dX10_leftByWay_157 (v := (1 : Int32)) (by decide) ?_
                refine v_isub R dX10_leftByWay_158 ?_
                refine cS2_ir R dX10_leftByWay_159 (c_Fe_part hP) ml_X10_182 mv_Fe_part (by decide) (Nat.le_of_ble_eq_true rfl) (fun v159 hP => ?_)
                refine v_iconst R dX10_leftByWay_162 (v := (1 : Int32)) (by decide) ?_
                refine v_iadd R dX10_leftByWay_163 ?_
                refine v_istoreL_10 R dX10_leftByWay_164 (by decide) rfl hP (fun x164 hP => ?_)
                refine v_iload_5 R dX10_leftByWay_166 ?_
                refine v_iload_9 R dX10_leftByWay_168 ?_
                refine v_iconst R dX10_leftByWay_170 (v := (1 : Int32)) (by decide) ?_
                refine v_isub R dX10_leftByWay_171 ?_
                refine v_iload_10 R dX10_leftByWay_172 ?_
                refine cS3_ir R dX10_leftByWay_174 (c_Fe_withPart hP) ml_X10_248 mv_Fe_withPart (by decide) (Nat.le_of_ble_eq_true rfl) (fun v174 hP => ?_)
                refine v_istore_5 R dX10_leftByWay_177 (by decide) rfl ?_
                refine v_iload_3 R dX10_leftByWay_179 ?_
                refine v_iload_9 R dX10_leftByWay_180 ?_
                refine cS1_ir R dX10_leftByWay_182 (c_Fe_factorial hP) ml_X10_310 mv_Fe_factorial (by decide) (Nat.le_of_ble_eq_true rfl) (fun v182 hP => ?_)
                refine v_iload_10 R dX10_leftByWay_185 ?_
                refine v_imul R dX10_leftByWay_187 ?_
                refine v_imul R dX10_leftByWay_188 ?_
                refine v_istoreL_3 R dX10_leftByWay_189 (by decide) rfl hP (fun x189 hP => ?_)
                refine v_wk R [some (.ref (φ 0)), none, some (.int a2), some (.int x189), some (.int a4), some (.int v174), some (.int a6), none, none, none, none] ⟨rfl, ⟨rfl, ⟨rfl, ⟨rfl, ⟨rfl, ⟨rfl, trivial⟩⟩⟩⟩⟩⟩ ?_
                exact J190 x189 a4 v174 hP
            · intro K J134 hP
              refine v_if_eq (tgt := 134) R dX10_leftByWay_113 (by decide) (fun q113 => ?_) (fun q113 => ?_)
              · have hP := hP.1 q113
                refine v_wk R [some (.ref (φ 0)), none, some (.int a2), some (.int a3), some (.int a4), some (.int a5), some (.int a6), none, some (.int z109_0), none, none] ⟨rfl, ⟨rfl, ⟨rfl, ⟨rfl, ⟨rfl, ⟨rfl, ⟨rfl, trivial⟩⟩⟩⟩⟩⟩⟩ ?_
                exact J134 hP
              · have hP := hP.2 q113
                refine v_aload_0 R dX10_leftByWay_116 ?_
                refine g_Fe_nets R dX10_leftByWay_117 fl_X10_62 ?_
                refine v_iload_6 R dX10_leftByWay_120 ?_
                refine cV1_br R dX10_leftByWay_122 (c_Nets_isEarthedBare rfl hP) (rc_Nets rfl) ml_X10_371 mv_Nets_isEarthedBare (by decide) (Nat.le_of_ble_eq_true rfl) (fun v122 hP => ?_)
                refine v_ifb_eq (tgt := 134) R dX10_leftByWay_125 (by decide) (fun q125 => ?_) (fun q125 => ?_)
                · have hP := hP.1 q125
                  refine v_wk R [some (.ref (φ 0)), none, some (.int a2), some (.int a3), some (.int a4), some (.int a5), some (.int a6), none, some (.int z109_0), none, none] ⟨rfl, ⟨rfl, ⟨rfl, ⟨rfl, ⟨rfl, ⟨rfl, ⟨rfl, trivial⟩⟩⟩⟩⟩⟩⟩ ?_
                  exact J134 hP
                · have hP := hP.2 q125
                  refine v_iincL_4 R (1 : Int32) dX10_leftByWay_128 (by decide) rfl (by decide) hP (fun x128 hP => ?_)
                  refine v_goto (tgt := 190) R dX10_leftByWay_131 (by decide) ?_
                  refine v_wk R [some (.ref (φ 0)), none, some (.int a2), some (.int a3), some (.int x128), some (.int a5), some (.int a6), none, none, none, none] ⟨rfl, ⟨rfl, ⟨rfl, ⟨rfl, ⟨rfl, ⟨rfl, trivial⟩⟩⟩⟩⟩⟩ ?_
                  exact J190 a3 x128 a5 hP
        · intro K J109 hP
          refine v_if_eq (tgt := 105) R dX10_leftByWay_88 (by decide) (fun q88 => ?_) (fun q88 => ?_)
          · have hP := hP.1 q88
            refine v_iconst R dX10_leftByWay_105 (v := (1 : Int32)) (by decide) ?_
            refine v_iload_6 R dX10_leftByWay_106 ?_
            refine v_ishl R dX10_leftByWay_108 ?_
            exact J109 ((1 : Int32) <<< (a6 &&& 31)) hP
          · have hP := hP.2 q88
            refine v_aload_0 R dX10_leftByWay_91 ?_
            refine g_Fe_nets R dX10_leftByWay_92 fl_X10_62 ?_
            refine v_iload_6 R dX10_leftByWay_95 ?_
            refine cV1_ir R dX10_leftByWay_97 (c_Nets_bare rfl hP) (rc_Nets rfl) ml_X10_368 mv_Nets_bare (by decide) (Nat.le_of_ble_eq_true rfl) (fun v97 hP => ?_)
            refine v_iload_2 R dX10_leftByWay_100 ?_
            refine v_iand R dX10_leftByWay_101 ?_
            refine v_goto (tgt := 109) R dX10_leftByWay_102 (by decide) ?_
            exact J109 (v97 &&& a2) hP
      · intro K J84 hP
        refine v_if_eq (tgt := 83) R dX10_leftByWay_76 (by decide) (fun q76 => ?_) (fun q76 => ?_)
        · have hP := hP.1 q76
          refine v_iconst R dX10_leftByWay_83 (v := (0 : Int32)) (by decide) ?_
          exact J84 (0 : Int32) hP
        · have hP := hP.2 q76
          refine v_iconst R dX10_leftByWay_79 (v := (1 : Int32)) (by decide) ?_
          refine v_goto (tgt := 84) R dX10_leftByWay_80 (by decide) ?_
          exact J84 (1 : Int32) hP
set_option maxRecDepth 100000 in
set_option maxHeartbeats 4000000 in
theorem c_Fe_leftByWay {l : Launch} {D : va_G} {cs : Nat → ClassId} {φ : Nat → Nat} {p0 : Int32} {h : Hp} {P : Int32 → Hp → Prop} (hP : wp_Fe_leftByWay p0 h P) : Ct l D cs φ M_Fe_leftByWay [.ref (φ 0), .int p0] h (fun rv h2 => ∃ v, rv = some (.int v) ∧ P v h2) := by
  refine Ct.of (lc := [some (.ref (φ 0)), some (.int p0), none, none, none, none, none, none, none, none, none]) RX10 3 70 rfl (by decide +kernel) rfl (Nat.le_of_ble_eq_true rfl) rfl rfl (fun V R RI RV => ?_)
  have R : Ru l D cs φ RX10 cX10_leftByWay 11 3 70 V := R
  have Rt : ∀ pc lc v h, decode cX10_leftByWay pc = .ok (.ireturn, 1) → P v h → V pc lc [.int v] h := fun pc lc v h hd hp => RI pc lc _ .int h rfl rfl hd ⟨v, rfl, hp⟩
  unfold wp_Fe_leftByWay at hP
  refine v_aload_0 R dX10_leftByWay_0 ?_
  refine g_Fe_nets R dX10_leftByWay_1 fl_X10_62 ?_
  refine v_aload_0 R dX10_leftByWay_4 ?_
  refine g_Fe_now R dX10_leftByWay_5 fl_X10_23 ?_
  refine g_State_kinds R dX10_leftByWay_8 fl_X10_181 rfl ?_
  refine v_aload_0 R dX10_leftByWay_11 ?_
  refine g_Fe_now R dX10_leftByWay_12 fl_X10_23 ?_
  refine g_State_touching R dX10_leftByWay_15 fl_X10_154 rfl ?_
  refine v_iload_1 R dX10_leftByWay_18 ?_
  refine v_iconst R dX10_leftByWay_19 (v := (0 : Int32)) (by decide) ?_
  refine cV4_vw R dX10_leftByWay_20 (c_Nets_lay rfl hP) (rc_Nets rfl) ml_X10_296 mv_Nets_lay (by decide) (Nat.le_of_ble_eq_true rfl) (fun h20 hP => ?_)
  refine v_aload_0 R dX10_leftByWay_23 ?_
  refine g_Fe_now R dX10_leftByWay_24 fl_X10_23 ?_
  refine g_State_kinds R dX10_leftByWay_27 fl_X10_181 rfl ?_
  refine v_aload_0 R dX10_leftByWay_30 ?_
  refine g_Fe_now R dX10_leftByWay_31 fl_X10_23 ?_
  refine g_State_hours R dX10_leftByWay_34 fl_X10_145 rfl ?_
  refine cS2_ir R dX10_leftByWay_37 (c_Fe_passing hP) ml_X10_189 mv_Fe_passing (by decide) (Nat.le_of_ble_eq_true rfl) (fun v37 hP => ?_)
  refine v_iconst R dX10_leftByWay_40 (v := (1 : Int32)) (by decide) ?_
  refine v_aload_0 R dX10_leftByWay_41 ?_
  refine g_Fe_wires R dX10_leftByWay_42 fl_X10_108 ?_
  refine v_ishl R dX10_leftByWay_45 ?_
  refine v_iconst R dX10_leftByWay_46 (v := (1 : Int32)) (by decide) ?_
  refine v_isub R dX10_leftByWay_47 ?_
  refine v_iand R dX10_leftByWay_48 ?_
  refine v_istoreL_2 R dX10_leftByWay_49 (by decide) rfl hP (fun x49 hP => ?_)
  refine v_iconst R dX10_leftByWay_50 (v := (1 : Int32)) (by decide) ?_
  refine v_istore_3 R dX10_leftByWay_51 (by decide) rfl ?_
  refine v_iconst R dX10_leftByWay_52 (v := (0 : Int32)) (by decide) ?_
  refine v_istore_4 R dX10_leftByWay_53 (by decide) rfl ?_
  refine v_iconst R dX10_leftByWay_55 (v := (0 : Int32)) (by decide) ?_
  refine v_istore_5 R dX10_leftByWay_56 (by decide) rfl ?_
  refine v_iconst R dX10_leftByWay_58 (v := (0 : Int32)) (by decide) ?_
  refine v_istore_6 R dX10_leftByWay_59 (by decide) rfl ?_
  refine v_wk R [some (.ref (φ 0)), none, some (.int x49), some (.int (1 : Int32)), some (.int (0 : Int32)), some (.int (0 : Int32)), some (.int (0 : Int32)), none, none, none, none] ⟨rfl, ⟨rfl, ⟨rfl, ⟨rfl, ⟨rfl, ⟨rfl, trivial⟩⟩⟩⟩⟩⟩ ?_
  obtain ⟨n61, hP⟩ := hP
  refine L_Fe_leftByWay_61 R ?_ n61 _ _ _ _ hP
  intro w61_3 w61_4 hP
  refine v_iload_3 R dX10_leftByWay_196 ?_
  refine v_iload_4 R dX10_leftByWay_197 ?_
  refine cS1_ir R dX10_leftByWay_199 (c_Fe_factorial hP) ml_X10_310 mv_Fe_factorial (by decide) (Nat.le_of_ble_eq_true rfl) (fun v199 hP => ?_)
  refine v_imul R dX10_leftByWay_202 ?_
  exact Rt _ _ _ _ dX10_leftByWay_203 hP
set_option maxRecDepth 100000 in
set_option maxHeartbeats 4000000 in
theorem L_Ways_mostAhead_4 {l : Launch} {D : va_G} {cs : Nat → ClassId} {φ : Nat → Nat} {V : Nat → List (Option Value) → List Value → Hp → Prop} {a1 : Int32} {h : Hp} {E : Int32 → Prop} (R : Ru l D cs φ RX9 cX9_mostAhead 4 1 21 V) (hE : ∀ (a2 : Int32), E a2 → V 31 [none, none, some (.int a2), none] [] h) : ∀ (n : Nat) (a2 : Int32) (a3 : Int32), lp_Ways_mostAhead_4 n a1 a2 a3 h E → V 4 [some (.ref (φ 6)), some (.int a1), some (.int a2), some (.int a3)] [] h := by
  intro n
  induction n with
  | zero => intro a2 a3 hP; exact hP.elim
  | succ n ih =>
    intro a2 a3 hP
    unfold lp_Ways_mostAhead_4 at hP
    refine v_iload_3 R dX9_mostAhead_4 ?_
    refine v_iload_1 R dX9_mostAhead_5 ?_
    refine v_icmp_ge (tgt := 31) R dX9_mostAhead_6 (by decide) (fun q6 => ?_) (fun q6 => ?_)
    · have hP := hP.1 q6
      refine v_wk R [none, none, some (.int a2), none] ⟨rfl, trivial⟩ ?_
      exact hE a2 hP
    · have hP := hP.2 q6
      refine v_iload_3 R dX9_mostAhead_9 ?_
      refine v_iconst R dX9_mostAhead_10 (v := (5 : Int32)) (by decide) ?_
      refine v_icmp_ge (tgt := 31) R dX9_mostAhead_11 (by decide) (fun q11 => ?_) (fun q11 => ?_)
      · have hP := hP.1 q11
        refine v_wk R [none, none, some (.int a2), none] ⟨rfl, trivial⟩ ?_
        exact hE a2 hP
      · have hP := hP.2 q11
        refine v_iload_2 R dX9_mostAhead_14 ?_
        refine v_aload_0 R dX9_mostAhead_15 ?_
        refine g_Ways_groups R dX9_mostAhead_16 fl_X9_9 ?_
        refine v_iload_3 R dX9_mostAhead_19 ?_
        obtain ⟨hi20, hP⟩ := hP
        refine v_iald R dX9_mostAhead_20 rfl hi20 ?_
        refine v_mmax2 R dX9_mostAhead_21 ml_X9_29 ms_max in_java_lang_Math mc_max (by decide) (Nat.le_of_ble_eq_true rfl) ?_
        refine v_istoreL_2 R dX9_mostAhead_24 (by decide) rfl hP (fun x24 hP => ?_)
        refine v_iincL_3 R (1 : Int32) dX9_mostAhead_25 (by decide) rfl (by decide) hP (fun x25 hP => ?_)
        refine v_goto (tgt := 4) R dX9_mostAhead_28 (by decide) ?_
        exact ih x24 x25 hP
set_option maxRecDepth 100000 in
set_option maxHeartbeats 4000000 in
theorem c_Ways_mostAhead {l : Launch} {D : va_G} {cs : Nat → ClassId} {φ : Nat → Nat} {p0 : Int32} {h : Hp} {P : Int32 → Prop} (hP : wp_Ways_mostAhead p0 h P) : Ct l D cs φ M_Ways_mostAhead [.ref (φ 6), .int p0] h (fun rv h2 => ∃ v, rv = some (.int v) ∧ h2 = h ∧ P v) := by
  refine Ct.of (lc := [some (.ref (φ 6)), some (.int p0), none, none]) RX9 1 21 rfl (by decide +kernel) rfl (Nat.le_of_ble_eq_true rfl) rfl rfl (fun V R RI RV => ?_)
  have R : Ru l D cs φ RX9 cX9_mostAhead 4 1 21 V := R
  have Rt : ∀ pc lc v, decode cX9_mostAhead pc = .ok (.ireturn, 1) → P v → V pc lc [.int v] h := fun pc lc v hd hp => RI pc lc _ .int h rfl rfl hd ⟨v, rfl, rfl, hp⟩
  unfold wp_Ways_mostAhead at hP
  refine v_iconst R dX9_mostAhead_0 (v := (0 : Int32)) (by decide) ?_
  refine v_istore_2 R dX9_mostAhead_1 (by decide) rfl ?_
  refine v_iconst R dX9_mostAhead_2 (v := (0 : Int32)) (by decide) ?_
  refine v_istore_3 R dX9_mostAhead_3 (by decide) rfl ?_
  obtain ⟨n4, hP⟩ := hP
  refine L_Ways_mostAhead_4 R ?_ n4 _ _ hP
  intro w4_2 hP
  refine v_iload_2 R dX9_mostAhead_31 ?_
  exact Rt _ _ _ dX9_mostAhead_32 hP
set_option maxRecDepth 100000 in
set_option maxHeartbeats 4000000 in
theorem L_Ways_advance_8 {l : Launch} {D : va_G} {cs : Nat → ClassId} {φ : Nat → Nat} {V : Nat → List (Option Value) → List Value → Hp → Prop} {E : Hp → Prop} {P : Bool → Hp → Prop} (R : Ru l D cs φ RX9 cX9_advance 3 2 44 V) (hE : ∀ (h : Hp), E h → V 51 [none, none, none] [] h) (Rt : ∀ pc lc v h, decode cX9_advance pc = .ok (.ireturn, 1) → P v h → V pc lc [.int (bI v)] h) : ∀ (n : Nat) (a2 : Int32) (h : Hp), lp_Ways_advance_8 n a2 h E P → V 8 [some (.ref (φ 6)), none, some (.int a2)] [] h := by
  intro n
  induction n with
  | zero => intro a2 h hP; exact hP.elim
  | succ n ih =>
    intro a2 h hP
    unfold lp_Ways_advance_8 at hP
    refine v_iload_2 R dX9_advance_8 ?_
    refine v_if_le (tgt := 51) R dX9_advance_9 (by decide) (fun q9 => ?_) (fun q9 => ?_)
    · have hP := hP.1 q9
      refine v_wk R [none, none, none] trivial ?_
      exact hE h hP
    · have hP := hP.2 q9
      refine v_aload_0 R dX9_advance_12 ?_
      refine g_Ways_groups R dX9_advance_13 fl_X9_9 ?_
      refine v_iload_2 R dX9_advance_16 ?_
      obtain ⟨hi17, hP⟩ := hP
      refine v_iald R dX9_advance_17 rfl hi17 ?_
      refine v_aload_0 R dX9_advance_18 ?_
      refine v_iload_2 R dX9_advance_19 ?_
      refine cV1_ir R dX9_advance_20 (c_Ways_mostAhead hP) rc_Ways ml_X9_21 mv_Ways_mostAhead (by decide) (Nat.le_of_ble_eq_true rfl) (fun v20 hP => ?_)
      refine v_icmp_gt (tgt := 38) R dX9_advance_23 (by decide) (fun q23 => ?_) (fun q23 => ?_)
      · have hP := hP.1 q23
        refine v_aload_0 R dX9_advance_38 ?_
        refine g_Ways_groups R dX9_advance_39 fl_X9_9 ?_
        refine v_iload_2 R dX9_advance_42 ?_
        refine v_iconst R dX9_advance_43 (v := (0 : Int32)) (by decide) ?_
        obtain ⟨hi44, hP⟩ := hP
        refine v_iastL R dX9_advance_44 rfl hi44 hP (fun h44 hP => ?_)
        refine v_iincL_2 R (-1 : Int32) dX9_advance_45 (by decide) rfl (by decide) hP (fun x45 hP => ?_)
        refine v_goto (tgt := 8) R dX9_advance_48 (by decide) ?_
        exact ih x45 h44 hP
      · have hP := hP.2 q23
        refine v_aload_0 R dX9_advance_26 ?_
        refine g_Ways_groups R dX9_advance_27 fl_X9_9 ?_
        refine v_iload_2 R dX9_advance_30 ?_
        refine v_dup2 R dX9_advance_31 rfl rfl ?_
        obtain ⟨hi32, hP⟩ := hP
        refine v_iald R dX9_advance_32 rfl hi32 ?_
        refine v_iconst R dX9_advance_33 (v := (1 : Int32)) (by decide) ?_
        refine v_iadd R dX9_advance_34 ?_
        obtain ⟨hi35, hP⟩ := hP
        refine v_iastL R dX9_advance_35 rfl hi35 hP (fun h35 hP => ?_)
        refine v_iconst R dX9_advance_36 (v := (1 : Int32)) (by decide) ?_
        exact Rt _ _ true _ dX9_advance_37 hP
set_option maxRecDepth 100000 in
set_option maxHeartbeats 4000000 in
theorem c_Ways_advance {l : Launch} {D : va_G} {cs : Nat → ClassId} {φ : Nat → Nat} {p0 : Int32} {h : Hp} {P : Bool → Hp → Prop} (hP : wp_Ways_advance p0 h P) : Ct l D cs φ M_Ways_advance [.ref (φ 6), .int p0] h (fun rv h2 => ∃ v, rv = some (.int (bI v)) ∧ P v h2) := by
  refine Ct.of (lc := [some (.ref (φ 6)), some (.int p0), none]) RX9 2 44 rfl (by decide +kernel) rfl (Nat.le_of_ble_eq_true rfl) rfl rfl (fun V R RI RV => ?_)
  have R : Ru l D cs φ RX9 cX9_advance 3 2 44 V := R
  have Rt : ∀ pc lc v h, decode cX9_advance pc = .ok (.ireturn, 1) → P v h → V pc lc [.int (bI v)] h := fun pc lc v h hd hp => RI pc lc _ .boolean h rfl (bI_n v) hd ⟨v, rfl, hp⟩
  unfold wp_Ways_advance at hP
  refine v_iload_1 R dX9_advance_0 ?_
  refine v_iconst R dX9_advance_1 (v := (5 : Int32)) (by decide) ?_
  refine v_mmin2 R dX9_advance_2 ml_X9_15 ms_min in_java_lang_Math mc_min (by decide) (Nat.le_of_ble_eq_true rfl) ?_
  refine v_iconst R dX9_advance_5 (v := (1 : Int32)) (by decide) ?_
  refine v_isub R dX9_advance_6 ?_
  refine v_istoreL_2 R dX9_advance_7 (by decide) rfl hP (fun x7 hP => ?_)
  refine v_wk R [some (.ref (φ 6)), none, some (.int x7)] ⟨rfl, ⟨rfl, trivial⟩⟩ ?_
  obtain ⟨n8, hP⟩ := hP
  refine L_Ways_advance_8 R ?_ Rt n8 _ _ hP
  intro h8x hP
  refine v_iconst R dX9_advance_51 (v := (0 : Int32)) (by decide) ?_
  exact Rt _ _ false _ dX9_advance_52 hP
set_option maxRecDepth 100000 in
set_option maxHeartbeats 4000000 in
theorem L_Fe_bestWay_27 {l : Launch} {D : va_G} {cs : Nat → ClassId} {φ : Nat → Nat} {V : Nat → List (Option Value) → List Value → Hp → Prop} {E : Int32 → Hp → Prop} (R : Ru l D cs φ RX10 cX10_bestWay 6 4 100 V) (hE : ∀ (a1 : Int32) (h : Hp), E a1 h → V 86 [none, some (.int a1), none, none, none, none] [] h) : ∀ (n : Nat) (a1 : Int32) (a2 : Int32) (a3 : Int32) (h : Hp), lp_Fe_bestWay_27 n a1 a2 a3 h E → V 27 [some (.ref (φ 0)), some (.int a1), some (.int a2), some (.int a3), none, none] [] h := by
  intro n
  induction n with
  | zero => intro a1 a2 a3 h hP; exact hP.elim
  | succ n ih =>
    intro a1 a2 a3 h hP
    unfold lp_Fe_bestWay_27 at hP
    refine v_iload_3 R dX10_bestWay_27 ?_
    refine v_bipush R dX10_bestWay_28 (v := (60 : Int32)) (by decide) ?_
    refine v_icmp_ge (tgt := 86) R dX10_bestWay_30 (by decide) (fun q30 => ?_) (fun q30 => ?_)
    · have hP := hP.1 q30
      refine v_wk R [none, some (.int a1), none, none, none, none] ⟨rfl, trivial⟩ ?_
      exact hE a1 h hP
    · have hP := hP.2 q30
      refine v_aload_0 R dX10_bestWay_33 ?_
      refine g_Fe_ways R dX10_bestWay_34 fl_X10_83 ?_
      refine v_aload_0 R dX10_bestWay_37 ?_
      refine g_Fe_wires R dX10_bestWay_38 fl_X10_108 ?_
      refine cV1_bw R dX10_bestWay_41 (c_Ways_advance hP) rc_Ways ml_X10_366 mv_Ways_advance (by decide) (Nat.le_of_ble_eq_true rfl) (fun v41 h41 hP => ?_)
      refine v_ifb_eq (tgt := 86) R dX10_bestWay_44 (by decide) (fun q44 => ?_) (fun q44 => ?_)
      · have hP := hP.1 q44
        refine v_wk R [none, some (.int a1), none, none, none, none] ⟨rfl, trivial⟩ ?_
        exact hE a1 h41 hP
      · have hP := hP.2 q44
        refine v_aload_0 R dX10_bestWay_47 ?_
        refine g_Fe_ways R dX10_bestWay_48 fl_X10_83 ?_
        refine v_aload_0 R dX10_bestWay_51 ?_
        refine g_Fe_wires R dX10_bestWay_52 fl_X10_108 ?_
        refine cV1_ir R dX10_bestWay_55 (c_Ways_row hP) rc_Ways ml_X10_363 mv_Ways_row (by decide) (Nat.le_of_ble_eq_true rfl) (fun v55 hP => ?_)
        refine v_istore_4 R dX10_bestWay_58 (by decide) rfl ?_
        refine v_aload_0 R dX10_bestWay_60 ?_
        refine v_iload_4 R dX10_bestWay_61 ?_
        refine cV1_iw R dX10_bestWay_63 (c_Fe_leftByWay hP) rc_Fe ml_X10_264 mv_Fe_leftByWay (by decide) (Nat.le_of_ble_eq_true rfl) (fun v63 h63 hP => ?_)
        refine v_istore_5 R dX10_bestWay_66 (by decide) rfl ?_
        refine v_iload_5 R dX10_bestWay_68 ?_
        refine v_iload_2 R dX10_bestWay_70 ?_
        refine jn_v (fun K => ∀ (y80_1 : Int32) (y80_2 : Int32), K y80_1 y80_2 → V 80 [some (.ref (φ 0)), some (.int y80_1), some (.int y80_2), some (.int a3), none, none] [] h63) ?_ ?_ hP
        · intro y80_1 y80_2 hP
          refine v_iincL_3 R (1 : Int32) dX10_bestWay_80 (by decide) rfl (by decide) hP (fun x80 hP => ?_)
          refine v_goto (tgt := 27) R dX10_bestWay_83 (by decide) ?_
          exact ih y80_1 y80_2 x80 h63 hP
        · intro K J80 hP
          refine v_icmp_ge (tgt := 80) R dX10_bestWay_71 (by decide) (fun q71 => ?_) (fun q71 => ?_)
          · have hP := hP.1 q71
            refine v_wk R [some (.ref (φ 0)), some (.int a1), some (.int a2), some (.int a3), none, none] ⟨rfl, ⟨rfl, ⟨rfl, ⟨rfl, trivial⟩⟩⟩⟩ ?_
            exact J80 a1 a2 hP
          · have hP := hP.2 q71
            refine v_iload_5 R dX10_bestWay_74 ?_
            refine v_istore_2 R dX10_bestWay_76 (by decide) rfl ?_
            refine v_iload_4 R dX10_bestWay_77 ?_
            refine v_istore_1 R dX10_bestWay_79 (by decide) rfl ?_
            refine v_wk R [some (.ref (φ 0)), some (.int v55), some (.int v63), some (.int a3), none, none] ⟨rfl, ⟨rfl, ⟨rfl, ⟨rfl, trivial⟩⟩⟩⟩ ?_
            exact J80 v55 v63 hP
set_option maxRecDepth 100000 in
set_option maxHeartbeats 4000000 in
theorem c_Fe_bestWay {l : Launch} {D : va_G} {cs : Nat → ClassId} {φ : Nat → Nat} {h : Hp} {P : Int32 → Hp → Prop} (hP : wp_Fe_bestWay h P) : Ct l D cs φ M_Fe_bestWay [.ref (φ 0)] h (fun rv h2 => ∃ v, rv = some (.int v) ∧ P v h2) := by
  refine Ct.of (lc := [some (.ref (φ 0)), none, none, none, none, none]) RX10 4 100 rfl (by decide +kernel) rfl (Nat.le_of_ble_eq_true rfl) rfl rfl (fun V R RI RV => ?_)
  have R : Ru l D cs φ RX10 cX10_bestWay 6 4 100 V := R
  have Rt : ∀ pc lc v h, decode cX10_bestWay pc = .ok (.ireturn, 1) → P v h → V pc lc [.int v] h := fun pc lc v h hd hp => RI pc lc _ .int h rfl rfl hd ⟨v, rfl, hp⟩
  unfold wp_Fe_bestWay at hP
  refine v_aload_0 R dX10_bestWay_0 ?_
  refine g_Fe_ways R dX10_bestWay_1 fl_X10_83 ?_
  refine cV0_vw R dX10_bestWay_4 (c_Ways_start hP) rc_Ways ml_X10_362 mv_Ways_start (by decide) (Nat.le_of_ble_eq_true rfl) (fun h4 hP => ?_)
  refine v_aload_0 R dX10_bestWay_7 ?_
  refine g_Fe_ways R dX10_bestWay_8 fl_X10_83 ?_
  refine v_aload_0 R dX10_bestWay_11 ?_
  refine g_Fe_wires R dX10_bestWay_12 fl_X10_108 ?_
  refine cV1_ir R dX10_bestWay_15 (c_Ways_row hP) rc_Ways ml_X10_363 mv_Ways_row (by decide) (Nat.le_of_ble_eq_true rfl) (fun v15 hP => ?_)
  refine v_istore_1 R dX10_bestWay_18 (by decide) rfl ?_
  refine v_aload_0 R dX10_bestWay_19 ?_
  refine v_iload_1 R dX10_bestWay_20 ?_
  refine cV1_iw R dX10_bestWay_21 (c_Fe_leftByWay hP) rc_Fe ml_X10_264 mv_Fe_leftByWay (by decide) (Nat.le_of_ble_eq_true rfl) (fun v21 h21 hP => ?_)
  refine v_istore_2 R dX10_bestWay_24 (by decide) rfl ?_
  refine v_iconst R dX10_bestWay_25 (v := (0 : Int32)) (by decide) ?_
  refine v_istore_3 R dX10_bestWay_26 (by decide) rfl ?_
  obtain ⟨n27, hP⟩ := hP
  refine L_Fe_bestWay_27 R ?_ n27 _ _ _ _ hP
  intro w27_1 h27x hP
  refine v_iload_1 R dX10_bestWay_86 ?_
  exact Rt _ _ _ _ dX10_bestWay_87 hP
set_option maxRecDepth 100000 in
set_option maxHeartbeats 4000000 in
theorem c_Fe_ties {l : Launch} {D : va_G} {cs : Nat → ClassId} {φ : Nat → Nat} {p0 : Int32} {h : Hp} {P : Int32 → Hp → Prop} (hP : wp_Fe_ties p0 h P) : Ct l D cs φ M_Fe_ties [.ref (φ 0), .int p0] h (fun rv h2 => ∃ v, rv = some (.int v) ∧ P v h2) := by
  refine Ct.of (lc := [some (.ref (φ 0)), some (.int p0), none]) RX10 5 125 rfl (by decide +kernel) rfl (Nat.le_of_ble_eq_true rfl) rfl rfl (fun V R RI RV => ?_)
  have R : Ru l D cs φ RX10 cX10_ties 3 5 125 V := R
  have Rt : ∀ pc lc v h, decode cX10_ties pc = .ok (.ireturn, 1) → P v h → V pc lc [.int v] h := fun pc lc v h hd hp => RI pc lc _ .int h rfl rfl hd ⟨v, rfl, hp⟩
  unfold wp_Fe_ties at hP
  refine v_iload_1 R dX10_ties_0 ?_
  refine v_iconst R dX10_ties_1 (v := (-1 : Int32)) (by decide) ?_
  refine jn_v (fun K => K → V 16 [some (.ref (φ 0)), some (.int p0), none] [] h) ?_ ?_ hP
  · intro hP
    refine v_aload_0 R dX10_ties_16 ?_
    refine g_Fe_wires R dX10_ties_17 fl_X10_108 ?_
    refine v_if_ne (tgt := 26) R dX10_ties_20 (by decide) (fun q20 => ?_) (fun q20 => ?_)
    · have hP := hP.1 q20
      refine v_aload_0 R dX10_ties_26 ?_
      refine cV0_iw R dX10_ties_27 (c_Fe_bestWay hP) rc_Fe ml_X10_261 mv_Fe_bestWay (by decide) (Nat.le_of_ble_eq_true rfl) (fun v27 h27 hP => ?_)
      refine v_istore_2 R dX10_ties_30 (by decide) rfl ?_
      refine v_iload_1 R dX10_ties_31 ?_
      refine v_iconst R dX10_ties_32 (v := (-1 : Int32)) (by decide) ?_
      refine v_icmp_ne (tgt := 44) R dX10_ties_33 (by decide) (fun q33 => ?_) (fun q33 => ?_)
      · have hP := hP.1 q33
        refine v_iload_2 R dX10_ties_44 ?_
        refine v_iload_1 R dX10_ties_45 ?_
        refine cS2_ir R dX10_ties_46 (c_Fe_part hP) ml_X10_182 mv_Fe_part (by decide) (Nat.le_of_ble_eq_true rfl) (fun v46 hP => ?_)
        refine v_iconst R dX10_ties_49 (v := (1 : Int32)) (by decide) ?_
        refine v_isub R dX10_ties_50 ?_
        exact Rt _ _ _ _ dX10_ties_51 hP
      · have hP := hP.2 q33
        refine v_aload_0 R dX10_ties_36 ?_
        refine v_iload_2 R dX10_ties_37 ?_
        refine cV1_iw R dX10_ties_38 (c_Fe_leftByWay hP) rc_Fe ml_X10_264 mv_Fe_leftByWay (by decide) (Nat.le_of_ble_eq_true rfl) (fun v38 h38 hP => ?_)
        refine v_goto (tgt := 51) R dX10_ties_41 (by decide) ?_
        exact Rt _ _ _ _ dX10_ties_51 hP
    · have hP := hP.2 q20
      refine v_ldc R dX10_ties_23 ct_X10_231 ?_
      exact Rt _ _ _ _ dX10_ties_25 hP
  · intro K J16 hP
    refine v_icmp_eq (tgt := 16) R dX10_ties_2 (by decide) (fun q2 => ?_) (fun q2 => ?_)
    · have hP := hP.1 q2
      exact J16 hP
    · have hP := hP.2 q2
      refine v_aload_0 R dX10_ties_5 ?_
      refine v_iload_1 R dX10_ties_6 ?_
      refine cV1_br R dX10_ties_7 (c_Fe_isNumber hP) rc_Fe ml_X10_177 mv_Fe_isNumber (by decide) (Nat.le_of_ble_eq_true rfl) (fun v7 hP => ?_)
      refine v_ifb_ne (tgt := 16) R dX10_ties_10 (by decide) (fun q10 => ?_) (fun q10 => ?_)
      · have hP := hP.1 q10
        exact J16 hP
      · have hP := hP.2 q10
        refine v_ldc R dX10_ties_13 ct_X10_180 ?_
        exact Rt _ _ _ _ dX10_ties_15 hP
set_option maxRecDepth 100000 in
set_option maxHeartbeats 4000000 in
theorem L_Fe_dry_30 {l : Launch} {D : va_G} {cs : Nat → ClassId} {φ : Nat → Nat} {V : Nat → List (Option Value) → List Value → Hp → Prop} {a1 a2 : Int32} {h : Hp} {E : Int64 → Prop} (R : Ru l D cs φ RX10 cX10_dry 6 0 0 V) (hE : ∀ (a3 : Int64), E a3 → V 51 [none, none, none, some (.long a3), none, none] [] h) : ∀ (n : Nat) (a3 : Int64) (a5 : Int32), lp_Fe_dry_30 n a1 a2 a3 a5 E → V 30 [none, some (.int a1), some (.int a2), some (.long a3), none, some (.int a5)] [] h := by
  intro n
  induction n with
  | zero => intro a3 a5 hP; exact hP.elim
  | succ n ih =>
    intro a3 a5 hP
    unfold lp_Fe_dry_30 at hP
    refine v_iload_5 R dX10_dry_30 ?_
    refine v_iload_1 R dX10_dry_32 ?_
    refine v_icmp_ge (tgt := 51) R dX10_dry_33 (by decide) (fun q33 => ?_) (fun q33 => ?_)
    · have hP := hP.1 q33
      refine v_wk R [none, none, none, some (.long a3), none, none] ⟨rfl, trivial⟩ ?_
      exact hE a3 hP
    · have hP := hP.2 q33
      refine v_lload_3 R dX10_dry_36 ?_
      refine v_iload_2 R dX10_dry_37 ?_
      refine v_i2l R dX10_dry_38 ?_
      refine v_lmul R dX10_dry_39 ?_
      refine v_ldc2 R dX10_dry_40 ct_X10_269 ?_
      refine v_ldiv R dX10_dry_43 (by decide) ?_
      refine v_lstoreL_3 R dX10_dry_44 (by decide) rfl hP (fun x44 hP => ?_)
      refine v_iincL_5 R (1 : Int32) dX10_dry_45 (by decide) rfl (by decide) hP (fun x45 hP => ?_)
      refine v_goto (tgt := 30) R dX10_dry_48 (by decide) ?_
      exact ih x44 x45 hP
set_option maxRecDepth 100000 in
set_option maxHeartbeats 4000000 in
theorem c_Fe_dry {l : Launch} {D : va_G} {cs : Nat → ClassId} {φ : Nat → Nat} {p0 p1 : Int32} {h : Hp} {P : Int32 → Prop} (hP : wp_Fe_dry p0 p1 P) : Ct l D cs φ M_Fe_dry [.ref (φ 0), .int p0, .int p1] h (fun rv h2 => ∃ v, rv = some (.int v) ∧ h2 = h ∧ P v) := by
  refine Ct.of (lc := [some (.ref (φ 0)), some (.int p0), some (.int p1), none, none, none]) RX10 0 0 rfl (by decide +kernel) rfl (Nat.le_of_ble_eq_true rfl) rfl rfl (fun V R RI RV => ?_)
  have R : Ru l D cs φ RX10 cX10_dry 6 0 0 V := R
  have Rt : ∀ pc lc v, decode cX10_dry pc = .ok (.ireturn, 1) → P v → V pc lc [.int v] h := fun pc lc v hd hp => RI pc lc _ .int h rfl rfl hd ⟨v, rfl, rfl, hp⟩
  unfold wp_Fe_dry at hP
  refine v_iload_1 R dX10_dry_0 ?_
  refine v_if_lt (tgt := 20) R dX10_dry_1 (by decide) (fun q1 => ?_) (fun q1 => ?_)
  · have hP := hP.1 q1
    refine v_ldc R dX10_dry_20 ct_X10_89 ?_
    exact Rt _ _ _ dX10_dry_22 hP
  · have hP := hP.2 q1
    refine v_iload_1 R dX10_dry_4 ?_
    refine v_bipush R dX10_dry_5 (v := (60 : Int32)) (by decide) ?_
    refine v_icmp_gt (tgt := 20) R dX10_dry_7 (by decide) (fun q7 => ?_) (fun q7 => ?_)
    · have hP := hP.1 q7
      refine v_ldc R dX10_dry_20 ct_X10_89 ?_
      exact Rt _ _ _ dX10_dry_22 hP
    · have hP := hP.2 q7
      refine v_iload_2 R dX10_dry_10 ?_
      refine v_if_lt (tgt := 20) R dX10_dry_11 (by decide) (fun q11 => ?_) (fun q11 => ?_)
      · have hP := hP.1 q11
        refine v_ldc R dX10_dry_20 ct_X10_89 ?_
        exact Rt _ _ _ dX10_dry_22 hP
      · have hP := hP.2 q11
        refine v_iload_2 R dX10_dry_14 ?_
        refine v_bipush R dX10_dry_15 (v := (100 : Int32)) (by decide) ?_
        refine v_icmp_le (tgt := 23) R dX10_dry_17 (by decide) (fun q17 => ?_) (fun q17 => ?_)
        · have hP := hP.1 q17
          refine v_ldc2 R dX10_dry_23 ct_X10_267 ?_
          refine v_lstoreL_3 R dX10_dry_26 (by decide) rfl hP (fun x26 hP => ?_)
          refine v_iconst R dX10_dry_27 (v := (0 : Int32)) (by decide) ?_
          refine v_istore_5 R dX10_dry_28 (by decide) rfl ?_
          refine v_wk R [none, some (.int p0), some (.int p1), some (.long x26), none, some (.int (0 : Int32))] ⟨rfl, ⟨rfl, ⟨rfl, ⟨rfl, trivial⟩⟩⟩⟩ ?_
          obtain ⟨n30, hP⟩ := hP
          refine L_Fe_dry_30 R ?_ n30 _ _ hP
          intro w30_3 hP
          refine v_lload_3 R dX10_dry_51 ?_
          refine v_l2i R dX10_dry_52 ?_
          exact Rt _ _ _ dX10_dry_53 hP
        · have hP := hP.2 q17
          refine v_ldc R dX10_dry_20 ct_X10_89 ?_
          exact Rt _ _ _ dX10_dry_22 hP
