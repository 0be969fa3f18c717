set_option maxRecDepth 100000 in
set_option maxHeartbeats 4000000 in
theorem L_Fe_goodWires_15 {l : Launch} {D : va_G} {cs : Nat → ClassId} {φ : Nat → Nat} {V : Nat → List (Option Value) → List Value → Hp → Prop} {h : Hp} {E : Int32 → Prop} (R : Ru l D cs φ RX10 cX10_goodWires 4 4 91 V) (hE : ∀ (a1 : Int32), E a1 → V 61 [none, some (.int a1), none, none] [] h) : ∀ (n : Nat) (a1 : Int32) (a2 : Int32), lp_Fe_goodWires_15 n a1 a2 h E → V 15 [some (.ref (φ 0)), some (.int a1), some (.int a2), none] [] h := by
  intro n
  induction n with
  | zero => intro a1 a2 hP; exact hP.elim
  | succ n ih =>
    intro a1 a2 hP
    unfold lp_Fe_goodWires_15 at hP
    refine v_iload_2 R dX10_goodWires_15 ?_
    refine v_aload_0 R dX10_goodWires_16 ?_
    refine g_Fe_wires R dX10_goodWires_17 fl_X10_108 ?_
    refine v_icmp_ge (tgt := 61) R dX10_goodWires_20 (by decide) (fun q20 => ?_) (fun q20 => ?_)
    · have hP := hP.1 q20
      refine v_wk R [none, some (.int a1), none, none] ⟨rfl, trivial⟩ ?_
      exact hE a1 hP
    · have hP := hP.2 q20
      refine v_iload_2 R dX10_goodWires_23 ?_
      refine v_iconst R dX10_goodWires_24 (v := (5 : Int32)) (by decide) ?_
      refine v_icmp_ge (tgt := 61) R dX10_goodWires_25 (by decide) (fun q25 => ?_) (fun q25 => ?_)
      · have hP := hP.1 q25
        refine v_wk R [none, some (.int a1), none, none] ⟨rfl, trivial⟩ ?_
        exact hE a1 hP
      · have hP := hP.2 q25
        refine v_aload_0 R dX10_goodWires_28 ?_
        refine g_Fe_order R dX10_goodWires_29 fl_X10_16 ?_
        refine v_iload_2 R dX10_goodWires_32 ?_
        obtain ⟨hi33, hP⟩ := hP
        refine v_iald R dX10_goodWires_33 rfl hi33 ?_
        refine v_istoreL_3 R dX10_goodWires_34 (by decide) rfl hP (fun x34 hP => ?_)
        refine v_aload_0 R dX10_goodWires_35 ?_
        refine g_Fe_nets R dX10_goodWires_36 fl_X10_62 ?_
        refine v_iload_3 R dX10_goodWires_39 ?_
        refine v_iconst R dX10_goodWires_40 (v := (5 : Int32)) (by decide) ?_
        refine v_iload_2 R dX10_goodWires_41 ?_
        refine v_iadd R dX10_goodWires_42 ?_
        refine cV2_br R dX10_goodWires_43 (c_Nets_areJoined rfl hP) (rc_Nets rfl) ml_X10_304 mv_Nets_areJoined (by decide) (Nat.le_of_ble_eq_true rfl) (fun v43 hP => ?_)
        refine jn_v (fun K => ∀ (y55_1 : Int32), K y55_1 → V 55 [some (.ref (φ 0)), some (.int y55_1), some (.int a2), none] [] h) ?_ ?_ hP
        · intro y55_1 hP
          refine v_iincL_2 R (1 : Int32) dX10_goodWires_55 (by decide) rfl (by decide) hP (fun x55 hP => ?_)
          refine v_goto (tgt := 15) R dX10_goodWires_58 (by decide) ?_
          exact ih y55_1 x55 hP
        · intro K J55 hP
          refine v_ifb_eq (tgt := 55) R dX10_goodWires_46 (by decide) (fun q46 => ?_) (fun q46 => ?_)
          · have hP := hP.1 q46
            refine v_wk R [some (.ref (φ 0)), some (.int a1), some (.int a2), none] ⟨rfl, ⟨rfl, ⟨rfl, trivial⟩⟩⟩ ?_
            exact J55 a1 hP
          · have hP := hP.2 q46
            refine v_iload_1 R dX10_goodWires_49 ?_
            refine v_iconst R dX10_goodWires_50 (v := (1 : Int32)) (by decide) ?_
            refine v_iload_3 R dX10_goodWires_51 ?_
            refine v_ishl R dX10_goodWires_52 ?_
            refine v_ior R dX10_goodWires_53 ?_
            refine v_istoreL_1 R dX10_goodWires_54 (by decide) rfl hP (fun x54 hP => ?_)
            refine v_wk R [some (.ref (φ 0)), some (.int x54), some (.int a2), none] ⟨rfl, ⟨rfl, ⟨rfl, trivial⟩⟩⟩ ?_
            exact J55 x54 hP
set_option maxRecDepth 100000 in
set_option maxHeartbeats 4000000 in
theorem c_Fe_goodWires {l : Launch} {D : va_G} {cs : Nat → ClassId} {φ : Nat → Nat} {h : Hp} {P : Int32 → Hp → Prop} (hP : wp_Fe_goodWires h P) : Ct l D cs φ M_Fe_goodWires [.ref (φ 0)] h (fun rv h2 => ∃ v, rv = some (.int v) ∧ P v h2) := by
  refine Ct.of (lc := [some (.ref (φ 0)), none, none, none]) RX10 4 91 rfl (by decide +kernel) rfl (Nat.le_of_ble_eq_true rfl) rfl rfl (fun V R RI RV => ?_)
  have R : Ru l D cs φ RX10 cX10_goodWires 4 4 91 V := R
  have Rt : ∀ pc lc v h, decode cX10_goodWires pc = .ok (.ireturn, 1) → P v h → V pc lc [.int v] h := fun pc lc v h hd hp => RI pc lc _ .int h rfl rfl hd ⟨v, rfl, hp⟩
  unfold wp_Fe_goodWires at hP
  refine v_aload_0 R dX10_goodWires_0 ?_
  refine v_aload_0 R dX10_goodWires_1 ?_
  refine g_Fe_now R dX10_goodWires_2 fl_X10_23 ?_
  refine g_State_kinds R dX10_goodWires_5 fl_X10_181 rfl ?_
  refine cV1_vw R dX10_goodWires_8 (c_Fe_joinAll hP) rc_Fe ml_X10_204 mv_Fe_joinAll (by decide) (Nat.le_of_ble_eq_true rfl) (fun h8 hP => ?_)
  refine v_iconst R dX10_goodWires_11 (v := (0 : Int32)) (by decide) ?_
  refine v_istore_1 R dX10_goodWires_12 (by decide) rfl ?_
  refine v_iconst R dX10_goodWires_13 (v := (0 : Int32)) (by decide) ?_
  refine v_istore_2 R dX10_goodWires_14 (by decide) rfl ?_
  obtain ⟨n15, hP⟩ := hP
  refine L_Fe_goodWires_15 R ?_ n15 _ _ hP
  intro w15_1 hP
  refine v_iload_1 R dX10_goodWires_61 ?_
  exact Rt _ _ _ _ dX10_goodWires_62 hP
set_option maxRecDepth 100000 in
set_option maxHeartbeats 4000000 in
theorem L_Guess_clear_7 {l : Launch} {D : va_G} {cs : Nat → ClassId} {φ : Nat → Nat} {V : Nat → List (Option Value) → List Value → Hp → Prop} {E : Hp → Prop} (R : Ru l D cs φ RX1 cX1_clear 2 0 0 V) (hE : ∀ (h : Hp), E h → V 32 [some (.ref (φ 5)), none] [] h) : ∀ (n : Nat) (a1 : Int32) (h : Hp), lp_Guess_clear_7 n a1 h E → V 7 [some (.ref (φ 5)), some (.int a1)] [] h := by
  intro n
  induction n with
  | zero => intro a1 h hP; exact hP.elim
  | succ n ih =>
    intro a1 h hP
    unfold lp_Guess_clear_7 at hP
    refine v_iload_1 R dX1_clear_7 ?_
    refine v_iconst R dX1_clear_8 (v := (5 : Int32)) (by decide) ?_
    refine v_icmp_ge (tgt := 32) R dX1_clear_9 (by decide) (fun q9 => ?_) (fun q9 => ?_)
    · have hP := hP.1 q9
      refine v_wk R [some (.ref (φ 5)), none] ⟨rfl, trivial⟩ ?_
      exact hE h hP
    · have hP := hP.2 q9
      refine v_aload_0 R dX1_clear_12 ?_
      refine g_Guess_sets R dX1_clear_13 fl_X1_9 ?_
      refine v_iload_1 R dX1_clear_16 ?_
      refine v_iconst R dX1_clear_17 (v := (0 : Int32)) (by decide) ?_
      obtain ⟨hi18, hP⟩ := hP
      refine v_iastL R dX1_clear_18 rfl hi18 hP (fun h18 hP => ?_)
      refine v_aload_0 R dX1_clear_19 ?_
      refine g_Guess_first R dX1_clear_20 fl_X1_15 ?_
      refine v_iload_1 R dX1_clear_23 ?_
      refine v_iconst R dX1_clear_24 (v := (-1 : Int32)) (by decide) ?_
      obtain ⟨hi25, hP⟩ := hP
      refine v_iastL R dX1_clear_25 rfl hi25 hP (fun h25 hP => ?_)
      refine v_iincL_1 R (1 : Int32) dX1_clear_26 (by decide) rfl (by decide) hP (fun x26 hP => ?_)
      refine v_goto (tgt := 7) R dX1_clear_29 (by decide) ?_
      exact ih x26 h25 hP
set_option maxRecDepth 100000 in
set_option maxHeartbeats 4000000 in
theorem L_Guess_clear_34 {l : Launch} {D : va_G} {cs : Nat → ClassId} {φ : Nat → Nat} {V : Nat → List (Option Value) → List Value → Hp → Prop} {E : Hp → Prop} (R : Ru l D cs φ RX1 cX1_clear 2 0 0 V) (hE : ∀ (h : Hp), E h → V 56 [none, none] [] h) : ∀ (n : Nat) (a1 : Int32) (h : Hp), lp_Guess_clear_34 n a1 h E → V 34 [some (.ref (φ 5)), some (.int a1)] [] h := by
  intro n
  induction n with
  | zero => intro a1 h hP; exact hP.elim
  | succ n ih =>
    intro a1 h hP
    unfold lp_Guess_clear_34 at hP
    refine v_iload_1 R dX1_clear_34 ?_
    refine v_aload_0 R dX1_clear_35 ?_
    refine g_Guess_ringing R dX1_clear_36 fl_X1_18 ?_
    refine v_alen R dX1_clear_39 rfl ?_
    refine v_icmp_ge (tgt := 56) R dX1_clear_40 (by decide) (fun q40 => ?_) (fun q40 => ?_)
    · have hP := hP.1 q40
      refine v_wk R [none, none] trivial ?_
      exact hE h hP
    · have hP := hP.2 q40
      refine v_aload_0 R dX1_clear_43 ?_
      refine g_Guess_ringing R dX1_clear_44 fl_X1_18 ?_
      refine v_iload_1 R dX1_clear_47 ?_
      refine v_iconst R dX1_clear_48 (v := (0 : Int32)) (by decide) ?_
      obtain ⟨hi49, hP⟩ := hP
      refine v_iastL R dX1_clear_49 rfl hi49 hP (fun h49 hP => ?_)
      refine v_iincL_1 R (1 : Int32) dX1_clear_50 (by decide) rfl (by decide) hP (fun x50 hP => ?_)
      refine v_goto (tgt := 34) R dX1_clear_53 (by decide) ?_
      exact ih x50 h49 hP
set_option maxRecDepth 100000 in
set_option maxHeartbeats 4000000 in
theorem c_Guess_clear {l : Launch} {D : va_G} {cs : Nat → ClassId} {φ : Nat → Nat} {h : Hp} {P : Hp → Prop} (hP : wp_Guess_clear h P) : Ct l D cs φ M_Guess_clear [.ref (φ 5)] h (fun rv h2 => rv = none ∧ P h2) := by
  refine Ct.of (lc := [some (.ref (φ 5)), none]) RX1 0 0 rfl (by decide +kernel) rfl (Nat.le_of_ble_eq_true rfl) rfl rfl (fun V R RI RV => ?_)
  have R : Ru l D cs φ RX1 cX1_clear 2 0 0 V := R
  have Rt : ∀ pc lc h, decode cX1_clear pc = .ok (.return_, 1) → P h → V pc lc [] h := fun pc lc h hd hp => RV pc lc h rfl hd ⟨rfl, hp⟩
  unfold wp_Guess_clear at hP
  refine v_aload_0 R dX1_clear_0 ?_
  refine v_iconst R dX1_clear_1 (v := (0 : Int32)) (by decide) ?_
  refine p_Guess_count R dX1_clear_2 fl_X1_21 hP (fun h2 hP => ?_)
  refine v_iconst R dX1_clear_5 (v := (0 : Int32)) (by decide) ?_
  refine v_istore_1 R dX1_clear_6 (by decide) rfl ?_
  obtain ⟨n7, hP⟩ := hP
  refine L_Guess_clear_7 R ?_ n7 _ _ hP
  intro h7x hP
  refine v_iconst R dX1_clear_32 (v := (0 : Int32)) (by decide) ?_
  refine v_istore_1 R dX1_clear_33 (by decide) rfl ?_
  obtain ⟨n34, hP⟩ := hP
  refine L_Guess_clear_34 R ?_ n34 _ _ hP
  intro h34x hP
  exact Rt _ _ _ dX1_clear_56 hP
set_option maxRecDepth 100000 in
set_option maxHeartbeats 4000000 in
theorem c_Seen_lay {l : Launch} {D : va_G} {cs : Nat → ClassId} {φ : Nat → Nat} {r : Nat} {p0 p1 : Int32} {h : Hp} {P : Hp → Prop} (hk_r : kd r = 10) (hP : wp_Seen_lay r p0 p1 h P) : Ct l D cs φ M_Seen_lay [.ref (φ r), .int p0, .int p1] h (fun rv h2 => rv = none ∧ P h2) := by
  refine Ct.of (lc := [some (.ref (φ r)), some (.int p0), some (.int p1)]) RX7 3 70 rfl (by decide +kernel) rfl (Nat.le_of_ble_eq_true rfl) rfl rfl (fun V R RI RV => ?_)
  have R : Ru l D cs φ RX7 cX7_lay 3 3 70 V := R
  have Rt : ∀ pc lc h, decode cX7_lay pc = .ok (.return_, 1) → P h → V pc lc [] h := fun pc lc h hd hp => RV pc lc h rfl hd ⟨rfl, hp⟩
  unfold wp_Seen_lay at hP
  refine v_aload_0 R dX7_lay_0 ?_
  refine g_Seen_nets R dX7_lay_1 fl_X7_10 hk_r ?_
  refine v_iload_1 R dX7_lay_4 ?_
  refine v_iload_2 R dX7_lay_5 ?_
  refine v_aload_0 R dX7_lay_6 ?_
  refine g_Seen_nearTies R dX7_lay_7 fl_X7_22 hk_r ?_
  refine v_aload_0 R dX7_lay_10 ?_
  refine g_Seen_farTies R dX7_lay_11 fl_X7_26 hk_r ?_
  refine cV4_vw R dX7_lay_14 (c_Nets_lay (kd_sn hk_r) hP) (rc_Nets (kd_sn hk_r)) ml_X7_43 mv_Nets_lay (by decide) (Nat.le_of_ble_eq_true rfl) (fun h14 hP => ?_)
  refine v_aload_0 R dX7_lay_17 ?_
  refine v_iload_1 R dX7_lay_18 ?_
  refine v_aload_0 R dX7_lay_19 ?_
  refine g_Seen_hour R dX7_lay_20 fl_X7_30 hk_r ?_
  refine cN2_ir R dX7_lay_23 (c_Fe_passing hP) mn_X7_47 mv_Fe_passing (by decide) (Nat.le_of_ble_eq_true rfl) (fun v23 hP => ?_)
  refine p_Seen_passing R dX7_lay_26 fl_X7_53 hk_r hP (fun h26 hP => ?_)
  exact Rt _ _ _ dX7_lay_29 hP
set_option maxRecDepth 100000 in
set_option maxHeartbeats 4000000 in
theorem L_Fe_layAllSeen_2 {l : Launch} {D : va_G} {cs : Nat → ClassId} {φ : Nat → Nat} {V : Nat → List (Option Value) → List Value → Hp → Prop} {E : Hp → Prop} (R : Ru l D cs φ RX10 cX10_layAllSeen 2 4 92 V) (hE : ∀ (h : Hp), E h → V 45 [none, none] [] h) : ∀ (n : Nat) (a1 : Int32) (h : Hp), lp_Fe_layAllSeen_2 n a1 h E → V 2 [some (.ref (φ 0)), some (.int a1)] [] h := by
  intro n
  induction n with
  | zero => intro a1 h hP; exact hP.elim
  | succ n ih =>
    intro a1 h hP
    unfold lp_Fe_layAllSeen_2 at hP
    refine v_iload_1 R dX10_layAllSeen_2 ?_
    refine v_aload_0 R dX10_layAllSeen_3 ?_
    refine g_Fe_seenCount R dX10_layAllSeen_4 fl_X10_133 ?_
    refine v_icmp_ge (tgt := 45) R dX10_layAllSeen_7 (by decide) (fun q7 => ?_) (fun q7 => ?_)
    · have hP := hP.1 q7
      refine v_wk R [none, none] trivial ?_
      exact hE h hP
    · have hP := hP.2 q7
      refine v_iload_1 R dX10_layAllSeen_10 ?_
      refine v_bipush R dX10_layAllSeen_11 (v := (8 : Int32)) (by decide) ?_
      refine v_icmp_ge (tgt := 45) R dX10_layAllSeen_13 (by decide) (fun q13 => ?_) (fun q13 => ?_)
      · have hP := hP.1 q13
        refine v_wk R [none, none] trivial ?_
        exact hE h hP
      · have hP := hP.2 q13
        refine v_aload_0 R dX10_layAllSeen_16 ?_
        refine g_Fe_seen R dX10_layAllSeen_17 fl_X10_49 ?_
        refine v_iload_1 R dX10_layAllSeen_20 ?_
        obtain ⟨hi21, hP⟩ := hP
        refine v_aald_66 R dX10_layAllSeen_21 hi21 ?_
        refine v_aload_0 R dX10_layAllSeen_22 ?_
        refine g_Fe_now R dX10_layAllSeen_23 fl_X10_23 ?_
        refine g_State_kinds R dX10_layAllSeen_26 fl_X10_181 rfl ?_
        refine v_aload_0 R dX10_layAllSeen_29 ?_
        refine g_Fe_now R dX10_layAllSeen_30 fl_X10_23 ?_
        refine g_State_touching R dX10_layAllSeen_33 fl_X10_154 rfl ?_
        refine cV2_vw R dX10_layAllSeen_36 (c_Seen_lay (kd_66 hi21) hP) (rc_Seen (kd_66 hi21)) ml_X10_313 mv_Seen_lay (by decide) (Nat.le_of_ble_eq_true rfl) (fun h36 hP => ?_)
        refine v_iincL_1 R (1 : Int32) dX10_layAllSeen_39 (by decide) rfl (by decide) hP (fun x39 hP => ?_)
        refine v_goto (tgt := 2) R dX10_layAllSeen_42 (by decide) ?_
        exact ih x39 h36 hP
set_option maxRecDepth 100000 in
set_option maxHeartbeats 4000000 in
theorem c_Fe_layAllSeen {l : Launch} {D : va_G} {cs : Nat → ClassId} {φ : Nat → Nat} {h : Hp} {P : Hp → Prop} (hP : wp_Fe_layAllSeen h P) : Ct l D cs φ M_Fe_layAllSeen [.ref (φ 0)] h (fun rv h2 => rv = none ∧ P h2) := by
  refine Ct.of (lc := [some (.ref (φ 0)), none]) RX10 4 92 rfl (by decide +kernel) rfl (Nat.le_of_ble_eq_true rfl) rfl rfl (fun V R RI RV => ?_)
  have R : Ru l D cs φ RX10 cX10_layAllSeen 2 4 92 V := R
  have Rt : ∀ pc lc h, decode cX10_layAllSeen pc = .ok (.return_, 1) → P h → V pc lc [] h := fun pc lc h hd hp => RV pc lc h rfl hd ⟨rfl, hp⟩
  unfold wp_Fe_layAllSeen at hP
  refine v_iconst R dX10_layAllSeen_0 (v := (0 : Int32)) (by decide) ?_
  refine v_istore_1 R dX10_layAllSeen_1 (by decide) rfl ?_
  obtain ⟨n2, hP⟩ := hP
  refine L_Fe_layAllSeen_2 R ?_ n2 _ _ hP
  intro h2x hP
  exact Rt _ _ _ dX10_layAllSeen_45 hP
set_option maxRecDepth 100000 in
set_option maxHeartbeats 4000000 in
theorem L_Orders_start_2 {l : Launch} {D : va_G} {cs : Nat → ClassId} {φ : Nat → Nat} {V : Nat → List (Option Value) → List Value → Hp → Prop} {E : Hp → Prop} (R : Ru l D cs φ RX4 cX4_start 2 0 0 V) (hE : ∀ (h : Hp), E h → V 20 [none, none] [] h) : ∀ (n : Nat) (a1 : Int32) (h : Hp), lp_Orders_start_2 n a1 h E → V 2 [some (.ref (φ 4)), some (.int a1)] [] h := by
  intro n
  induction n with
  | zero => intro a1 h hP; exact hP.elim
  | succ n ih =>
    intro a1 h hP
    unfold lp_Orders_start_2 at hP
    refine v_iload_1 R dX4_start_2 ?_
    refine v_iconst R dX4_start_3 (v := (5 : Int32)) (by decide) ?_
    refine v_icmp_ge (tgt := 20) R dX4_start_4 (by decide) (fun q4 => ?_) (fun q4 => ?_)
    · have hP := hP.1 q4
      refine v_wk R [none, none] trivial ?_
      exact hE h hP
    · have hP := hP.2 q4
      refine v_aload_0 R dX4_start_7 ?_
      refine g_Orders_wireOf R dX4_start_8 fl_X4_9 ?_
      refine v_iload_1 R dX4_start_11 ?_
      refine v_iload_1 R dX4_start_12 ?_
      obtain ⟨hi13, hP⟩ := hP
      refine v_iastL R dX4_start_13 rfl hi13 hP (fun h13 hP => ?_)
      refine v_iincL_1 R (1 : Int32) dX4_start_14 (by decide) rfl (by decide) hP (fun x14 hP => ?_)
      refine v_goto (tgt := 2) R dX4_start_17 (by decide) ?_
      exact ih x14 h13 hP
set_option maxRecDepth 100000 in
set_option maxHeartbeats 4000000 in
theorem c_Orders_start {l : Launch} {D : va_G} {cs : Nat → ClassId} {φ : Nat → Nat} {h : Hp} {P : Hp → Prop} (hP : wp_Orders_start h P) : Ct l D cs φ M_Orders_start [.ref (φ 4)] h (fun rv h2 => rv = none ∧ P h2) := by
  refine Ct.of (lc := [some (.ref (φ 4)), none]) RX4 0 0 rfl (by decide +kernel) rfl (Nat.le_of_ble_eq_true rfl) rfl rfl (fun V R RI RV => ?_)
  have R : Ru l D cs φ RX4 cX4_start 2 0 0 V := R
  have Rt : ∀ pc lc h, decode cX4_start pc = .ok (.return_, 1) → P h → V pc lc [] h := fun pc lc h hd hp => RV pc lc h rfl hd ⟨rfl, hp⟩
  unfold wp_Orders_start at hP
  refine v_iconst R dX4_start_0 (v := (0 : Int32)) (by decide) ?_
  refine v_istore_1 R dX4_start_1 (by decide) rfl ?_
  obtain ⟨n2, hP⟩ := hP
  refine L_Orders_start_2 R ?_ n2 _ _ hP
  intro h2x hP
  exact Rt _ _ _ dX4_start_20 hP
set_option maxRecDepth 100000 in
set_option maxHeartbeats 4000000 in
theorem c_Fe_factorial {l : Launch} {D : va_G} {cs : Nat → ClassId} {φ : Nat → Nat} {p0 : Int32} {h : Hp} {P : Int32 → Prop} (hP : wp_Fe_factorial p0 h P) : Ct l D cs φ M_Fe_factorial [.int p0] h (fun rv h2 => ∃ v, rv = some (.int v) ∧ h2 = h ∧ P v) := by
  refine Ct.of (lc := [some (.int p0)]) RX10 0 0 rfl (by decide +kernel) rfl (Nat.le_of_ble_eq_true rfl) rfl rfl (fun V R RI RV => ?_)
  have R : Ru l D cs φ RX10 cX10_factorial 1 0 0 V := R
  have Rt : ∀ pc lc v, decode cX10_factorial pc = .ok (.ireturn, 1) → P v → V pc lc [.int v] h := fun pc lc v hd hp => RI pc lc _ .int h rfl rfl hd ⟨v, rfl, rfl, hp⟩
  unfold wp_Fe_factorial at hP
  refine v_iload_0 R dX10_factorial_0 ?_
  refine v_if_lt (tgt := 20) R dX10_factorial_1 (by decide) (fun q1 => ?_) (fun q1 => ?_)
  · have hP := hP.1 q1
    refine v_iconst R dX10_factorial_20 (v := (0 : Int32)) (by decide) ?_
    exact Rt _ _ _ dX10_factorial_21 hP
  · have hP := hP.2 q1
    refine v_iload_0 R dX10_factorial_4 ?_
    refine v_facget R dX10_factorial_5 fl_X10_293 ?_
    refine v_faclen R dX10_factorial_8 ?_
    refine v_icmp_ge (tgt := 20) R dX10_factorial_9 (by decide) (fun q9 => ?_) (fun q9 => ?_)
    · have hP := hP.1 q9
      refine v_iconst R dX10_factorial_20 (v := (0 : Int32)) (by decide) ?_
      exact Rt _ _ _ dX10_factorial_21 hP
    · have hP := hP.2 q9
      refine v_facget R dX10_factorial_12 fl_X10_293 ?_
      refine v_iload_0 R dX10_factorial_15 ?_
      obtain ⟨hi16, hP⟩ := hP
      refine v_facld R dX10_factorial_16 hi16 ?_
      refine v_goto (tgt := 21) R dX10_factorial_17 (by decide) ?_
      exact Rt _ _ _ dX10_factorial_21 hP
set_option maxRecDepth 100000 in
set_option maxHeartbeats 4000000 in
theorem c_Fe_countOrders {l : Launch} {D : va_G} {cs : Nat → ClassId} {φ : Nat → Nat} {h : Hp} {P : Int32 → Prop} (hP : wp_Fe_countOrders h P) : Ct l D cs φ M_Fe_countOrders [.ref (φ 0)] h (fun rv h2 => ∃ v, rv = some (.int v) ∧ h2 = h ∧ P v) := by
  refine Ct.of (lc := [some (.ref (φ 0))]) RX10 1 20 rfl (by decide +kernel) rfl (Nat.le_of_ble_eq_true rfl) rfl rfl (fun V R RI RV => ?_)
  have R : Ru l D cs φ RX10 cX10_countOrders 1 1 20 V := R
  have Rt : ∀ pc lc v, decode cX10_countOrders pc = .ok (.ireturn, 1) → P v → V pc lc [.int v] h := fun pc lc v hd hp => RI pc lc _ .int h rfl rfl hd ⟨v, rfl, rfl, hp⟩
  unfold wp_Fe_countOrders at hP
  refine v_aload_0 R dX10_countOrders_0 ?_
  refine g_Fe_wires R dX10_countOrders_1 fl_X10_108 ?_
  refine v_if_ne (tgt := 11) R dX10_countOrders_4 (by decide) (fun q4 => ?_) (fun q4 => ?_)
  · have hP := hP.1 q4
    refine v_aload_0 R dX10_countOrders_11 ?_
    refine g_Fe_wires R dX10_countOrders_12 fl_X10_108 ?_
    refine cS1_ir R dX10_countOrders_15 (c_Fe_factorial hP) ml_X10_310 mv_Fe_factorial (by decide) (Nat.le_of_ble_eq_true rfl) (fun v15 hP => ?_)
    exact Rt _ _ _ dX10_countOrders_18 hP
  · have hP := hP.2 q4
    refine v_iconst R dX10_countOrders_7 (v := (0 : Int32)) (by decide) ?_
    refine v_goto (tgt := 18) R dX10_countOrders_8 (by decide) ?_
    exact Rt _ _ _ dX10_countOrders_18 hP
set_option maxRecDepth 100000 in
set_option maxHeartbeats 4000000 in
theorem c_Seen_fits {l : Launch} {D : va_G} {cs : Nat → ClassId} {φ : Nat → Nat} {r c0 : Nat} {p1 : Int32} {h : Hp} {P : Bool → Hp → Prop} (hk_r : kd r = 10) (hk_c0 : kd c0 = 12) (hP : wp_Seen_fits r c0 p1 h P) : Ct l D cs φ M_Seen_fits [.ref (φ r), .ref (φ c0), .int p1] h (fun rv h2 => ∃ v, rv = some (.int (bI v)) ∧ P v h2) := by
  refine Ct.of (lc := [some (.ref (φ r)), some (.ref (φ c0)), some (.int p1)]) RX7 2 65 rfl (by decide +kernel) rfl (Nat.le_of_ble_eq_true rfl) rfl rfl (fun V R RI RV => ?_)
  have R : Ru l D cs φ RX7 cX7_fits 3 2 65 V := R
  have Rt : ∀ pc lc v h, decode cX7_fits pc = .ok (.ireturn, 1) → P v h → V pc lc [.int (bI v)] h := fun pc lc v h hd hp => RI pc lc _ .boolean h rfl (bI_n v) hd ⟨v, rfl, hp⟩
  unfold wp_Seen_fits at hP
  refine v_aload_0 R dX7_fits_0 ?_
  refine g_Seen_nets R dX7_fits_1 fl_X7_10 hk_r ?_
  refine v_aload_1 R dX7_fits_4 ?_
  refine v_iload_2 R dX7_fits_5 ?_
  refine v_aload_0 R dX7_fits_6 ?_
  refine g_Seen_passing R dX7_fits_7 fl_X7_53 hk_r ?_
  refine cV3_vw R dX7_fits_10 (c_Nets_join (kd_sn hk_r) hk_c0 hP) (rc_Nets (kd_sn hk_r)) ml_X7_55 mv_Nets_join (by decide) (Nat.le_of_ble_eq_true rfl) (fun h10 hP => ?_)
  refine v_aload_0 R dX7_fits_13 ?_
  refine g_Seen_nets R dX7_fits_14 fl_X7_10 hk_r ?_
  refine v_aload_0 R dX7_fits_17 ?_
  refine g_Seen_a R dX7_fits_18 fl_X7_33 hk_r ?_
  refine v_aload_0 R dX7_fits_21 ?_
  refine g_Seen_b R dX7_fits_22 fl_X7_36 hk_r ?_
  refine cV2_br R dX7_fits_25 (c_Nets_areJoined (kd_sn hk_r) hP) (rc_Nets (kd_sn hk_r)) ml_X7_59 mv_Nets_areJoined (by decide) (Nat.le_of_ble_eq_true rfl) (fun v25 hP => ?_)
  refine v_aload_0 R dX7_fits_28 ?_
  refine g_Seen_rang R dX7_fits_29 fl_X7_39 hk_r ?_
  refine v_icmp_ne (tgt := 39) R dX7_fits_32 (by decide) (fun q32 => ?_) (fun q32 => ?_)
  · have hP := hP.1 q32
    refine v_iconst R dX7_fits_39 (v := (0 : Int32)) (by decide) ?_
    exact Rt _ _ false _ dX7_fits_40 hP
  · have hP := hP.2 q32
    refine v_iconst R dX7_fits_35 (v := (1 : Int32)) (by decide) ?_
    refine v_goto (tgt := 40) R dX7_fits_36 (by decide) ?_
    exact Rt _ _ true _ dX7_fits_40 hP
set_option maxRecDepth 100000 in
set_option maxHeartbeats 4000000 in
theorem L_Fe_fitsAllSeen_2 {l : Launch} {D : va_G} {cs : Nat → ClassId} {φ : Nat → Nat} {V : Nat → List (Option Value) → List Value → Hp → Prop} {E : Hp → Prop} {P : Bool → Hp → Prop} (R : Ru l D cs φ RX10 cX10_fitsAllSeen 2 3 87 V) (hE : ∀ (h : Hp), E h → V 47 [none, none] [] h) (Rt : ∀ pc lc v h, decode cX10_fitsAllSeen pc = .ok (.ireturn, 1) → P v h → V pc lc [.int (bI v)] h) : ∀ (n : Nat) (a1 : Int32) (h : Hp), lp_Fe_fitsAllSeen_2 n a1 h E P → V 2 [some (.ref (φ 0)), some (.int a1)] [] h := by
  intro n
  induction n with
  | zero => intro a1 h hP; exact hP.elim
  | succ n ih =>
    intro a1 h hP
    unfold lp_Fe_fitsAllSeen_2 at hP
    refine v_iload_1 R dX10_fitsAllSeen_2 ?_
    refine v_aload_0 R dX10_fitsAllSeen_3 ?_
    refine g_Fe_seenCount R dX10_fitsAllSeen_4 fl_X10_133 ?_
    refine v_icmp_ge (tgt := 47) R dX10_fitsAllSeen_7 (by decide) (fun q7 => ?_) (fun q7 => ?_)
    · have hP := hP.1 q7
      refine v_wk R [none, none] trivial ?_
      exact hE h hP
    · have hP := hP.2 q7
      refine v_iload_1 R dX10_fitsAllSeen_10 ?_
      refine v_bipush R dX10_fitsAllSeen_11 (v := (8 : Int32)) (by decide) ?_
      refine v_icmp_ge (tgt := 47) R dX10_fitsAllSeen_13 (by decide) (fun q13 => ?_) (fun q13 => ?_)
      · have hP := hP.1 q13
        refine v_wk R [none, none] trivial ?_
        exact hE h hP
      · have hP := hP.2 q13
        refine v_aload_0 R dX10_fitsAllSeen_16 ?_
        refine g_Fe_seen R dX10_fitsAllSeen_17 fl_X10_49 ?_
        refine v_iload_1 R dX10_fitsAllSeen_20 ?_
        obtain ⟨hi21, hP⟩ := hP
        refine v_aald_66 R dX10_fitsAllSeen_21 hi21 ?_
        refine v_aload_0 R dX10_fitsAllSeen_22 ?_
        refine g_Fe_orders R dX10_fitsAllSeen_23 fl_X10_69 ?_
        refine g_Orders_wireOf R dX10_fitsAllSeen_26 fl_X10_315 ?_
        refine v_aload_0 R dX10_fitsAllSeen_29 ?_
        refine g_Fe_wires R dX10_fitsAllSeen_30 fl_X10_108 ?_
        refine cV2_bw R dX10_fitsAllSeen_33 (c_Seen_fits (kd_66 hi21) rfl hP) (rc_Seen (kd_66 hi21)) ml_X10_318 mv_Seen_fits (by decide) (Nat.le_of_ble_eq_true rfl) (fun v33 h33 hP => ?_)
        refine v_ifb_ne (tgt := 41) R dX10_fitsAllSeen_36 (by decide) (fun q36 => ?_) (fun q36 => ?_)
        · have hP := hP.1 q36
          refine v_iincL_1 R (1 : Int32) dX10_fitsAllSeen_41 (by decide) rfl (by decide) hP (fun x41 hP => ?_)
          refine v_goto (tgt := 2) R dX10_fitsAllSeen_44 (by decide) ?_
          exact ih x41 h33 hP
        · have hP := hP.2 q36
          refine v_iconst R dX10_fitsAllSeen_39 (v := (0 : Int32)) (by decide) ?_
          exact Rt _ _ false _ dX10_fitsAllSeen_40 hP
set_option maxRecDepth 100000 in
set_option maxHeartbeats 4000000 in
theorem c_Fe_fitsAllSeen {l : Launch} {D : va_G} {cs : Nat → ClassId} {φ : Nat → Nat} {h : Hp} {P : Bool → Hp → Prop} (hP : wp_Fe_fitsAllSeen h P) : Ct l D cs φ M_Fe_fitsAllSeen [.ref (φ 0)] h (fun rv h2 => ∃ v, rv = some (.int (bI v)) ∧ P v h2) := by
  refine Ct.of (lc := [some (.ref (φ 0)), none]) RX10 3 87 rfl (by decide +kernel) rfl (Nat.le_of_ble_eq_true rfl) rfl rfl (fun V R RI RV => ?_)
  have R : Ru l D cs φ RX10 cX10_fitsAllSeen 2 3 87 V := R
  have Rt : ∀ pc lc v h, decode cX10_fitsAllSeen pc = .ok (.ireturn, 1) → P v h → V pc lc [.int (bI v)] h := fun pc lc v h hd hp => RI pc lc _ .boolean h rfl (bI_n v) hd ⟨v, rfl, hp⟩
  unfold wp_Fe_fitsAllSeen at hP
  refine v_iconst R dX10_fitsAllSeen_0 (v := (0 : Int32)) (by decide) ?_
  refine v_istore_1 R dX10_fitsAllSeen_1 (by decide) rfl ?_
  obtain ⟨n2, hP⟩ := hP
  refine L_Fe_fitsAllSeen_2 R ?_ Rt n2 _ _ hP
  intro h2x hP
  refine v_iconst R dX10_fitsAllSeen_47 (v := (1 : Int32)) (by decide) ?_
  exact Rt _ _ true _ dX10_fitsAllSeen_48 hP
set_option maxRecDepth 100000 in
set_option maxHeartbeats 4000000 in
theorem L_Guess_add_2 {l : Launch} {D : va_G} {cs : Nat → ClassId} {φ : Nat → Nat} {V : Nat → List (Option Value) → List Value → Hp → Prop} {e1 : Nat} {a2 : Int32} {E : Hp → Prop} (R : Ru l D cs φ RX1 cX1_add 4 0 0 V) (hk_e1 : kd e1 = 12) (hE : ∀ (h : Hp), E h → V 48 [some (.ref (φ 5)), none, none, none] [] h) : ∀ (n : Nat) (a3 : Int32) (h : Hp), lp_Guess_add_2 n e1 a2 a3 h E → V 2 [some (.ref (φ 5)), some (.ref (φ e1)), some (.int a2), some (.int a3)] [] h := by
  intro n
  induction n with
  | zero => intro a3 h hP; exact hP.elim
  | succ n ih =>
    intro a3 h hP
    unfold lp_Guess_add_2 at hP
    refine v_iload_3 R dX1_add_2 ?_
    refine v_iload_2 R dX1_add_3 ?_
    refine v_icmp_ge (tgt := 48) R dX1_add_4 (by decide) (fun q4 => ?_) (fun q4 => ?_)
    · have hP := hP.1 q4
      refine v_wk R [some (.ref (φ 5)), none, none, none] ⟨rfl, trivial⟩ ?_
      exact hE h hP
    · have hP := hP.2 q4
      refine v_iload_3 R dX1_add_7 ?_
      refine v_iconst R dX1_add_8 (v := (5 : Int32)) (by decide) ?_
      refine v_icmp_ge (tgt := 48) R dX1_add_9 (by decide) (fun q9 => ?_) (fun q9 => ?_)
      · have hP := hP.1 q9
        refine v_wk R [some (.ref (φ 5)), none, none, none] ⟨rfl, trivial⟩ ?_
        exact hE h hP
      · have hP := hP.2 q9
        refine v_aload_0 R dX1_add_12 ?_
        refine g_Guess_sets R dX1_add_13 fl_X1_9 ?_
        refine v_iload_3 R dX1_add_16 ?_
        refine v_dup2 R dX1_add_17 rfl rfl ?_
        obtain ⟨hi18, hP⟩ := hP
        refine v_iald R dX1_add_18 rfl hi18 ?_
        refine v_iconst R dX1_add_19 (v := (1 : Int32)) (by decide) ?_
        refine v_aload_1 R dX1_add_20 ?_
        refine v_iload_3 R dX1_add_21 ?_
        obtain ⟨hi22, hP⟩ := hP
        refine v_iald R dX1_add_22 hk_e1 hi22 ?_
        refine v_ishl R dX1_add_23 ?_
        refine v_ior R dX1_add_24 ?_
        obtain ⟨hi25, hP⟩ := hP
        refine v_iastL R dX1_add_25 rfl hi25 hP (fun h25 hP => ?_)
        refine v_aload_0 R dX1_add_26 ?_
        refine g_Guess_count R dX1_add_27 fl_X1_21 ?_
        refine jn_v (fun K => ∀ (h42 : Hp), K h42 → V 42 [some (.ref (φ 5)), some (.ref (φ e1)), some (.int a2), some (.int a3)] [] h42) ?_ ?_ hP
        · intro h42 hP
          refine v_iincL_3 R (1 : Int32) dX1_add_42 (by decide) rfl (by decide) hP (fun x42 hP => ?_)
          refine v_goto (tgt := 2) R dX1_add_45 (by decide) ?_
          exact ih x42 h42 hP
        · intro K J42 hP
          refine v_if_ne (tgt := 42) R dX1_add_30 (by decide) (fun q30 => ?_) (fun q30 => ?_)
          · have hP := hP.1 q30
            exact J42 h25 hP
          · have hP := hP.2 q30
            refine v_aload_0 R dX1_add_33 ?_
            refine g_Guess_first R dX1_add_34 fl_X1_15 ?_
            refine v_iload_3 R dX1_add_37 ?_
            refine v_aload_1 R dX1_add_38 ?_
            refine v_iload_3 R dX1_add_39 ?_
            obtain ⟨hi40, hP⟩ := hP
            refine v_iald R dX1_add_40 hk_e1 hi40 ?_
            obtain ⟨hi41, hP⟩ := hP
            refine v_iastL R dX1_add_41 rfl hi41 hP (fun h41 hP => ?_)
            exact J42 h41 hP
set_option maxRecDepth 100000 in
set_option maxHeartbeats 4000000 in
theorem c_Guess_add {l : Launch} {D : va_G} {cs : Nat → ClassId} {φ : Nat → Nat} {c0 : Nat} {p1 : Int32} {h : Hp} {P : Hp → Prop} (hk_c0 : kd c0 = 12) (hP : wp_Guess_add c0 p1 h P) : Ct l D cs φ M_Guess_add [.ref (φ 5), .ref (φ c0), .int p1] h (fun rv h2 => rv = none ∧ P h2) := by
  refine Ct.of (lc := [some (.ref (φ 5)), some (.ref (φ c0)), some (.int p1), none]) RX1 0 0 rfl (by decide +kernel) rfl (Nat.le_of_ble_eq_true rfl) rfl rfl (fun V R RI RV => ?_)
  have R : Ru l D cs φ RX1 cX1_add 4 0 0 V := R
  have Rt : ∀ pc lc h, decode cX1_add pc = .ok (.return_, 1) → P h → V pc lc [] h := fun pc lc h hd hp => RV pc lc h rfl hd ⟨rfl, hp⟩
  unfold wp_Guess_add at hP
  refine v_iconst R dX1_add_0 (v := (0 : Int32)) (by decide) ?_
  refine v_istore_3 R dX1_add_1 (by decide) rfl ?_
  obtain ⟨n2, hP⟩ := hP
  refine L_Guess_add_2 R hk_c0 ?_ n2 _ _ hP
  intro h2x hP
  refine v_aload_0 R dX1_add_48 ?_
  refine v_dup R dX1_add_49 rfl ?_
  refine g_Guess_count R dX1_add_50 fl_X1_21 ?_
  refine v_iconst R dX1_add_53 (v := (1 : Int32)) (by decide) ?_
  refine v_iadd R dX1_add_54 ?_
  refine p_Guess_count R dX1_add_55 fl_X1_21 hP (fun h55 hP => ?_)
  exact Rt _ _ _ dX1_add_58 hP
set_option maxRecDepth 100000 in
set_option maxHeartbeats 4000000 in
theorem c_Orders_swap {l : Launch} {D : va_G} {cs : Nat → ClassId} {φ : Nat → Nat} {p0 p1 : Int32} {h : Hp} {P : Hp → Prop} (hP : wp_Orders_swap p0 p1 h P) : Ct l D cs φ M_Orders_swap [.ref (φ 4), .int p0, .int p1] h (fun rv h2 => rv = none ∧ P h2) := by
  refine Ct.of (lc := [some (.ref (φ 4)), some (.int p0), some (.int p1), none]) RX4 0 0 rfl (by decide +kernel) rfl (Nat.le_of_ble_eq_true rfl) rfl rfl (fun V R RI RV => ?_)
  have R : Ru l D cs φ RX4 cX4_swap 4 0 0 V := R
  have Rt : ∀ pc lc h, decode cX4_swap pc = .ok (.return_, 1) → P h → V pc lc [] h := fun pc lc h hd hp => RV pc lc h rfl hd ⟨rfl, hp⟩
  unfold wp_Orders_swap at hP
  refine v_aload_0 R dX4_swap_0 ?_
  refine g_Orders_wireOf R dX4_swap_1 fl_X4_9 ?_
  refine v_iload_1 R dX4_swap_4 ?_
  obtain ⟨hi5, hP⟩ := hP
  refine v_iald R dX4_swap_5 rfl hi5 ?_
  refine v_istoreL_3 R dX4_swap_6 (by decide) rfl hP (fun x6 hP => ?_)
  refine v_aload_0 R dX4_swap_7 ?_
  refine g_Orders_wireOf R dX4_swap_8 fl_X4_9 ?_
  refine v_iload_1 R dX4_swap_11 ?_
  refine v_aload_0 R dX4_swap_12 ?_
  refine g_Orders_wireOf R dX4_swap_13 fl_X4_9 ?_
  refine v_iload_2 R dX4_swap_16 ?_
  obtain ⟨hi17, hP⟩ := hP
  refine v_iald R dX4_swap_17 rfl hi17 ?_
  obtain ⟨hi18, hP⟩ := hP
  refine v_iastL R dX4_swap_18 rfl hi18 hP (fun h18 hP => ?_)
  refine v_aload_0 R dX4_swap_19 ?_
  refine g_Orders_wireOf R dX4_swap_20 fl_X4_9 ?_
  refine v_iload_2 R dX4_swap_23 ?_
  refine v_iload_3 R dX4_swap_24 ?_
  obtain ⟨hi25, hP⟩ := hP
  refine v_iastL R dX4_swap_25 rfl hi25 hP (fun h25 hP => ?_)
  exact Rt _ _ _ dX4_swap_26 hP
set_option maxRecDepth 100000 in
set_option maxHeartbeats 4000000 in
theorem L_Orders_advance_10 {l : Launch} {D : va_G} {cs : Nat → ClassId} {φ : Nat → Nat} {V : Nat → List (Option Value) → List Value → Hp → Prop} {a2 : Int32} {h : Hp} {E : Int32 → Prop} (R : Ru l D cs φ RX4 cX4_advance 7 1 23 V) (hE : ∀ (a3 : Int32), E a3 → V 37 [some (.ref (φ 4)), none, some (.int a2), some (.int a3), none, none, none] [] h) : ∀ (n : Nat) (a3 : Int32), lp_Orders_advance_10 n a2 a3 h E → V 10 [some (.ref (φ 4)), none, some (.int a2), some (.int a3), none, none, none] [] h := by
  intro n
  induction n with
  | zero => intro a3 hP; exact hP.elim
  | succ n ih =>
    intro a3 hP
    unfold lp_Orders_advance_10 at hP
    refine v_iload_3 R dX4_advance_10 ?_
    refine v_if_lt (tgt := 37) R dX4_advance_11 (by decide) (fun q11 => ?_) (fun q11 => ?_)
    · have hP := hP.1 q11
      exact hE a3 hP
    · have hP := hP.2 q11
      refine v_aload_0 R dX4_advance_14 ?_
      refine g_Orders_wireOf R dX4_advance_15 fl_X4_9 ?_
      refine v_iload_3 R dX4_advance_18 ?_
      obtain ⟨hi19, hP⟩ := hP
      refine v_iald R dX4_advance_19 rfl hi19 ?_
      refine v_aload_0 R dX4_advance_20 ?_
      refine g_Orders_wireOf R dX4_advance_21 fl_X4_9 ?_
      refine v_iload_3 R dX4_advance_24 ?_
      refine v_iconst R dX4_advance_25 (v := (1 : Int32)) (by decide) ?_
      refine v_iadd R dX4_advance_26 ?_
      obtain ⟨hi27, hP⟩ := hP
      refine v_iald R dX4_advance_27 rfl hi27 ?_
      refine v_icmp_le (tgt := 37) R dX4_advance_28 (by decide) (fun q28 => ?_) (fun q28 => ?_)
      · have hP := hP.1 q28
        exact hE a3 hP
      · have hP := hP.2 q28
        refine v_iincL_3 R (-1 : Int32) dX4_advance_31 (by decide) rfl (by decide) hP (fun x31 hP => ?_)
        refine v_goto (tgt := 10) R dX4_advance_34 (by decide) ?_
        exact ih x31 hP
set_option maxRecDepth 100000 in
set_option maxHeartbeats 4000000 in
theorem L_Orders_advance_47 {l : Launch} {D : va_G} {cs : Nat → ClassId} {φ : Nat → Nat} {V : Nat → List (Option Value) → List Value → Hp → Prop} {a2 a3 : Int32} {h : Hp} {E : Int32 → Prop} (R : Ru l D cs φ RX4 cX4_advance 7 1 23 V) (hE : ∀ (a4 : Int32), E a4 → V 77 [some (.ref (φ 4)), none, some (.int a2), some (.int a3), some (.int a4), none, none] [] h) : ∀ (n : Nat) (a4 : Int32), lp_Orders_advance_47 n a2 a3 a4 h E → V 47 [some (.ref (φ 4)), none, some (.int a2), some (.int a3), some (.int a4), none, none] [] h := by
  intro n
  induction n with
  | zero => intro a4 hP; exact hP.elim
  | succ n ih =>
    intro a4 hP
    unfold lp_Orders_advance_47 at hP
    refine v_iload_4 R dX4_advance_47 ?_
    refine v_iload_3 R dX4_advance_49 ?_
    refine v_iconst R dX4_advance_50 (v := (1 : Int32)) (by decide) ?_
    refine v_iadd R dX4_advance_51 ?_
    refine v_icmp_le (tgt := 77) R dX4_advance_52 (by decide) (fun q52 => ?_) (fun q52 => ?_)
    · have hP := hP.1 q52
      exact hE a4 hP
    · have hP := hP.2 q52
      refine v_aload_0 R dX4_advance_55 ?_
      refine g_Orders_wireOf R dX4_advance_56 fl_X4_9 ?_
      refine v_iload_4 R dX4_advance_59 ?_
      obtain ⟨hi61, hP⟩ := hP
      refine v_iald R dX4_advance_61 rfl hi61 ?_
      refine v_aload_0 R dX4_advance_62 ?_
      refine g_Orders_wireOf R dX4_advance_63 fl_X4_9 ?_
      refine v_iload_3 R dX4_advance_66 ?_
      obtain ⟨hi67, hP⟩ := hP
      refine v_iald R dX4_advance_67 rfl hi67 ?_
      refine v_icmp_ge (tgt := 77) R dX4_advance_68 (by decide) (fun q68 => ?_) (fun q68 => ?_)
      · have hP := hP.1 q68
        exact hE a4 hP
      · have hP := hP.2 q68
        refine v_iincL_4 R (-1 : Int32) dX4_advance_71 (by decide) rfl (by decide) hP (fun x71 hP => ?_)
        refine v_goto (tgt := 47) R dX4_advance_74 (by decide) ?_
        exact ih x71 hP
set_option maxRecDepth 100000 in
set_option maxHeartbeats 4000000 in
theorem L_Orders_advance_94 {l : Launch} {D : va_G} {cs : Nat → ClassId} {φ : Nat → Nat} {V : Nat → List (Option Value) → List Value → Hp → Prop} {E : Hp → Prop} (R : Ru l D cs φ RX4 cX4_advance 7 1 23 V) (hE : ∀ (h : Hp), E h → V 118 [none, none, none, none, none, none, none] [] h) : ∀ (n : Nat) (a5 : Int32) (a6 : Int32) (h : Hp), lp_Orders_advance_94 n a5 a6 h E → V 94 [some (.ref (φ 4)), none, none, none, none, some (.int a5), some (.int a6)] [] h := by
  intro n
  induction n with
  | zero => intro a5 a6 h hP; exact hP.elim
  | succ n ih =>
    intro a5 a6 h hP
    unfold lp_Orders_advance_94 at hP
    refine v_iload_6 R dX4_advance_94 ?_
    refine v_iload_5 R dX4_advance_96 ?_
    refine v_icmp_le (tgt := 118) R dX4_advance_98 (by decide) (fun q98 => ?_) (fun q98 => ?_)
    · have hP := hP.1 q98
      refine v_wk R [none, none, none, none, none, none, none] trivial ?_
      exact hE h hP
    · have hP := hP.2 q98
      refine v_aload_0 R dX4_advance_101 ?_
      refine v_iload_5 R dX4_advance_102 ?_
      refine v_iload_6 R dX4_advance_104 ?_
      refine cV2_vw R dX4_advance_106 (c_Orders_swap hP) rc_Orders ml_X4_21 mv_Orders_swap (by decide) (Nat.le_of_ble_eq_true rfl) (fun h106 hP => ?_)
      refine v_iincL_5 R (1 : Int32) dX4_advance_109 (by decide) rfl (by decide) hP (fun x109 hP => ?_)
      refine v_iincL_6 R (-1 : Int32) dX4_advance_112 (by decide) rfl (by decide) hP (fun x112 hP => ?_)
      refine v_goto (tgt := 94) R dX4_advance_115 (by decide) ?_
      exact ih x109 x112 h106 hP
set_option maxRecDepth 100000 in
set_option maxHeartbeats 4000000 in
theorem c_Orders_advance {l : Launch} {D : va_G} {cs : Nat → ClassId} {φ : Nat → Nat} {p0 : Int32} {h : Hp} {P : Hp → Prop} (hP : wp_Orders_advance p0 h P) : Ct l D cs φ M_Orders_advance [.ref (φ 4), .int p0] h (fun rv h2 => rv = none ∧ P h2) := by
  refine Ct.of (lc := [some (.ref (φ 4)), some (.int p0), none, none, none, none, none]) RX4 1 23 rfl (by decide +kernel) rfl (Nat.le_of_ble_eq_true rfl) rfl rfl (fun V R RI RV => ?_)
  have R : Ru l D cs φ RX4 cX4_advance 7 1 23 V := R
  have Rt : ∀ pc lc h, decode cX4_advance pc = .ok (.return_, 1) → P h → V pc lc [] h := fun pc lc h hd hp => RV pc lc h rfl hd ⟨rfl, hp⟩
  unfold wp_Orders_advance at hP
  refine v_iload_1 R dX4_advance_0 ?_
  refine v_iconst R dX4_advance_1 (v := (5 : Int32)) (by decide) ?_
  refine v_mmin2 R dX4_advance_2 ml_X4_15 ms_min in_java_lang_Math mc_min (by decide) (Nat.le_of_ble_eq_true rfl) ?_
  refine v_istoreL_2 R dX4_advance_5 (by decide) rfl hP (fun x5 hP => ?_)
  refine v_iload_2 R dX4_advance_6 ?_
  refine v_iconst R dX4_advance_7 (v := (2 : Int32)) (by decide) ?_
  refine v_isub R dX4_advance_8 ?_
  refine v_istoreL_3 R dX4_advance_9 (by decide) rfl hP (fun x9 hP => ?_)
  refine v_wk R [some (.ref (φ 4)), none, some (.int x5), some (.int x9), none, none, none] ⟨rfl, ⟨rfl, ⟨rfl, trivial⟩⟩⟩ ?_
  obtain ⟨n10, hP⟩ := hP
  refine L_Orders_advance_10 R ?_ n10 _ hP
  intro w10_3 hP
  refine v_iload_3 R dX4_advance_37 ?_
  refine v_if_ge (tgt := 42) R dX4_advance_38 (by decide) (fun q38 => ?_) (fun q38 => ?_)
  · have hP := hP.1 q38
    refine v_iload_2 R dX4_advance_42 ?_
    refine v_iconst R dX4_advance_43 (v := (1 : Int32)) (by decide) ?_
    refine v_isub R dX4_advance_44 ?_
    refine v_istoreL_4 R dX4_advance_45 (by decide) rfl hP (fun x45 hP => ?_)
    obtain ⟨n47, hP⟩ := hP
    refine L_Orders_advance_47 R ?_ n47 _ hP
    intro w47_4 hP
    refine v_aload_0 R dX4_advance_77 ?_
    refine v_iload_3 R dX4_advance_78 ?_
    refine v_iload_4 R dX4_advance_79 ?_
    refine cV2_vw R dX4_advance_81 (c_Orders_swap hP) rc_Orders ml_X4_21 mv_Orders_swap (by decide) (Nat.le_of_ble_eq_true rfl) (fun h81 hP => ?_)
    refine v_iload_3 R dX4_advance_84 ?_
    refine v_iconst R dX4_advance_85 (v := (1 : Int32)) (by decide) ?_
    refine v_iadd R dX4_advance_86 ?_
    refine v_istoreL_5 R dX4_advance_87 (by decide) rfl hP (fun x87 hP => ?_)
    refine v_iload_2 R dX4_advance_89 ?_
    refine v_iconst R dX4_advance_90 (v := (1 : Int32)) (by decide) ?_
    refine v_isub R dX4_advance_91 ?_
    refine v_istoreL_6 R dX4_advance_92 (by decide) rfl hP (fun x92 hP => ?_)
    refine v_wk R [some (.ref (φ 4)), none, none, none, none, some (.int x87), some (.int x92)] ⟨rfl, ⟨rfl, ⟨rfl, trivial⟩⟩⟩ ?_
    obtain ⟨n94, hP⟩ := hP
    refine L_Orders_advance_94 R ?_ n94 _ _ _ hP
    intro h94x hP
    exact Rt _ _ _ dX4_advance_118 hP
  · have hP := hP.2 q38
    exact Rt _ _ _ dX4_advance_41 hP
set_option maxRecDepth 100000 in
set_option maxHeartbeats 4000000 in
theorem L_Fe_guessOrders_25 {l : Launch} {D : va_G} {cs : Nat → ClassId} {φ : Nat → Nat} {V : Nat → List (Option Value) → List Value → Hp → Prop} {a1 : Int32} {E : Hp → Prop} (R : Ru l D cs φ RX10 cX10_guessOrders 3 5 113 V) (hE : ∀ (h : Hp), E h → V 72 [none, none, none] [] h) : ∀ (n : Nat) (a2 : Int32) (h : Hp), lp_Fe_guessOrders_25 n a1 a2 h E → V 25 [some (.ref (φ 0)), some (.int a1), some (.int a2)] [] h := by
  intro n
  induction n with
  | zero => intro a2 h hP; exact hP.elim
  | succ n ih =>
    intro a2 h hP
    unfold lp_Fe_guessOrders_25 at hP
    refine v_iload_2 R dX10_guessOrders_25 ?_
    refine v_iload_1 R dX10_guessOrders_26 ?_
    refine v_icmp_ge (tgt := 72) R dX10_guessOrders_27 (by decide) (fun q27 => ?_) (fun q27 => ?_)
    · have hP := hP.1 q27
      refine v_wk R [none, none, none] trivial ?_
      exact hE h hP
    · have hP := hP.2 q27
      refine v_aload_0 R dX10_guessOrders_30 ?_
      refine cV0_bw R dX10_guessOrders_31 (c_Fe_fitsAllSeen hP) rc_Fe ml_X10_332 mv_Fe_fitsAllSeen (by decide) (Nat.le_of_ble_eq_true rfl) (fun v31 h31 hP => ?_)
      refine jn_v (fun K => ∀ (h55 : Hp), K h55 → V 55 [some (.ref (φ 0)), some (.int a1), some (.int a2)] [] h55) ?_ ?_ hP
      · intro h55 hP
        refine v_aload_0 R dX10_guessOrders_55 ?_
        refine g_Fe_orders R dX10_guessOrders_56 fl_X10_69 ?_
        refine v_aload_0 R dX10_guessOrders_59 ?_
        refine g_Fe_wires R dX10_guessOrders_60 fl_X10_108 ?_
        refine cV1_vw R dX10_guessOrders_63 (c_Orders_advance hP) rc_Orders ml_X10_339 mv_Orders_advance (by decide) (Nat.le_of_ble_eq_true rfl) (fun h63 hP => ?_)
        refine v_iincL_2 R (1 : Int32) dX10_guessOrders_66 (by decide) rfl (by decide) hP (fun x66 hP => ?_)
        refine v_goto (tgt := 25) R dX10_guessOrders_69 (by decide) ?_
        exact ih x66 h63 hP
      · intro K J55 hP
        refine v_ifb_eq (tgt := 55) R dX10_guessOrders_34 (by decide) (fun q34 => ?_) (fun q34 => ?_)
        · have hP := hP.1 q34
          exact J55 h31 hP
        · have hP := hP.2 q34
          refine v_aload_0 R dX10_guessOrders_37 ?_
          refine g_Fe_guess R dX10_guessOrders_38 fl_X10_76 ?_
          refine v_aload_0 R dX10_guessOrders_41 ?_
          refine g_Fe_orders R dX10_guessOrders_42 fl_X10_69 ?_
          refine g_Orders_wireOf R dX10_guessOrders_45 fl_X10_315 ?_
          refine v_aload_0 R dX10_guessOrders_48 ?_
          refine g_Fe_wires R dX10_guessOrders_49 fl_X10_108 ?_
          refine cV2_vw R dX10_guessOrders_52 (c_Guess_add rfl hP) rc_Guess ml_X10_336 mv_Guess_add (by decide) (Nat.le_of_ble_eq_true rfl) (fun h52 hP => ?_)
          exact J55 h52 hP
set_option maxRecDepth 100000 in
set_option maxHeartbeats 4000000 in
theorem c_Fe_guessOrders {l : Launch} {D : va_G} {cs : Nat → ClassId} {φ : Nat → Nat} {h : Hp} {P : Hp → Prop} (hP : wp_Fe_guessOrders h P) : Ct l D cs φ M_Fe_guessOrders [.ref (φ 0)] h (fun rv h2 => rv = none ∧ P h2) := by
  refine Ct.of (lc := [some (.ref (φ 0)), none, none]) RX10 5 113 rfl (by decide +kernel) rfl (Nat.le_of_ble_eq_true rfl) rfl rfl (fun V R RI RV => ?_)
  have R : Ru l D cs φ RX10 cX10_guessOrders 3 5 113 V := R
  have Rt : ∀ pc lc h, decode cX10_guessOrders pc = .ok (.return_, 1) → P h → V pc lc [] h := fun pc lc h hd hp => RV pc lc h rfl hd ⟨rfl, hp⟩
  unfold wp_Fe_guessOrders at hP
  refine v_aload_0 R dX10_guessOrders_0 ?_
  refine g_Fe_guess R dX10_guessOrders_1 fl_X10_76 ?_
  refine cV0_vw R dX10_guessOrders_4 (c_Guess_clear hP) rc_Guess ml_X10_322 mv_Guess_clear (by decide) (Nat.le_of_ble_eq_true rfl) (fun h4 hP => ?_)
  refine v_aload_0 R dX10_guessOrders_7 ?_
  refine cV0_vw R dX10_guessOrders_8 (c_Fe_layAllSeen hP) rc_Fe ml_X10_323 mv_Fe_layAllSeen (by decide) (Nat.le_of_ble_eq_true rfl) (fun h8 hP => ?_)
  refine v_aload_0 R dX10_guessOrders_11 ?_
  refine g_Fe_orders R dX10_guessOrders_12 fl_X10_69 ?_
  refine cV0_vw R dX10_guessOrders_15 (c_Orders_start hP) rc_Orders ml_X10_326 mv_Orders_start (by decide) (Nat.le_of_ble_eq_true rfl) (fun h15 hP => ?_)
  refine v_aload_0 R dX10_guessOrders_18 ?_
  refine cV0_ir R dX10_guessOrders_19 (c_Fe_countOrders hP) rc_Fe ml_X10_329 mv_Fe_countOrders (by decide) (Nat.le_of_ble_eq_true rfl) (fun v19 hP => ?_)
  refine v_istore_1 R dX10_guessOrders_22 (by decide) rfl ?_
  refine v_iconst R dX10_guessOrders_23 (v := (0 : Int32)) (by decide) ?_
  refine v_istore_2 R dX10_guessOrders_24 (by decide) rfl ?_
  obtain ⟨n25, hP⟩ := hP
  refine L_Fe_guessOrders_25 R ?_ n25 _ _ hP
  intro h25x hP
  exact Rt _ _ _ dX10_guessOrders_72 hP
set_option maxRecDepth 100000 in
set_option maxHeartbeats 4000000 in
theorem c_Fe_countCouldBe {l : Launch} {D : va_G} {cs : Nat → ClassId} {φ : Nat → Nat} {h : Hp} {P : Int32 → Hp → Prop} (hP : wp_Fe_countCouldBe h P) : Ct l D cs φ M_Fe_countCouldBe [.ref (φ 0)] h (fun rv h2 => ∃ v, rv = some (.int v) ∧ P v h2) := by
  refine Ct.of (lc := [some (.ref (φ 0))]) RX10 6 135 rfl (by decide +kernel) rfl (Nat.le_of_ble_eq_true rfl) rfl rfl (fun V R RI RV => ?_)
  have R : Ru l D cs φ RX10 cX10_countCouldBe 1 6 135 V := R
  have Rt : ∀ pc lc v h, decode cX10_countCouldBe pc = .ok (.ireturn, 1) → P v h → V pc lc [.int v] h := fun pc lc v h hd hp => RI pc lc _ .int h rfl rfl hd ⟨v, rfl, hp⟩
  unfold wp_Fe_countCouldBe at hP
  refine v_aload_0 R dX10_countCouldBe_0 ?_
  refine cV0_vw R dX10_countCouldBe_1 (c_Fe_guessOrders hP) rc_Fe ml_X10_342 mv_Fe_guessOrders (by decide) (Nat.le_of_ble_eq_true rfl) (fun h1 hP => ?_)
  refine v_aload_0 R dX10_countCouldBe_4 ?_
  refine g_Fe_guess R dX10_countCouldBe_5 fl_X10_76 ?_
  refine g_Guess_count R dX10_countCouldBe_8 fl_X10_345 ?_
  exact Rt _ _ _ _ dX10_countCouldBe_11 hP
set_option maxRecDepth 100000 in
set_option maxHeartbeats 4000000 in
theorem c_Fe_nodeOf {l : Launch} {D : va_G} {cs : Nat → ClassId} {φ : Nat → Nat} {p0 p1 : Int32} {h : Hp} {P : Int32 → Prop} (hP : wp_Fe_nodeOf p0 p1 P) : Ct l D cs φ M_Fe_nodeOf [.int p0, .int p1] h (fun rv h2 => ∃ v, rv = some (.int v) ∧ h2 = h ∧ P v) := by
  refine Ct.of (lc := [some (.int p0), some (.int p1)]) RX10 0 0 rfl (by decide +kernel) rfl (Nat.le_of_ble_eq_true rfl) rfl rfl (fun V R RI RV => ?_)
  have R : Ru l D cs φ RX10 cX10_nodeOf 2 0 0 V := R
  have Rt : ∀ pc lc v, decode cX10_nodeOf pc = .ok (.ireturn, 1) → P v → V pc lc [.int v] h := fun pc lc v hd hp => RI pc lc _ .int h rfl rfl hd ⟨v, rfl, rfl, hp⟩
  unfold wp_Fe_nodeOf at hP
  refine v_iload_1 R dX10_nodeOf_0 ?_
  refine v_iconst R dX10_nodeOf_1 (v := (-1 : Int32)) (by decide) ?_
  refine v_icmp_ne (tgt := 8) R dX10_nodeOf_2 (by decide) (fun q2 => ?_) (fun q2 => ?_)
  · have hP := hP.1 q2
    refine v_iload_0 R dX10_nodeOf_8 ?_
    refine v_if_ne (tgt := 16) R dX10_nodeOf_9 (by decide) (fun q9 => ?_) (fun q9 => ?_)
    · have hP := hP.1 q9
      refine v_iconst R dX10_nodeOf_16 (v := (5 : Int32)) (by decide) ?_
      refine v_iload_1 R dX10_nodeOf_17 ?_
      refine v_iadd R dX10_nodeOf_18 ?_
      exact Rt _ _ _ dX10_nodeOf_19 hP
    · have hP := hP.2 q9
      refine v_iload_1 R dX10_nodeOf_12 ?_
      refine v_goto (tgt := 19) R dX10_nodeOf_13 (by decide) ?_
      exact Rt _ _ _ dX10_nodeOf_19 hP
  · have hP := hP.2 q2
    refine v_bipush R dX10_nodeOf_5 (v := (10 : Int32)) (by decide) ?_
    exact Rt _ _ _ dX10_nodeOf_7 hP
set_option maxRecDepth 100000 in
set_option maxHeartbeats 4000000 in
theorem L_Guess_hear_21 {l : Launch} {D : va_G} {cs : Nat → ClassId} {φ : Nat → Nat} {V : Nat → List (Option Value) → List Value → Hp → Prop} {e1 : Nat} {a2 a3 a4 : Int32} {E : Hp → Prop} (R : Ru l D cs φ RX1 cX1_hear 6 2 43 V) (hk_e1 : kd e1 = 11) (hE : ∀ (h : Hp), E h → V 74 [some (.ref (φ 5)), some (.ref (φ e1)), some (.int a2), some (.int a3), some (.int a4), none] [] h) : ∀ (n : Nat) (a5 : Int32) (h : Hp), lp_Guess_hear_21 n e1 a2 a3 a4 a5 h E → V 21 [some (.ref (φ 5)), some (.ref (φ e1)), some (.int a2), some (.int a3), some (.int a4), some (.int a5)] [] h := by
  intro n
  induction n with
  | zero => intro a5 h hP; exact hP.elim
  | succ n ih =>
    intro a5 h hP
    unfold lp_Guess_hear_21 at hP
    refine v_iload_5 R dX1_hear_21 ?_
    refine v_iload_3 R dX1_hear_23 ?_
    refine v_icmp_ge (tgt := 74) R dX1_hear_24 (by decide) (fun q24 => ?_) (fun q24 => ?_)
    · have hP := hP.1 q24
      refine v_wk R [some (.ref (φ 5)), some (.ref (φ e1)), some (.int a2), some (.int a3), some (.int a4), none] ⟨rfl, ⟨rfl, ⟨rfl, ⟨rfl, ⟨rfl, trivial⟩⟩⟩⟩⟩ ?_
      exact hE h hP
    · have hP := hP.2 q24
      refine v_iload_5 R dX1_hear_27 ?_
      refine v_iconst R dX1_hear_29 (v := (5 : Int32)) (by decide) ?_
      refine v_icmp_ge (tgt := 74) R dX1_hear_30 (by decide) (fun q30 => ?_) (fun q30 => ?_)
      · have hP := hP.1 q30
        refine v_wk R [some (.ref (φ 5)), some (.ref (φ e1)), some (.int a2), some (.int a3), some (.int a4), none] ⟨rfl, ⟨rfl, ⟨rfl, ⟨rfl, ⟨rfl, trivial⟩⟩⟩⟩⟩ ?_
        exact hE h hP
      · have hP := hP.2 q30
        refine v_aload_1 R dX1_hear_33 ?_
        refine v_iload_2 R dX1_hear_34 ?_
        refine v_iload_4 R dX1_hear_35 ?_
        refine cN2_ir R dX1_hear_37 (c_Fe_nodeOf hP) mn_X1_25 mv_Fe_nodeOf (by decide) (Nat.le_of_ble_eq_true rfl) (fun v37 hP => ?_)
        refine v_iload_2 R dX1_hear_40 ?_
        refine v_iload_5 R dX1_hear_41 ?_
        refine cN2_ir R dX1_hear_43 (c_Fe_nodeOf hP) mn_X1_25 mv_Fe_nodeOf (by decide) (Nat.le_of_ble_eq_true rfl) (fun v43 hP => ?_)
        refine cV2_br R dX1_hear_46 (c_Nets_areJoined hk_e1 hP) (rc_Nets hk_e1) ml_X1_29 mv_Nets_areJoined (by decide) (Nat.le_of_ble_eq_true rfl) (fun v46 hP => ?_)
        refine jn_v (fun K => ∀ (h68 : Hp), K h68 → V 68 [some (.ref (φ 5)), some (.ref (φ e1)), some (.int a2), some (.int a3), some (.int a4), some (.int a5)] [] h68) ?_ ?_ hP
        · intro h68 hP
          refine v_iincL_5 R (1 : Int32) dX1_hear_68 (by decide) rfl (by decide) hP (fun x68 hP => ?_)
          refine v_goto (tgt := 21) R dX1_hear_71 (by decide) ?_
          exact ih x68 h68 hP
        · intro K J68 hP
          refine v_ifb_eq (tgt := 68) R dX1_hear_49 (by decide) (fun q49 => ?_) (fun q49 => ?_)
          · have hP := hP.1 q49
            exact J68 h hP
          · have hP := hP.2 q49
            refine v_aload_0 R dX1_hear_52 ?_
            refine g_Guess_ringing R dX1_hear_53 fl_X1_18 ?_
            refine v_iconst R dX1_hear_56 (v := (5 : Int32)) (by decide) ?_
            refine v_iload_4 R dX1_hear_57 ?_
            refine v_imul R dX1_hear_59 ?_
            refine v_iload_5 R dX1_hear_60 ?_
            refine v_iadd R dX1_hear_62 ?_
            refine v_dup2 R dX1_hear_63 rfl rfl ?_
            obtain ⟨hi64, hP⟩ := hP
            refine v_iald R dX1_hear_64 rfl hi64 ?_
            refine v_iconst R dX1_hear_65 (v := (1 : Int32)) (by decide) ?_
            refine v_iadd R dX1_hear_66 ?_
            obtain ⟨hi67, hP⟩ := hP
            refine v_iastL R dX1_hear_67 rfl hi67 hP (fun h67 hP => ?_)
            exact J68 h67 hP
set_option maxRecDepth 100000 in
set_option maxHeartbeats 4000000 in
theorem L_Guess_hear_3 {l : Launch} {D : va_G} {cs : Nat → ClassId} {φ : Nat → Nat} {V : Nat → List (Option Value) → List Value → Hp → Prop} {e1 : Nat} {a2 a3 : Int32} {E : Hp → Prop} (R : Ru l D cs φ RX1 cX1_hear 6 2 43 V) (hk_e1 : kd e1 = 11) (hE : ∀ (h : Hp), E h → V 80 [none, none, none, none, none, none] [] h) : ∀ (n : Nat) (a4 : Int32) (h : Hp), lp_Guess_hear_3 n e1 a2 a3 a4 h E → V 3 [some (.ref (φ 5)), some (.ref (φ e1)), some (.int a2), some (.int a3), some (.int a4), none] [] h := by
  intro n
  induction n with
  | zero => intro a4 h hP; exact hP.elim
  | succ n ih =>
    intro a4 h hP
    unfold lp_Guess_hear_3 at hP
    refine v_iload_4 R dX1_hear_3 ?_
    refine v_iload_3 R dX1_hear_5 ?_
    refine v_icmp_ge (tgt := 80) R dX1_hear_6 (by decide) (fun q6 => ?_) (fun q6 => ?_)
    · have hP := hP.1 q6
      refine v_wk R [none, none, none, none, none, none] trivial ?_
      exact hE h hP
    · have hP := hP.2 q6
      refine v_iload_4 R dX1_hear_9 ?_
      refine v_iconst R dX1_hear_11 (v := (5 : Int32)) (by decide) ?_
      refine v_icmp_ge (tgt := 80) R dX1_hear_12 (by decide) (fun q12 => ?_) (fun q12 => ?_)
      · have hP := hP.1 q12
        refine v_wk R [none, none, none, none, none, none] trivial ?_
        exact hE h hP
      · have hP := hP.2 q12
        refine v_iload_4 R dX1_hear_15 ?_
        refine v_iconst R dX1_hear_17 (v := (1 : Int32)) (by decide) ?_
        refine v_iadd R dX1_hear_18 ?_
        refine v_istoreL_5 R dX1_hear_19 (by decide) rfl hP (fun x19 hP => ?_)
        obtain ⟨n21, hP⟩ := hP
        refine L_Guess_hear_21 R hk_e1 ?_ n21 _ _ hP
        intro h21x hP
        refine v_iincL_4 R (1 : Int32) dX1_hear_74 (by decide) rfl (by decide) hP (fun x74 hP => ?_)
        refine v_goto (tgt := 3) R dX1_hear_77 (by decide) ?_
        exact ih x74 h21x hP
set_option maxRecDepth 100000 in
set_option maxHeartbeats 4000000 in
theorem c_Guess_hear {l : Launch} {D : va_G} {cs : Nat → ClassId} {φ : Nat → Nat} {c0 : Nat} {p1 p2 : Int32} {h : Hp} {P : Hp → Prop} (hk_c0 : kd c0 = 11) (hP : wp_Guess_hear c0 p1 p2 h P) : Ct l D cs φ M_Guess_hear [.ref (φ 5), .ref (φ c0), .int p1, .int p2] h (fun rv h2 => rv = none ∧ P h2) := by
  refine Ct.of (lc := [some (.ref (φ 5)), some (.ref (φ c0)), some (.int p1), some (.int p2), none, none]) RX1 2 43 rfl (by decide +kernel) rfl (Nat.le_of_ble_eq_true rfl) rfl rfl (fun V R RI RV => ?_)
  have R : Ru l D cs φ RX1 cX1_hear 6 2 43 V := R
  have Rt : ∀ pc lc h, decode cX1_hear pc = .ok (.return_, 1) → P h → V pc lc [] h := fun pc lc h hd hp => RV pc lc h rfl hd ⟨rfl, hp⟩
  unfold wp_Guess_hear at hP
  refine v_iconst R dX1_hear_0 (v := (0 : Int32)) (by decide) ?_
  refine v_istore_4 R dX1_hear_1 (by decide) rfl ?_
  obtain ⟨n3, hP⟩ := hP
  refine L_Guess_hear_3 R hk_c0 ?_ n3 _ _ hP
  intro h3x hP
  exact Rt _ _ _ dX1_hear_80 hP
set_option maxRecDepth 100000 in
set_option maxHeartbeats 4000000 in
theorem L_Guess_bestPair_28 {l : Launch} {D : va_G} {cs : Nat → ClassId} {φ : Nat → Nat} {V : Nat → List (Option Value) → List Value → Hp → Prop} {a1 a4 : Int32} {h : Hp} {E : Int32 → Int32 → Prop} (R : Ru l D cs φ RX1 cX1_bestPair 8 1 21 V) (hE : ∀ (a2 : Int32) (a3 : Int32), E a2 a3 → V 92 [some (.ref (φ 5)), some (.int a1), some (.int a2), some (.int a3), some (.int a4), none, none, none] [] h) : ∀ (n : Nat) (a2 : Int32) (a3 : Int32) (a5 : Int32), lp_Guess_bestPair_28 n a1 a4 a2 a3 a5 h E → V 28 [some (.ref (φ 5)), some (.int a1), some (.int a2), some (.int a3), some (.int a4), some (.int a5), none, none] [] h := by
  intro n
  induction n with
  | zero => intro a2 a3 a5 hP; exact hP.elim
  | succ n ih =>
    intro a2 a3 a5 hP
    unfold lp_Guess_bestPair_28 at hP
    refine v_iload_5 R dX1_bestPair_28 ?_
    refine v_iload_1 R dX1_bestPair_30 ?_
    refine v_icmp_ge (tgt := 92) R dX1_bestPair_31 (by decide) (fun q31 => ?_) (fun q31 => ?_)
    · have hP := hP.1 q31
      refine v_wk R [some (.ref (φ 5)), some (.int a1), some (.int a2), some (.int a3), some (.int a4), none, none, none] ⟨rfl, ⟨rfl, ⟨rfl, ⟨rfl, ⟨rfl, trivial⟩⟩⟩⟩⟩ ?_
      exact hE a2 a3 hP
    · have hP := hP.2 q31
      refine v_iload_5 R dX1_bestPair_34 ?_
      refine v_iconst R dX1_bestPair_36 (v := (5 : Int32)) (by decide) ?_
      refine v_icmp_ge (tgt := 92) R dX1_bestPair_37 (by decide) (fun q37 => ?_) (fun q37 => ?_)
      · have hP := hP.1 q37
        refine v_wk R [some (.ref (φ 5)), some (.int a1), some (.int a2), some (.int a3), some (.int a4), none, none, none] ⟨rfl, ⟨rfl, ⟨rfl, ⟨rfl, ⟨rfl, trivial⟩⟩⟩⟩⟩ ?_
        exact hE a2 a3 hP
      · have hP := hP.2 q37
        refine v_aload_0 R dX1_bestPair_40 ?_
        refine g_Guess_ringing R dX1_bestPair_41 fl_X1_18 ?_
        refine v_iconst R dX1_bestPair_44 (v := (5 : Int32)) (by decide) ?_
        refine v_iload_4 R dX1_bestPair_45 ?_
        refine v_imul R dX1_bestPair_47 ?_
        refine v_iload_5 R dX1_bestPair_48 ?_
        refine v_iadd R dX1_bestPair_50 ?_
        obtain ⟨hi51, hP⟩ := hP
        refine v_iald R dX1_bestPair_51 rfl hi51 ?_
        refine v_istoreL_6 R dX1_bestPair_52 (by decide) rfl hP (fun x52 hP => ?_)
        refine v_iload_6 R dX1_bestPair_54 ?_
        refine v_aload_0 R dX1_bestPair_56 ?_
        refine g_Guess_count R dX1_bestPair_57 fl_X1_21 ?_
        refine v_iload_6 R dX1_bestPair_60 ?_
        refine v_isub R dX1_bestPair_62 ?_
        refine v_mmax2 R dX1_bestPair_63 ml_X1_35 ms_max in_java_lang_Math mc_max (by decide) (Nat.le_of_ble_eq_true rfl) ?_
        refine v_istoreL_7 R dX1_bestPair_66 (by decide) rfl hP (fun x66 hP => ?_)
        refine v_iload_7 R dX1_bestPair_68 ?_
        refine v_iload_3 R dX1_bestPair_70 ?_
        refine jn_v (fun K => ∀ (y86_2 : Int32) (y86_3 : Int32), K y86_2 y86_3 → V 86 [some (.ref (φ 5)), some (.int a1), some (.int y86_2), some (.int y86_3), some (.int a4), some (.int a5), none, none] [] h) ?_ ?_ hP
        · intro y86_2 y86_3 hP
          refine v_iincL_5 R (1 : Int32) dX1_bestPair_86 (by decide) rfl (by decide) hP (fun x86 hP => ?_)
          refine v_goto (tgt := 28) R dX1_bestPair_89 (by decide) ?_
          exact ih y86_2 y86_3 x86 hP
        · intro K J86 hP
          refine v_icmp_ge (tgt := 86) R dX1_bestPair_71 (by decide) (fun q71 => ?_) (fun q71 => ?_)
          · have hP := hP.1 q71
            refine v_wk R [some (.ref (φ 5)), some (.int a1), some (.int a2), some (.int a3), some (.int a4), some (.int a5), none, none] ⟨rfl, ⟨rfl, ⟨rfl, ⟨rfl, ⟨rfl, ⟨rfl, trivial⟩⟩⟩⟩⟩⟩ ?_
            exact J86 a2 a3 hP
          · have hP := hP.2 q71
            refine v_iload_7 R dX1_bestPair_74 ?_
            refine v_istore_3 R dX1_bestPair_76 (by decide) rfl ?_
            refine v_bipush R dX1_bestPair_77 (v := (10 : Int32)) (by decide) ?_
            refine v_iload_4 R dX1_bestPair_79 ?_
            refine v_imul R dX1_bestPair_81 ?_
            refine v_iload_5 R dX1_bestPair_82 ?_
            refine v_iadd R dX1_bestPair_84 ?_
            refine v_istoreL_2 R dX1_bestPair_85 (by decide) rfl hP (fun x85 hP => ?_)
            refine v_wk R [some (.ref (φ 5)), some (.int a1), some (.int x85), some (.int x66), some (.int a4), some (.int a5), none, none] ⟨rfl, ⟨rfl, ⟨rfl, ⟨rfl, ⟨rfl, ⟨rfl, trivial⟩⟩⟩⟩⟩⟩ ?_
            exact J86 x85 x66 hP
set_option maxRecDepth 100000 in
set_option maxHeartbeats 4000000 in
theorem L_Guess_bestPair_10 {l : Launch} {D : va_G} {cs : Nat → ClassId} {φ : Nat → Nat} {V : Nat → List (Option Value) → List Value → Hp → Prop} {a1 : Int32} {h : Hp} {E : Int32 → Prop} (R : Ru l D cs φ RX1 cX1_bestPair 8 1 21 V) (hE : ∀ (a2 : Int32), E a2 → V 98 [none, none, some (.int a2), none, none, none, none, none] [] h) : ∀ (n : Nat) (a2 : Int32) (a3 : Int32) (a4 : Int32), lp_Guess_bestPair_10 n a1 a2 a3 a4 h E → V 10 [some (.ref (φ 5)), some (.int a1), some (.int a2), some (.int a3), some (.int a4), none, none, none] [] h := by
  intro n
  induction n with
  | zero => intro a2 a3 a4 hP; exact hP.elim
  | succ n ih =>
    intro a2 a3 a4 hP
    unfold lp_Guess_bestPair_10 at hP
    refine v_iload_4 R dX1_bestPair_10 ?_
    refine v_iload_1 R dX1_bestPair_12 ?_
    refine v_icmp_ge (tgt := 98) R dX1_bestPair_13 (by decide) (fun q13 => ?_) (fun q13 => ?_)
    · have hP := hP.1 q13
      refine v_wk R [none, none, some (.int a2), none, none, none, none, none] ⟨rfl, trivial⟩ ?_
      exact hE a2 hP
    · have hP := hP.2 q13
      refine v_iload_4 R dX1_bestPair_16 ?_
      refine v_iconst R dX1_bestPair_18 (v := (5 : Int32)) (by decide) ?_
      refine v_icmp_ge (tgt := 98) R dX1_bestPair_19 (by decide) (fun q19 => ?_) (fun q19 => ?_)
      · have hP := hP.1 q19
        refine v_wk R [none, none, some (.int a2), none, none, none, none, none] ⟨rfl, trivial⟩ ?_
        exact hE a2 hP
      · have hP := hP.2 q19
        refine v_iload_4 R dX1_bestPair_22 ?_
        refine v_iconst R dX1_bestPair_24 (v := (1 : Int32)) (by decide) ?_
        refine v_iadd R dX1_bestPair_25 ?_
        refine v_istoreL_5 R dX1_bestPair_26 (by decide) rfl hP (fun x26 hP => ?_)
        obtain ⟨n28, hP⟩ := hP
        refine L_Guess_bestPair_28 R ?_ n28 _ _ _ hP
        intro w28_2 w28_3 hP
        refine v_iincL_4 R (1 : Int32) dX1_bestPair_92 (by decide) rfl (by decide) hP (fun x92 hP => ?_)
        refine v_goto (tgt := 10) R dX1_bestPair_95 (by decide) ?_
        exact ih w28_2 w28_3 x92 hP
set_option maxRecDepth 100000 in
set_option maxHeartbeats 4000000 in
theorem c_Guess_bestPair {l : Launch} {D : va_G} {cs : Nat → ClassId} {φ : Nat → Nat} {p0 : Int32} {h : Hp} {P : Int32 → Prop} (hP : wp_Guess_bestPair p0 h P) : Ct l D cs φ M_Guess_bestPair [.ref (φ 5), .int p0] h (fun rv h2 => ∃ v, rv = some (.int v) ∧ h2 = h ∧ P v) := by
  refine Ct.of (lc := [some (.ref (φ 5)), some (.int p0), none, none, none, none, none, none]) RX1 1 21 rfl (by decide +kernel) rfl (Nat.le_of_ble_eq_true rfl) rfl rfl (fun V R RI RV => ?_)
  have R : Ru l D cs φ RX1 cX1_bestPair 8 1 21 V := R
  have Rt : ∀ pc lc v, decode cX1_bestPair pc = .ok (.ireturn, 1) → P v → V pc lc [.int v] h := fun pc lc v hd hp => RI pc lc _ .int h rfl rfl hd ⟨v, rfl, rfl, hp⟩
  unfold wp_Guess_bestPair at hP
  refine v_iconst R dX1_bestPair_0 (v := (-1 : Int32)) (by decide) ?_
  refine v_istore_2 R dX1_bestPair_1 (by decide) rfl ?_
  refine v_aload_0 R dX1_bestPair_2 ?_
  refine g_Guess_count R dX1_bestPair_3 fl_X1_21 ?_
  refine v_istoreL_3 R dX1_bestPair_6 (by decide) rfl hP (fun x6 hP => ?_)
  refine v_iconst R dX1_bestPair_7 (v := (0 : Int32)) (by decide) ?_
  refine v_istore_4 R dX1_bestPair_8 (by decide) rfl ?_
  obtain ⟨n10, hP⟩ := hP
  refine L_Guess_bestPair_10 R ?_ n10 _ _ _ hP
  intro w10_2 hP
  refine v_iload_2 R dX1_bestPair_98 ?_
  exact Rt _ _ _ dX1_bestPair_99 hP
set_option maxRecDepth 100000 in
set_option maxHeartbeats 4000000 in
theorem L_Fe_bestQuestion_78 {l : Launch} {D : va_G} {cs : Nat → ClassId} {φ : Nat → Nat} {V : Nat → List (Option Value) → List Value → Hp → Prop} {a1 a2 : Int32} {E : Hp → Prop} (R : Ru l D cs φ RX10 cX10_bestQuestion 4 5 113 V) (hE : ∀ (h : Hp), E h → V 166 [some (.ref (φ 0)), none, none, none] [] h) : ∀ (n : Nat) (a3 : Int32) (h : Hp), lp_Fe_bestQuestion_78 n a1 a2 a3 h E → V 78 [some (.ref (φ 0)), some (.int a1), some (.int a2), some (.int a3)] [] h := by
  intro n
  induction n with
  | zero => intro a3 h hP; exact hP.elim
  | succ n ih =>
    intro a3 h hP
    unfold lp_Fe_bestQuestion_78 at hP
    refine v_iload_3 R dX10_bestQuestion_78 ?_
    refine v_iload_2 R dX10_bestQuestion_79 ?_
    refine v_icmp_ge (tgt := 166) R dX10_bestQuestion_80 (by decide) (fun q80 => ?_) (fun q80 => ?_)
    · have hP := hP.1 q80
      refine v_wk R [some (.ref (φ 0)), none, none, none] ⟨rfl, trivial⟩ ?_
      exact hE h hP
    · have hP := hP.2 q80
      refine v_aload_0 R dX10_bestQuestion_83 ?_
      refine cV0_bw R dX10_bestQuestion_84 (c_Fe_fitsAllSeen hP) rc_Fe ml_X10_332 mv_Fe_fitsAllSeen (by decide) (Nat.le_of_ble_eq_true rfl) (fun v84 h84 hP => ?_)
      refine jn_v (fun K => ∀ (h149 : Hp), K h149 → V 149 [some (.ref (φ 0)), some (.int a1), some (.int a2), some (.int a3)] [] h149) ?_ ?_ hP
      · intro h149 hP
        refine v_aload_0 R dX10_bestQuestion_149 ?_
        refine g_Fe_orders R dX10_bestQuestion_150 fl_X10_69 ?_
        refine v_aload_0 R dX10_bestQuestion_153 ?_
        refine g_Fe_wires R dX10_bestQuestion_154 fl_X10_108 ?_
        refine cV1_vw R dX10_bestQuestion_157 (c_Orders_advance hP) rc_Orders ml_X10_339 mv_Orders_advance (by decide) (Nat.le_of_ble_eq_true rfl) (fun h157 hP => ?_)
        refine v_iincL_3 R (1 : Int32) dX10_bestQuestion_160 (by decide) rfl (by decide) hP (fun x160 hP => ?_)
        refine v_goto (tgt := 78) R dX10_bestQuestion_163 (by decide) ?_
        exact ih x160 h157 hP
      · intro K J149 hP
        refine v_ifb_eq (tgt := 149) R dX10_bestQuestion_87 (by decide) (fun q87 => ?_) (fun q87 => ?_)
        · have hP := hP.1 q87
          exact J149 h84 hP
        · have hP := hP.2 q87
          refine v_aload_0 R dX10_bestQuestion_90 ?_
          refine g_Fe_nets R dX10_bestQuestion_91 fl_X10_62 ?_
          refine v_aload_0 R dX10_bestQuestion_94 ?_
          refine g_Fe_orders R dX10_bestQuestion_95 fl_X10_69 ?_
          refine g_Orders_wireOf R dX10_bestQuestion_98 fl_X10_315 ?_
          refine v_aload_0 R dX10_bestQuestion_101 ?_
          refine g_Fe_wires R dX10_bestQuestion_102 fl_X10_108 ?_
          refine v_iload_1 R dX10_bestQuestion_105 ?_
          refine cV3_vw R dX10_bestQuestion_106 (c_Nets_join rfl rfl hP) (rc_Nets rfl) ml_X10_300 mv_Nets_join (by decide) (Nat.le_of_ble_eq_true rfl) (fun h106 hP => ?_)
          refine v_aload_0 R dX10_bestQuestion_109 ?_
          refine g_Fe_guess R dX10_bestQuestion_110 fl_X10_76 ?_
          refine v_aload_0 R dX10_bestQuestion_113 ?_
          refine g_Fe_orders R dX10_bestQuestion_114 fl_X10_69 ?_
          refine g_Orders_wireOf R dX10_bestQuestion_117 fl_X10_315 ?_
          refine v_aload_0 R dX10_bestQuestion_120 ?_
          refine g_Fe_wires R dX10_bestQuestion_121 fl_X10_108 ?_
          refine cV2_vw R dX10_bestQuestion_124 (c_Guess_add rfl hP) rc_Guess ml_X10_336 mv_Guess_add (by decide) (Nat.le_of_ble_eq_true rfl) (fun h124 hP => ?_)
          refine v_aload_0 R dX10_bestQuestion_127 ?_
          refine g_Fe_guess R dX10_bestQuestion_128 fl_X10_76 ?_
          refine v_aload_0 R dX10_bestQuestion_131 ?_
          refine g_Fe_nets R dX10_bestQuestion_132 fl_X10_62 ?_
          refine v_aload_0 R dX10_bestQuestion_135 ?_
          refine g_Fe_now R dX10_bestQuestion_136 fl_X10_23 ?_
          refine g_State_place R dX10_bestQuestion_139 fl_X10_142 rfl ?_
          refine v_aload_0 R dX10_bestQuestion_142 ?_
          refine g_Fe_wires R dX10_bestQuestion_143 fl_X10_108 ?_
          refine cV3_vw R dX10_bestQuestion_146 (c_Guess_hear rfl hP) rc_Guess ml_X10_352 mv_Guess_hear (by decide) (Nat.le_of_ble_eq_true rfl) (fun h146 hP => ?_)
          exact J149 h146 hP
set_option maxRecDepth 100000 in
set_option maxHeartbeats 4000000 in
theorem c_Fe_bestQuestion {l : Launch} {D : va_G} {cs : Nat → ClassId} {φ : Nat → Nat} {h : Hp} {P : Int32 → Hp → Prop} (hP : wp_Fe_bestQuestion h P) : Ct l D cs φ M_Fe_bestQuestion [.ref (φ 0)] h (fun rv h2 => ∃ v, rv = some (.int v) ∧ P v h2) := by
  refine Ct.of (lc := [some (.ref (φ 0)), none, none, none]) RX10 5 113 rfl (by decide +kernel) rfl (Nat.le_of_ble_eq_true rfl) rfl rfl (fun V R RI RV => ?_)
  have R : Ru l D cs φ RX10 cX10_bestQuestion 4 5 113 V := R
  have Rt : ∀ pc lc v h, decode cX10_bestQuestion pc = .ok (.ireturn, 1) → P v h → V pc lc [.int v] h := fun pc lc v h hd hp => RI pc lc _ .int h rfl rfl hd ⟨v, rfl, hp⟩
  unfold wp_Fe_bestQuestion at hP
  refine v_aload_0 R dX10_bestQuestion_0 ?_
  refine g_Fe_guess R dX10_bestQuestion_1 fl_X10_76 ?_
  refine cV0_vw R dX10_bestQuestion_4 (c_Guess_clear hP) rc_Guess ml_X10_322 mv_Guess_clear (by decide) (Nat.le_of_ble_eq_true rfl) (fun h4 hP => ?_)
  refine v_aload_0 R dX10_bestQuestion_7 ?_
  refine cV0_vw R dX10_bestQuestion_8 (c_Fe_layAllSeen hP) rc_Fe ml_X10_323 mv_Fe_layAllSeen (by decide) (Nat.le_of_ble_eq_true rfl) (fun h8 hP => ?_)
  refine v_aload_0 R dX10_bestQuestion_11 ?_
  refine g_Fe_nets R dX10_bestQuestion_12 fl_X10_62 ?_
  refine v_aload_0 R dX10_bestQuestion_15 ?_
  refine g_Fe_now R dX10_bestQuestion_16 fl_X10_23 ?_
  refine g_State_kinds R dX10_bestQuestion_19 fl_X10_181 rfl ?_
  refine v_aload_0 R dX10_bestQuestion_22 ?_
  refine g_Fe_now R dX10_bestQuestion_23 fl_X10_23 ?_
  refine g_State_touching R dX10_bestQuestion_26 fl_X10_154 rfl ?_
  refine v_aload_0 R dX10_bestQuestion_29 ?_
  refine g_Fe_now R dX10_bestQuestion_30 fl_X10_23 ?_
  refine g_State_nearTies R dX10_bestQuestion_33 fl_X10_192 rfl ?_
  refine v_aload_0 R dX10_bestQuestion_36 ?_
  refine g_Fe_now R dX10_bestQuestion_37 fl_X10_23 ?_
  refine g_State_farTies R dX10_bestQuestion_40 fl_X10_195 rfl ?_
  refine cV4_vw R dX10_bestQuestion_43 (c_Nets_lay rfl hP) (rc_Nets rfl) ml_X10_296 mv_Nets_lay (by decide) (Nat.le_of_ble_eq_true rfl) (fun h43 hP => ?_)
  refine v_aload_0 R dX10_bestQuestion_46 ?_
  refine g_Fe_now R dX10_bestQuestion_47 fl_X10_23 ?_
  refine g_State_kinds R dX10_bestQuestion_50 fl_X10_181 rfl ?_
  refine v_aload_0 R dX10_bestQuestion_53 ?_
  refine g_Fe_now R dX10_bestQuestion_54 fl_X10_23 ?_
  refine g_State_hours R dX10_bestQuestion_57 fl_X10_145 rfl ?_
  refine cS2_ir R dX10_bestQuestion_60 (c_Fe_passing hP) ml_X10_189 mv_Fe_passing (by decide) (Nat.le_of_ble_eq_true rfl) (fun v60 hP => ?_)
  refine v_istore_1 R dX10_bestQuestion_63 (by decide) rfl ?_
  refine v_aload_0 R dX10_bestQuestion_64 ?_
  refine g_Fe_orders R dX10_bestQuestion_65 fl_X10_69 ?_
  refine cV0_vw R dX10_bestQuestion_68 (c_Orders_start hP) rc_Orders ml_X10_326 mv_Orders_start (by decide) (Nat.le_of_ble_eq_true rfl) (fun h68 hP => ?_)
  refine v_aload_0 R dX10_bestQuestion_71 ?_
  refine cV0_ir R dX10_bestQuestion_72 (c_Fe_countOrders hP) rc_Fe ml_X10_329 mv_Fe_countOrders (by decide) (Nat.le_of_ble_eq_true rfl) (fun v72 hP => ?_)
  refine v_istore_2 R dX10_bestQuestion_75 (by decide) rfl ?_
  refine v_iconst R dX10_bestQuestion_76 (v := (0 : Int32)) (by decide) ?_
  refine v_istore_3 R dX10_bestQuestion_77 (by decide) rfl ?_
  obtain ⟨n78, hP⟩ := hP
  refine L_Fe_bestQuestion_78 R ?_ n78 _ _ hP
  intro h78x hP
  refine v_aload_0 R dX10_bestQuestion_166 ?_
  refine g_Fe_guess R dX10_bestQuestion_167 fl_X10_76 ?_
  refine v_aload_0 R dX10_bestQuestion_170 ?_
  refine g_Fe_wires R dX10_bestQuestion_171 fl_X10_108 ?_
  refine cV1_ir R dX10_bestQuestion_174 (c_Guess_bestPair hP) rc_Guess ml_X10_356 mv_Guess_bestPair (by decide) (Nat.le_of_ble_eq_true rfl) (fun v174 hP => ?_)
  exact Rt _ _ _ _ dX10_bestQuestion_177 hP
set_option maxRecDepth 100000 in
set_option maxHeartbeats 4000000 in
theorem L_Nets_pattern_12 {l : Launch} {D : va_G} {cs : Nat → ClassId} {φ : Nat → Nat} {V : Nat → List (Option Value) → List Value → Hp → Prop} {e0 : Nat} {a2 a3 : Int32} {h : Hp} {E : Int32 → Prop} (R : Ru l D cs φ RX3 cX3_pattern 8 1 21 V) (hk_e0 : kd e0 = 11) (hE : ∀ (a4 : Int32), E a4 → V 66 [none, none, none, none, some (.int a4), none, none, none] [] h) : ∀ (n : Nat) (a4 : Int32) (a5 : Int32), lp_Nets_pattern_12 n e0 a2 a3 a4 a5 h E → V 12 [some (.ref (φ e0)), none, some (.int a2), some (.int a3), some (.int a4), some (.int a5), none, none] [] h := by
  intro n
  induction n with
  | zero => intro a4 a5 hP; exact hP.elim
  | succ n ih =>
    intro a4 a5 hP
    unfold lp_Nets_pattern_12 at hP
    refine v_iload_5 R dX3_pattern_12 ?_
    refine v_iload_2 R dX3_pattern_14 ?_
    refine v_icmp_ge (tgt := 66) R dX3_pattern_15 (by decide) (fun q15 => ?_) (fun q15 => ?_)
    · have hP := hP.1 q15
      refine v_wk R [none, none, none, none, some (.int a4), none, none, none] ⟨rfl, trivial⟩ ?_
      exact hE a4 hP
    · have hP := hP.2 q15
      refine v_aload_0 R dX3_pattern_18 ?_
      refine v_iload_3 R dX3_pattern_19 ?_
      refine v_iload_5 R dX3_pattern_20 ?_
      refine v_iadd R dX3_pattern_22 ?_
      refine cV1_ir R dX3_pattern_23 (c_Nets_of hk_e0 hP) (rc_Nets hk_e0) ml_X3_42 mv_Nets_of (by decide) (Nat.le_of_ble_eq_true rfl) (fun v23 hP => ?_)
      refine v_istore_6 R dX3_pattern_26 (by decide) rfl ?_
      refine v_iload_6 R dX3_pattern_28 ?_
      refine v_iload_3 R dX3_pattern_30 ?_
      refine v_ishr R dX3_pattern_31 ?_
      refine v_bipush R dX3_pattern_32 (v := (31 : Int32)) (by decide) ?_
      refine v_iand R dX3_pattern_34 ?_
      refine v_iload_6 R dX3_pattern_35 ?_
      refine v_bipush R dX3_pattern_37 (v := (10 : Int32)) (by decide) ?_
      refine v_ishr R dX3_pattern_39 ?_
      refine v_iconst R dX3_pattern_40 (v := (1 : Int32)) (by decide) ?_
      refine v_iand R dX3_pattern_41 ?_
      refine v_iconst R dX3_pattern_42 (v := (5 : Int32)) (by decide) ?_
      refine v_ishl R dX3_pattern_43 ?_
      refine v_ior R dX3_pattern_44 ?_
      refine v_istoreL_7 R dX3_pattern_45 (by decide) rfl hP (fun x45 hP => ?_)
      refine v_iload_4 R dX3_pattern_47 ?_
      refine v_iload_7 R dX3_pattern_49 ?_
      refine v_bipush R dX3_pattern_51 (v := (6 : Int32)) (by decide) ?_
      refine v_iload_5 R dX3_pattern_53 ?_
      refine v_imul R dX3_pattern_55 ?_
      refine v_ishl R dX3_pattern_56 ?_
      refine v_ior R dX3_pattern_57 ?_
      refine v_istoreL_4 R dX3_pattern_58 (by decide) rfl hP (fun x58 hP => ?_)
      refine v_iincL_5 R (1 : Int32) dX3_pattern_60 (by decide) rfl (by decide) hP (fun x60 hP => ?_)
      refine v_goto (tgt := 12) R dX3_pattern_63 (by decide) ?_
      refine v_wk R [some (.ref (φ e0)), none, some (.int a2), some (.int a3), some (.int x58), some (.int x60), none, none] ⟨rfl, ⟨rfl, ⟨rfl, ⟨rfl, ⟨rfl, trivial⟩⟩⟩⟩⟩ ?_
      exact ih x58 x60 hP
set_option maxRecDepth 100000 in
set_option maxHeartbeats 4000000 in
theorem c_Nets_pattern {l : Launch} {D : va_G} {cs : Nat → ClassId} {φ : Nat → Nat} {r : Nat} {p0 p1 : Int32} {h : Hp} {P : Int32 → Prop} (hk_r : kd r = 11) (hP : wp_Nets_pattern r p0 p1 h P) : Ct l D cs φ M_Nets_pattern [.ref (φ r), .int p0, .int p1] h (fun rv h2 => ∃ v, rv = some (.int v) ∧ h2 = h ∧ P v) := by
  refine Ct.of (lc := [some (.ref (φ r)), some (.int p0), some (.int p1), none, none, none, none, none]) RX3 1 21 rfl (by decide +kernel) rfl (Nat.le_of_ble_eq_true rfl) rfl rfl (fun V R RI RV => ?_)
  have R : Ru l D cs φ RX3 cX3_pattern 8 1 21 V := R
  have Rt : ∀ pc lc v, decode cX3_pattern pc = .ok (.ireturn, 1) → P v → V pc lc [.int v] h := fun pc lc v hd hp => RI pc lc _ .int h rfl rfl hd ⟨v, rfl, rfl, hp⟩
  unfold wp_Nets_pattern at hP
  refine v_iload_1 R dX3_pattern_0 ?_
  refine v_iconst R dX3_pattern_1 (v := (0 : Int32)) (by decide) ?_
  refine cN2_ir R dX3_pattern_2 (c_Fe_nodeOf hP) mn_X3_45 mv_Fe_nodeOf (by decide) (Nat.le_of_ble_eq_true rfl) (fun v2 hP => ?_)
  refine v_istore_3 R dX3_pattern_5 (by decide) rfl ?_
  refine v_iconst R dX3_pattern_6 (v := (0 : Int32)) (by decide) ?_
  refine v_istore_4 R dX3_pattern_7 (by decide) rfl ?_
  refine v_iconst R dX3_pattern_9 (v := (0 : Int32)) (by decide) ?_
  refine v_istore_5 R dX3_pattern_10 (by decide) rfl ?_
  refine v_wk R [some (.ref (φ r)), none, some (.int p1), some (.int v2), some (.int (0 : Int32)), some (.int (0 : Int32)), none, none] ⟨rfl, ⟨rfl, ⟨rfl, ⟨rfl, ⟨rfl, trivial⟩⟩⟩⟩⟩ ?_
  obtain ⟨n12, hP⟩ := hP
  refine L_Nets_pattern_12 R hk_r ?_ n12 _ _ hP
  intro w12_4 hP
  refine v_iload_4 R dX3_pattern_66 ?_
  exact Rt _ _ _ dX3_pattern_68 hP
set_option maxRecDepth 100000 in
set_option maxHeartbeats 4000000 in
theorem L_Fe_countLeft_66 {l : Launch} {D : va_G} {cs : Nat → ClassId} {φ : Nat → Nat} {V : Nat → List (Option Value) → List Value → Hp → Prop} {a1 a2 a4 : Int32} {E : Int32 → Hp → Prop} (R : Ru l D cs φ RX10 cX10_countLeft 6 4 91 V) (hE : ∀ (a3 : Int32) (h : Hp), E a3 h → V 134 [none, none, none, some (.int a3), none, none] [] h) : ∀ (n : Nat) (a3 : Int32) (a5 : Int32) (h : Hp), lp_Fe_countLeft_66 n a1 a2 a4 a3 a5 h E → V 66 [some (.ref (φ 0)), some (.int a1), some (.int a2), some (.int a3), some (.int a4), some (.int a5)] [] h := by
  intro n
  induction n with
  | zero => intro a3 a5 h hP; exact hP.elim
  | succ n ih =>
    intro a3 a5 h hP
    unfold lp_Fe_countLeft_66 at hP
    refine v_iload_5 R dX10_countLeft_66 ?_
    refine v_iload_4 R dX10_countLeft_68 ?_
    refine v_icmp_ge (tgt := 134) R dX10_countLeft_70 (by decide) (fun q70 => ?_) (fun q70 => ?_)
    · have hP := hP.1 q70
      refine v_wk R [none, none, none, some (.int a3), none, none] ⟨rfl, trivial⟩ ?_
      exact hE a3 h hP
    · have hP := hP.2 q70
      refine v_aload_0 R dX10_countLeft_73 ?_
      refine g_Fe_nets R dX10_countLeft_74 fl_X10_62 ?_
      refine v_aload_0 R dX10_countLeft_77 ?_
      refine g_Fe_orders R dX10_countLeft_78 fl_X10_69 ?_
      refine g_Orders_wireOf R dX10_countLeft_81 fl_X10_315 ?_
      refine v_aload_0 R dX10_countLeft_84 ?_
      refine g_Fe_wires R dX10_countLeft_85 fl_X10_108 ?_
      refine v_iload_2 R dX10_countLeft_88 ?_
      refine cV3_vw R dX10_countLeft_89 (c_Nets_join rfl rfl hP) (rc_Nets rfl) ml_X10_300 mv_Nets_join (by decide) (Nat.le_of_ble_eq_true rfl) (fun h89 hP => ?_)
      refine v_aload_0 R dX10_countLeft_92 ?_
      refine g_Fe_nets R dX10_countLeft_93 fl_X10_62 ?_
      refine v_aload_0 R dX10_countLeft_96 ?_
      refine g_Fe_now R dX10_countLeft_97 fl_X10_23 ?_
      refine g_State_place R dX10_countLeft_100 fl_X10_142 rfl ?_
      refine v_aload_0 R dX10_countLeft_103 ?_
      refine g_Fe_wires R dX10_countLeft_104 fl_X10_108 ?_
      refine cV2_ir R dX10_countLeft_107 (c_Nets_pattern rfl hP) (rc_Nets rfl) ml_X10_359 mv_Nets_pattern (by decide) (Nat.le_of_ble_eq_true rfl) (fun v107 hP => ?_)
      refine v_iload_1 R dX10_countLeft_110 ?_
      refine jn_v (fun K => ∀ (y117_3 : Int32), K y117_3 → V 117 [some (.ref (φ 0)), some (.int a1), some (.int a2), some (.int y117_3), some (.int a4), some (.int a5)] [] h89) ?_ ?_ hP
      · intro y117_3 hP
        refine v_aload_0 R dX10_countLeft_117 ?_
        refine g_Fe_orders R dX10_countLeft_118 fl_X10_69 ?_
        refine v_aload_0 R dX10_countLeft_121 ?_
        refine g_Fe_wires R dX10_countLeft_122 fl_X10_108 ?_
        refine cV1_vw R dX10_countLeft_125 (c_Orders_advance hP) rc_Orders ml_X10_339 mv_Orders_advance (by decide) (Nat.le_of_ble_eq_true rfl) (fun h125 hP => ?_)
        refine v_iincL_5 R (1 : Int32) dX10_countLeft_128 (by decide) rfl (by decide) hP (fun x128 hP => ?_)
        refine v_goto (tgt := 66) R dX10_countLeft_131 (by decide) ?_
        exact ih y117_3 x128 h125 hP
      · intro K J117 hP
        refine v_icmp_ne (tgt := 117) R dX10_countLeft_111 (by decide) (fun q111 => ?_) (fun q111 => ?_)
        · have hP := hP.1 q111
          exact J117 a3 hP
        · have hP := hP.2 q111
          refine v_iincL_3 R (1 : Int32) dX10_countLeft_114 (by decide) rfl (by decide) hP (fun x114 hP => ?_)
          exact J117 x114 hP
set_option maxRecDepth 100000 in
set_option maxHeartbeats 4000000 in
theorem c_Fe_countLeft {l : Launch} {D : va_G} {cs : Nat → ClassId} {φ : Nat → Nat} {h : Hp} {P : Int32 → Hp → Prop} (hP : wp_Fe_countLeft h P) : Ct l D cs φ M_Fe_countLeft [.ref (φ 0)] h (fun rv h2 => ∃ v, rv = some (.int v) ∧ P v h2) := by
  refine Ct.of (lc := [some (.ref (φ 0)), none, none, none, none, none]) RX10 4 91 rfl (by decide +kernel) rfl (Nat.le_of_ble_eq_true rfl) rfl rfl (fun V R RI RV => ?_)
  have R : Ru l D cs φ RX10 cX10_countLeft 6 4 91 V := R
  have Rt : ∀ pc lc v h, decode cX10_countLeft pc = .ok (.ireturn, 1) → P v h → V pc lc [.int v] h := fun pc lc v h hd hp => RI pc lc _ .int h rfl rfl hd ⟨v, rfl, hp⟩
  unfold wp_Fe_countLeft at hP
  refine v_aload_0 R dX10_countLeft_0 ?_
  refine v_aload_0 R dX10_countLeft_1 ?_
  refine g_Fe_now R dX10_countLeft_2 fl_X10_23 ?_
  refine g_State_kinds R dX10_countLeft_5 fl_X10_181 rfl ?_
  refine cV1_vw R dX10_countLeft_8 (c_Fe_joinAll hP) rc_Fe ml_X10_204 mv_Fe_joinAll (by decide) (Nat.le_of_ble_eq_true rfl) (fun h8 hP => ?_)
  refine v_aload_0 R dX10_countLeft_11 ?_
  refine g_Fe_nets R dX10_countLeft_12 fl_X10_62 ?_
  refine v_aload_0 R dX10_countLeft_15 ?_
  refine g_Fe_now R dX10_countLeft_16 fl_X10_23 ?_
  refine g_State_place R dX10_countLeft_19 fl_X10_142 rfl ?_
  refine v_aload_0 R dX10_countLeft_22 ?_
  refine g_Fe_wires R dX10_countLeft_23 fl_X10_108 ?_
  refine cV2_ir R dX10_countLeft_26 (c_Nets_pattern rfl hP) (rc_Nets rfl) ml_X10_359 mv_Nets_pattern (by decide) (Nat.le_of_ble_eq_true rfl) (fun v26 hP => ?_)
  refine v_istore_1 R dX10_countLeft_29 (by decide) rfl ?_
  refine v_aload_0 R dX10_countLeft_30 ?_
  refine g_Fe_now R dX10_countLeft_31 fl_X10_23 ?_
  refine g_State_kinds R dX10_countLeft_34 fl_X10_181 rfl ?_
  refine v_aload_0 R dX10_countLeft_37 ?_
  refine g_Fe_now R dX10_countLeft_38 fl_X10_23 ?_
  refine g_State_hours R dX10_countLeft_41 fl_X10_145 rfl ?_
  refine cS2_ir R dX10_countLeft_44 (c_Fe_passing hP) ml_X10_189 mv_Fe_passing (by decide) (Nat.le_of_ble_eq_true rfl) (fun v44 hP => ?_)
  refine v_istore_2 R dX10_countLeft_47 (by decide) rfl ?_
  refine v_iconst R dX10_countLeft_48 (v := (0 : Int32)) (by decide) ?_
  refine v_istore_3 R dX10_countLeft_49 (by decide) rfl ?_
  refine v_aload_0 R dX10_countLeft_50 ?_
  refine g_Fe_orders R dX10_countLeft_51 fl_X10_69 ?_
  refine cV0_vw R dX10_countLeft_54 (c_Orders_start hP) rc_Orders ml_X10_326 mv_Orders_start (by decide) (Nat.le_of_ble_eq_true rfl) (fun h54 hP => ?_)
  refine v_aload_0 R dX10_countLeft_57 ?_
  refine cV0_ir R dX10_countLeft_58 (c_Fe_countOrders hP) rc_Fe ml_X10_329 mv_Fe_countOrders (by decide) (Nat.le_of_ble_eq_true rfl) (fun v58 hP => ?_)
  refine v_istore_4 R dX10_countLeft_61 (by decide) rfl ?_
  refine v_iconst R dX10_countLeft_63 (v := (0 : Int32)) (by decide) ?_
  refine v_istore_5 R dX10_countLeft_64 (by decide) rfl ?_
  obtain ⟨n66, hP⟩ := hP
  refine L_Fe_countLeft_66 R ?_ n66 _ _ _ hP
  intro w66_3 h66x hP
  refine v_iload_3 R dX10_countLeft_134 ?_
  exact Rt _ _ _ _ dX10_countLeft_135 hP
set_option maxRecDepth 100000 in
set_option maxHeartbeats 4000000 in
theorem c_Fe_told {l : Launch} {D : va_G} {cs : Nat → ClassId} {φ : Nat → Nat} {p0 : Int32} {h : Hp} {P : Int32 → Hp → Prop} (hP : wp_Fe_told p0 h P) : Ct l D cs φ M_Fe_told [.ref (φ 0), .int p0] h (fun rv h2 => ∃ v, rv = some (.int v) ∧ P v h2) := by
  refine Ct.of (lc := [some (.ref (φ 0)), some (.int p0)]) RX10 7 155 rfl (by decide +kernel) rfl (Nat.le_of_ble_eq_true rfl) rfl rfl (fun V R RI RV => ?_)
  have R : Ru l D cs φ RX10 cX10_told 2 7 155 V := R
  have Rt : ∀ pc lc v h, decode cX10_told pc = .ok (.ireturn, 1) → P v h → V pc lc [.int v] h := fun pc lc v h hd hp => RI pc lc _ .int h rfl rfl hd ⟨v, rfl, hp⟩
  unfold wp_Fe_told at hP
  refine v_iload_1 R dX10_told_0 ?_
  by_cases q1_0 : p0 = (0 : Int32)
  · have hP := hP.1 q1_0
    refine v_tabEq (tgt := 72) R dX10_told_1 (0 : Int32) q1_0 (by decide) (by decide) rfl (by decide) ?_
    refine v_aload_0 R dX10_told_72 ?_
    refine g_Fe_wires R dX10_told_73 fl_X10_108 ?_
    exact Rt _ _ _ _ dX10_told_76 hP
  have hP := hP.2 q1_0
  by_cases q1_1 : p0 = (1 : Int32)
  · have hP := hP.1 q1_1
    refine v_tabEq (tgt := 77) R dX10_told_1 (1 : Int32) q1_1 (by decide) (by decide) rfl (by decide) ?_
    refine v_aload_0 R dX10_told_77 ?_
    refine g_Fe_now R dX10_told_78 fl_X10_23 ?_
    refine g_State_place R dX10_told_81 fl_X10_142 rfl ?_
    exact Rt _ _ _ _ dX10_told_84 hP
  have hP := hP.2 q1_1
  by_cases q1_2 : p0 = (2 : Int32)
  · have hP := hP.1 q1_2
    refine v_tabEq (tgt := 85) R dX10_told_1 (2 : Int32) q1_2 (by decide) (by decide) rfl (by decide) ?_
    refine v_aload_0 R dX10_told_85 ?_
    refine g_Fe_now R dX10_told_86 fl_X10_23 ?_
    refine g_State_hours R dX10_told_89 fl_X10_145 rfl ?_
    exact Rt _ _ _ _ dX10_told_92 hP
  have hP := hP.2 q1_2
  by_cases q1_3 : p0 = (3 : Int32)
  · have hP := hP.1 q1_3
    refine v_tabEq (tgt := 93) R dX10_told_1 (3 : Int32) q1_3 (by decide) (by decide) rfl (by decide) ?_
    refine v_aload_0 R dX10_told_93 ?_
    refine g_Fe_now R dX10_told_94 fl_X10_23 ?_
    refine g_State_crosses R dX10_told_97 fl_X10_148 rfl ?_
    exact Rt _ _ _ _ dX10_told_100 hP
  have hP := hP.2 q1_3
  by_cases q1_4 : p0 = (4 : Int32)
  · have hP := hP.1 q1_4
    refine v_tabEq (tgt := 101) R dX10_told_1 (4 : Int32) q1_4 (by decide) (by decide) rfl (by decide) ?_
    refine v_aload_0 R dX10_told_101 ?_
    refine g_Fe_now R dX10_told_102 fl_X10_23 ?_
    refine g_State_tests R dX10_told_105 fl_X10_151 rfl ?_
    exact Rt _ _ _ _ dX10_told_108 hP
  have hP := hP.2 q1_4
  by_cases q1_5 : p0 = (5 : Int32)
  · have hP := hP.1 q1_5
    refine v_tabEq (tgt := 109) R dX10_told_1 (5 : Int32) q1_5 (by decide) (by decide) rfl (by decide) ?_
    refine v_aload_0 R dX10_told_109 ?_
    refine g_Fe_reading R dX10_told_110 fl_X10_10 ?_
    refine g_Reading_length R dX10_told_113 fl_X10_94 ?_
    exact Rt _ _ _ _ dX10_told_116 hP
  have hP := hP.2 q1_5
  by_cases q1_6 : p0 = (6 : Int32)
  · have hP := hP.1 q1_6
    refine v_tabEq (tgt := 117) R dX10_told_1 (6 : Int32) q1_6 (by decide) (by decide) rfl (by decide) ?_
    refine v_aload_0 R dX10_told_117 ?_
    refine g_Fe_now R dX10_told_118 fl_X10_23 ?_
    refine g_State_touching R dX10_told_121 fl_X10_154 rfl ?_
    refine cS1_ir R dX10_told_124 (c_Int_bitCount hP) ml_X10_155 mv_Int_bitCount (by decide) (Nat.le_of_ble_eq_true rfl) (fun v124 hP => ?_)
    exact Rt _ _ _ _ dX10_told_127 hP
  have hP := hP.2 q1_6
  by_cases q1_7 : p0 = (7 : Int32)
  · have hP := hP.1 q1_7
    refine v_tabEq (tgt := 128) R dX10_told_1 (7 : Int32) q1_7 (by decide) (by decide) rfl (by decide) ?_
    refine v_aload_0 R dX10_told_128 ?_
    refine cV0_iw R dX10_told_129 (c_Fe_goodWires hP) rc_Fe ml_X10_161 mv_Fe_goodWires (by decide) (Nat.le_of_ble_eq_true rfl) (fun v129 h129 hP => ?_)
    exact Rt _ _ _ _ dX10_told_132 hP
  have hP := hP.2 q1_7
  by_cases q1_8 : p0 = (8 : Int32)
  · have hP := hP.1 q1_8
    refine v_tabEq (tgt := 133) R dX10_told_1 (8 : Int32) q1_8 (by decide) (by decide) rfl (by decide) ?_
    refine v_aload_0 R dX10_told_133 ?_
    refine cV0_iw R dX10_told_134 (c_Fe_countCouldBe hP) rc_Fe ml_X10_165 mv_Fe_countCouldBe (by decide) (Nat.le_of_ble_eq_true rfl) (fun v134 h134 hP => ?_)
    exact Rt _ _ _ _ dX10_told_137 hP
  have hP := hP.2 q1_8
  by_cases q1_9 : p0 = (9 : Int32)
  · have hP := hP.1 q1_9
    refine v_tabEq (tgt := 138) R dX10_told_1 (9 : Int32) q1_9 (by decide) (by decide) rfl (by decide) ?_
    refine v_aload_0 R dX10_told_138 ?_
    refine cV0_iw R dX10_told_139 (c_Fe_bestQuestion hP) rc_Fe ml_X10_168 mv_Fe_bestQuestion (by decide) (Nat.le_of_ble_eq_true rfl) (fun v139 h139 hP => ?_)
    exact Rt _ _ _ _ dX10_told_142 hP
  have hP := hP.2 q1_9
  by_cases q1_10 : p0 = (10 : Int32)
  · have hP := hP.1 q1_10
    refine v_tabEq (tgt := 143) R dX10_told_1 (10 : Int32) q1_10 (by decide) (by decide) rfl (by decide) ?_
    refine v_aload_0 R dX10_told_143 ?_
    refine cV0_iw R dX10_told_144 (c_Fe_countLeft hP) rc_Fe ml_X10_171 mv_Fe_countLeft (by decide) (Nat.le_of_ble_eq_true rfl) (fun v144 h144 hP => ?_)
    exact Rt _ _ _ _ dX10_told_147 hP
  have hP := hP.2 q1_10
  by_cases q1_11 : p0 = (11 : Int32)
  · have hP := hP.1 q1_11
    refine v_tabEq (tgt := 148) R dX10_told_1 (11 : Int32) q1_11 (by decide) (by decide) rfl (by decide) ?_
    refine v_aload_0 R dX10_told_148 ?_
    refine g_Fe_seenCount R dX10_told_149 fl_X10_133 ?_
    exact Rt _ _ _ _ dX10_told_152 hP
  have hP := hP.2 q1_11
  by_cases q1_12 : p0 = (12 : Int32)
  · have hP := hP.1 q1_12
    refine v_tabEq (tgt := 153) R dX10_told_1 (12 : Int32) q1_12 (by decide) (by decide) rfl (by decide) ?_
    refine v_aload_0 R dX10_told_153 ?_
    refine g_Fe_bookCount R dX10_told_154 fl_X10_136 ?_
    exact Rt _ _ _ _ dX10_told_157 hP
  have hP := hP.2 q1_12
  by_cases q1_13 : p0 = (13 : Int32)
  · have hP := hP.1 q1_13
    refine v_tabEq (tgt := 158) R dX10_told_1 (13 : Int32) q1_13 (by decide) (by decide) rfl (by decide) ?_
    refine v_aload_0 R dX10_told_158 ?_
    refine g_Fe_past R dX10_told_159 fl_X10_30 ?_
    refine g_Past_count R dX10_told_162 fl_X10_174 ?_
    exact Rt _ _ _ _ dX10_told_165 hP
  have hP := hP.2 q1_13
  refine v_tabDf (tgt := 166) R dX10_told_1 (by have e0 := lv_neT (a := 0) q1_0 rfl; have e1 := lv_neT (a := 1) q1_1 rfl; have e2 := lv_neT (a := 2) q1_2 rfl; have e3 := lv_neT (a := 3) q1_3 rfl; have e4 := lv_neT (a := 4) q1_4 rfl; have e5 := lv_neT (a := 5) q1_5 rfl; have e6 := lv_neT (a := 6) q1_6 rfl; have e7 := lv_neT (a := 7) q1_7 rfl; have e8 := lv_neT (a := 8) q1_8 rfl; have e9 := lv_neT (a := 9) q1_9 rfl; have e10 := lv_neT (a := 10) q1_10 rfl; have e11 := lv_neT (a := 11) q1_11 rfl; have e12 := lv_neT (a := 12) q1_12 rfl; have e13 := lv_neT (a := 13) q1_13 rfl; omega) (by decide) ?_
  refine v_ldc R dX10_told_166 ct_X10_89 ?_
  exact Rt _ _ _ _ dX10_told_168 hP
set_option maxRecDepth 100000 in
set_option maxHeartbeats 4000000 in
theorem c_Fe_isNumber {l : Launch} {D : va_G} {cs : Nat → ClassId} {φ : Nat → Nat} {p0 : Int32} {h : Hp} {P : Bool → Prop} (hP : wp_Fe_isNumber p0 h P) : Ct l D cs φ M_Fe_isNumber [.ref (φ 0), .int p0] h (fun rv h2 => ∃ v, rv = some (.int (bI v)) ∧ h2 = h ∧ P v) := by
  refine Ct.of (lc := [some (.ref (φ 0)), some (.int p0)]) RX10 0 0 rfl (by decide +kernel) rfl (Nat.le_of_ble_eq_true rfl) rfl rfl (fun V R RI RV => ?_)
  have R : Ru l D cs φ RX10 cX10_isNumber 2 0 0 V := R
  have Rt : ∀ pc lc v, decode cX10_isNumber pc = .ok (.ireturn, 1) → P v → V pc lc [.int (bI v)] h := fun pc lc v hd hp => RI pc lc _ .boolean h rfl (bI_n v) hd ⟨v, rfl, rfl, hp⟩
  unfold wp_Fe_isNumber at hP
  refine v_iload_1 R dX10_isNumber_0 ?_
  refine v_if_lt (tgt := 21) R dX10_isNumber_1 (by decide) (fun q1 => ?_) (fun q1 => ?_)
  · have hP := hP.1 q1
    refine v_iconst R dX10_isNumber_21 (v := (0 : Int32)) (by decide) ?_
    exact Rt _ _ false dX10_isNumber_22 hP
  · have hP := hP.2 q1
    refine v_iload_1 R dX10_isNumber_4 ?_
    refine v_aload_0 R dX10_isNumber_5 ?_
    refine g_Fe_wires R dX10_isNumber_6 fl_X10_108 ?_
    refine v_icmp_ge (tgt := 21) R dX10_isNumber_9 (by decide) (fun q9 => ?_) (fun q9 => ?_)
    · have hP := hP.1 q9
      refine v_iconst R dX10_isNumber_21 (v := (0 : Int32)) (by decide) ?_
      exact Rt _ _ false dX10_isNumber_22 hP
    · have hP := hP.2 q9
      refine v_iload_1 R dX10_isNumber_12 ?_
      refine v_iconst R dX10_isNumber_13 (v := (5 : Int32)) (by decide) ?_
      refine v_icmp_ge (tgt := 21) R dX10_isNumber_14 (by decide) (fun q14 => ?_) (fun q14 => ?_)
      · have hP := hP.1 q14
        refine v_iconst R dX10_isNumber_21 (v := (0 : Int32)) (by decide) ?_
        exact Rt _ _ false dX10_isNumber_22 hP
      · have hP := hP.2 q14
        refine v_iconst R dX10_isNumber_17 (v := (1 : Int32)) (by decide) ?_
        refine v_goto (tgt := 22) R dX10_isNumber_18 (by decide) ?_
        exact Rt _ _ true dX10_isNumber_22 hP
set_option maxRecDepth 100000 in
set_option maxHeartbeats 4000000 in
theorem L_Fe_farEndOf_2 {l : Launch} {D : va_G} {cs : Nat → ClassId} {φ : Nat → Nat} {V : Nat → List (Option Value) → List Value → Hp → Prop} {a1 : Int32} {h : Hp} {E : Prop} {P : Int32 → Prop} (R : Ru l D cs φ RX10 cX10_farEndOf 3 0 0 V) (hE : E → V 33 [none, none, none] [] h) (Rt : ∀ pc lc v, decode cX10_farEndOf pc = .ok (.ireturn, 1) → P v → V pc lc [.int v] h) : ∀ (n : Nat) (a2 : Int32), lp_Fe_farEndOf_2 n a1 a2 h E P → V 2 [some (.ref (φ 0)), some (.int a1), some (.int a2)] [] h := by
  intro n
  induction n with
  | zero => intro a2 hP; exact hP.elim
  | succ n ih =>
    intro a2 hP
    unfold lp_Fe_farEndOf_2 at hP
    refine v_iload_2 R dX10_farEndOf_2 ?_
    refine v_aload_0 R dX10_farEndOf_3 ?_
    refine g_Fe_wires R dX10_farEndOf_4 fl_X10_108 ?_
    refine v_icmp_ge (tgt := 33) R dX10_farEndOf_7 (by decide) (fun q7 => ?_) (fun q7 => ?_)
    · have hP := hP.1 q7
      refine v_wk R [none, none, none] trivial ?_
      exact hE hP
    · have hP := hP.2 q7
      refine v_iload_2 R dX10_farEndOf_10 ?_
      refine v_iconst R dX10_farEndOf_11 (v := (5 : Int32)) (by decide) ?_
      refine v_icmp_ge (tgt := 33) R dX10_farEndOf_12 (by decide) (fun q12 => ?_) (fun q12 => ?_)
      · have hP := hP.1 q12
        refine v_wk R [none, none, none] trivial ?_
        exact hE hP
      · have hP := hP.2 q12
        refine v_aload_0 R dX10_farEndOf_15 ?_
        refine g_Fe_order R dX10_farEndOf_16 fl_X10_16 ?_
        refine v_iload_2 R dX10_farEndOf_19 ?_
        obtain ⟨hi20, hP⟩ := hP
        refine v_iald R dX10_farEndOf_20 rfl hi20 ?_
        refine v_iload_1 R dX10_farEndOf_21 ?_
        refine v_icmp_ne (tgt := 27) R dX10_farEndOf_22 (by decide) (fun q22 => ?_) (fun q22 => ?_)
        · have hP := hP.1 q22
          refine v_iincL_2 R (1 : Int32) dX10_farEndOf_27 (by decide) rfl (by decide) hP (fun x27 hP => ?_)
          refine v_goto (tgt := 2) R dX10_farEndOf_30 (by decide) ?_
          exact ih x27 hP
        · have hP := hP.2 q22
          refine v_iload_2 R dX10_farEndOf_25 ?_
          exact Rt _ _ _ dX10_farEndOf_26 hP
set_option maxRecDepth 100000 in
set_option maxHeartbeats 4000000 in
theorem c_Fe_farEndOf {l : Launch} {D : va_G} {cs : Nat → ClassId} {φ : Nat → Nat} {p0 : Int32} {h : Hp} {P : Int32 → Prop} (hP : wp_Fe_farEndOf p0 h P) : Ct l D cs φ M_Fe_farEndOf [.ref (φ 0), .int p0] h (fun rv h2 => ∃ v, rv = some (.int v) ∧ h2 = h ∧ P v) := by
  refine Ct.of (lc := [some (.ref (φ 0)), some (.int p0), none]) RX10 0 0 rfl (by decide +kernel) rfl (Nat.le_of_ble_eq_true rfl) rfl rfl (fun V R RI RV => ?_)
  have R : Ru l D cs φ RX10 cX10_farEndOf 3 0 0 V := R
  have Rt : ∀ pc lc v, decode cX10_farEndOf pc = .ok (.ireturn, 1) → P v → V pc lc [.int v] h := fun pc lc v hd hp => RI pc lc _ .int h rfl rfl hd ⟨v, rfl, rfl, hp⟩
  unfold wp_Fe_farEndOf at hP
  refine v_iconst R dX10_farEndOf_0 (v := (0 : Int32)) (by decide) ?_
  refine v_istore_2 R dX10_farEndOf_1 (by decide) rfl ?_
  obtain ⟨n2, hP⟩ := hP
  refine L_Fe_farEndOf_2 R ?_ Rt n2 _ hP
  intro  hP
  refine v_iconst R dX10_farEndOf_33 (v := (-1 : Int32)) (by decide) ?_
  exact Rt _ _ _ dX10_farEndOf_34 hP
set_option maxRecDepth 100000 in
set_option maxHeartbeats 4000000 in
theorem c_Fe_wire {l : Launch} {D : va_G} {cs : Nat → ClassId} {φ : Nat → Nat} {p0 p1 : Int32} {h : Hp} {P : Int32 → Prop} (hP : wp_Fe_wire p0 p1 h P) : Ct l D cs φ M_Fe_wire [.ref (φ 0), .int p0, .int p1] h (fun rv h2 => ∃ v, rv = some (.int v) ∧ h2 = h ∧ P v) := by
  refine Ct.of (lc := [some (.ref (φ 0)), some (.int p0), some (.int p1)]) RX10 2 46 rfl (by decide +kernel) rfl (Nat.le_of_ble_eq_true rfl) rfl rfl (fun V R RI RV => ?_)
  have R : Ru l D cs φ RX10 cX10_wire 3 2 46 V := R
  have Rt : ∀ pc lc v, decode cX10_wire pc = .ok (.ireturn, 1) → P v → V pc lc [.int v] h := fun pc lc v hd hp => RI pc lc _ .int h rfl rfl hd ⟨v, rfl, rfl, hp⟩
  unfold wp_Fe_wire at hP
  refine v_aload_0 R dX10_wire_0 ?_
  refine v_iload_1 R dX10_wire_1 ?_
  refine cV1_br R dX10_wire_2 (c_Fe_isNumber hP) rc_Fe ml_X10_177 mv_Fe_isNumber (by decide) (Nat.le_of_ble_eq_true rfl) (fun v2 hP => ?_)
  refine v_ifb_ne (tgt := 11) R dX10_wire_5 (by decide) (fun q5 => ?_) (fun q5 => ?_)
  · have hP := hP.1 q5
    refine v_iload_2 R dX10_wire_11 ?_
    by_cases q12_0 : p1 = (0 : Int32)
    · have hP := hP.1 q12_0
      refine v_tabEq (tgt := 44) R dX10_wire_12 (0 : Int32) q12_0 (by decide) (by decide) rfl (by decide) ?_
      refine v_aload_0 R dX10_wire_44 ?_
      refine g_Fe_now R dX10_wire_45 fl_X10_23 ?_
      refine g_State_kinds R dX10_wire_48 fl_X10_181 rfl ?_
      refine v_iload_1 R dX10_wire_51 ?_
      refine cS2_ir R dX10_wire_52 (c_Fe_part hP) ml_X10_182 mv_Fe_part (by decide) (Nat.le_of_ble_eq_true rfl) (fun v52 hP => ?_)
      exact Rt _ _ _ dX10_wire_55 hP
    have hP := hP.2 q12_0
    by_cases q12_1 : p1 = (1 : Int32)
    · have hP := hP.1 q12_1
      refine v_tabEq (tgt := 56) R dX10_wire_12 (1 : Int32) q12_1 (by decide) (by decide) rfl (by decide) ?_
      refine v_aload_0 R dX10_wire_56 ?_
      refine v_iload_1 R dX10_wire_57 ?_
      refine cV1_ir R dX10_wire_58 (c_Fe_farEndOf hP) rc_Fe ml_X10_186 mv_Fe_farEndOf (by decide) (Nat.le_of_ble_eq_true rfl) (fun v58 hP => ?_)
      exact Rt _ _ _ dX10_wire_61 hP
    have hP := hP.2 q12_1
    by_cases q12_2 : p1 = (2 : Int32)
    · have hP := hP.1 q12_2
      refine v_tabEq (tgt := 62) R dX10_wire_12 (2 : Int32) q12_2 (by decide) (by decide) rfl (by decide) ?_
      refine v_aload_0 R dX10_wire_62 ?_
      refine g_Fe_now R dX10_wire_63 fl_X10_23 ?_
      refine g_State_kinds R dX10_wire_66 fl_X10_181 rfl ?_
      refine v_aload_0 R dX10_wire_69 ?_
      refine g_Fe_now R dX10_wire_70 fl_X10_23 ?_
      refine g_State_hours R dX10_wire_73 fl_X10_145 rfl ?_
      refine cS2_ir R dX10_wire_76 (c_Fe_passing hP) ml_X10_189 mv_Fe_passing (by decide) (Nat.le_of_ble_eq_true rfl) (fun v76 hP => ?_)
      refine v_iload_1 R dX10_wire_79 ?_
      refine v_ishr R dX10_wire_80 ?_
      refine v_iconst R dX10_wire_81 (v := (1 : Int32)) (by decide) ?_
      refine v_iand R dX10_wire_82 ?_
      exact Rt _ _ _ dX10_wire_83 hP
    have hP := hP.2 q12_2
    by_cases q12_3 : p1 = (3 : Int32)
    · have hP := hP.1 q12_3
      refine v_tabEq (tgt := 84) R dX10_wire_12 (3 : Int32) q12_3 (by decide) (by decide) rfl (by decide) ?_
      refine v_aload_0 R dX10_wire_84 ?_
      refine g_Fe_now R dX10_wire_85 fl_X10_23 ?_
      refine g_State_nearTies R dX10_wire_88 fl_X10_192 rfl ?_
      refine v_iload_1 R dX10_wire_91 ?_
      refine cS2_ir R dX10_wire_92 (c_Fe_part hP) ml_X10_182 mv_Fe_part (by decide) (Nat.le_of_ble_eq_true rfl) (fun v92 hP => ?_)
      exact Rt _ _ _ dX10_wire_95 hP
    have hP := hP.2 q12_3
    refine v_tabDf (tgt := 96) R dX10_wire_12 (by have e0 := lv_neT (a := 0) q12_0 rfl; have e1 := lv_neT (a := 1) q12_1 rfl; have e2 := lv_neT (a := 2) q12_2 rfl; have e3 := lv_neT (a := 3) q12_3 rfl; omega) (by decide) ?_
    refine v_ldc R dX10_wire_96 ct_X10_89 ?_
    exact Rt _ _ _ dX10_wire_98 hP
  · have hP := hP.2 q5
    refine v_ldc R dX10_wire_8 ct_X10_180 ?_
    exact Rt _ _ _ dX10_wire_10 hP
set_option maxRecDepth 100000 in
set_option maxHeartbeats 4000000 in
theorem c_Fe_couldBeOf {l : Launch} {D : va_G} {cs : Nat → ClassId} {φ : Nat → Nat} {p0 : Int32} {h : Hp} {P : Int32 → Hp → Prop} (hP : wp_Fe_couldBeOf p0 h P) : Ct l D cs φ M_Fe_couldBeOf [.ref (φ 0), .int p0] h (fun rv h2 => ∃ v, rv = some (.int v) ∧ P v h2) := by
  refine Ct.of (lc := [some (.ref (φ 0)), some (.int p0)]) RX10 6 135 rfl (by decide +kernel) rfl (Nat.le_of_ble_eq_true rfl) rfl rfl (fun V R RI RV => ?_)
  have R : Ru l D cs φ RX10 cX10_couldBeOf 2 6 135 V := R
  have Rt : ∀ pc lc v h, decode cX10_couldBeOf pc = .ok (.ireturn, 1) → P v h → V pc lc [.int v] h := fun pc lc v h hd hp => RI pc lc _ .int h rfl rfl hd ⟨v, rfl, hp⟩
  unfold wp_Fe_couldBeOf at hP
  refine v_aload_0 R dX10_couldBeOf_0 ?_
  refine cV0_vw R dX10_couldBeOf_1 (c_Fe_guessOrders hP) rc_Fe ml_X10_342 mv_Fe_guessOrders (by decide) (Nat.le_of_ble_eq_true rfl) (fun h1 hP => ?_)
  refine v_aload_0 R dX10_couldBeOf_4 ?_
  refine g_Fe_guess R dX10_couldBeOf_5 fl_X10_76 ?_
  refine g_Guess_sets R dX10_couldBeOf_8 fl_X10_346 ?_
  refine v_iload_1 R dX10_couldBeOf_11 ?_
  obtain ⟨hi12, hP⟩ := hP
  refine v_iald R dX10_couldBeOf_12 rfl hi12 ?_
  exact Rt _ _ _ _ dX10_couldBeOf_13 hP
set_option maxRecDepth 100000 in
set_option maxHeartbeats 4000000 in
theorem c_Fe_firstCouldBeOf {l : Launch} {D : va_G} {cs : Nat → ClassId} {φ : Nat → Nat} {p0 : Int32} {h : Hp} {P : Int32 → Hp → Prop} (hP : wp_Fe_firstCouldBeOf p0 h P) : Ct l D cs φ M_Fe_firstCouldBeOf [.ref (φ 0), .int p0] h (fun rv h2 => ∃ v, rv = some (.int v) ∧ P v h2) := by
  refine Ct.of (lc := [some (.ref (φ 0)), some (.int p0)]) RX10 6 135 rfl (by decide +kernel) rfl (Nat.le_of_ble_eq_true rfl) rfl rfl (fun V R RI RV => ?_)
  have R : Ru l D cs φ RX10 cX10_firstCouldBeOf 2 6 135 V := R
  have Rt : ∀ pc lc v h, decode cX10_firstCouldBeOf pc = .ok (.ireturn, 1) → P v h → V pc lc [.int v] h := fun pc lc v h hd hp => RI pc lc _ .int h rfl rfl hd ⟨v, rfl, hp⟩
  unfold wp_Fe_firstCouldBeOf at hP
  refine v_aload_0 R dX10_firstCouldBeOf_0 ?_
  refine cV0_vw R dX10_firstCouldBeOf_1 (c_Fe_guessOrders hP) rc_Fe ml_X10_342 mv_Fe_guessOrders (by decide) (Nat.le_of_ble_eq_true rfl) (fun h1 hP => ?_)
  refine v_aload_0 R dX10_firstCouldBeOf_4 ?_
  refine g_Fe_guess R dX10_firstCouldBeOf_5 fl_X10_76 ?_
  refine g_Guess_count R dX10_firstCouldBeOf_8 fl_X10_345 ?_
  refine v_if_ne (tgt := 18) R dX10_firstCouldBeOf_11 (by decide) (fun q11 => ?_) (fun q11 => ?_)
  · have hP := hP.1 q11
    refine v_aload_0 R dX10_firstCouldBeOf_18 ?_
    refine g_Fe_guess R dX10_firstCouldBeOf_19 fl_X10_76 ?_
    refine g_Guess_first R dX10_firstCouldBeOf_22 fl_X10_349 ?_
    refine v_iload_1 R dX10_firstCouldBeOf_25 ?_
    obtain ⟨hi26, hP⟩ := hP
    refine v_iald R dX10_firstCouldBeOf_26 rfl hi26 ?_
    exact Rt _ _ _ _ dX10_firstCouldBeOf_27 hP
  · have hP := hP.2 q11
    refine v_iconst R dX10_firstCouldBeOf_14 (v := (-1 : Int32)) (by decide) ?_
    refine v_goto (tgt := 27) R dX10_firstCouldBeOf_15 (by decide) ?_
    exact Rt _ _ _ _ dX10_firstCouldBeOf_27 hP
set_option maxRecDepth 100000 in
set_option maxHeartbeats 4000000 in
theorem c_Fe_end {l : Launch} {D : va_G} {cs : Nat → ClassId} {φ : Nat → Nat} {p0 p1 : Int32} {h : Hp} {P : Int32 → Hp → Prop} (hP : wp_Fe_end p0 p1 h P) : Ct l D cs φ M_Fe_end [.ref (φ 0), .int p0, .int p1] h (fun rv h2 => ∃ v, rv = some (.int v) ∧ P v h2) := by
  refine Ct.of (lc := [some (.ref (φ 0)), some (.int p0), some (.int p1)]) RX10 7 156 rfl (by decide +kernel) rfl (Nat.le_of_ble_eq_true rfl) rfl rfl (fun V R RI RV => ?_)
  have R : Ru l D cs φ RX10 cX10_end 3 7 156 V := R
  have Rt : ∀ pc lc v h, decode cX10_end pc = .ok (.ireturn, 1) → P v h → V pc lc [.int v] h := fun pc lc v h hd hp => RI pc lc _ .int h rfl rfl hd ⟨v, rfl, hp⟩
  unfold wp_Fe_end at hP
  refine v_aload_0 R dX10_end_0 ?_
  refine v_iload_1 R dX10_end_1 ?_
  refine cV1_br R dX10_end_2 (c_Fe_isNumber hP) rc_Fe ml_X10_177 mv_Fe_isNumber (by decide) (Nat.le_of_ble_eq_true rfl) (fun v2 hP => ?_)
  refine v_ifb_ne (tgt := 11) R dX10_end_5 (by decide) (fun q5 => ?_) (fun q5 => ?_)
  · have hP := hP.1 q5
    refine v_iload_2 R dX10_end_11 ?_
    by_cases q12_0 : p1 = (0 : Int32)
    · have hP := hP.1 q12_0
      refine v_tabEq (tgt := 44) R dX10_end_12 (0 : Int32) q12_0 (by decide) (by decide) rfl (by decide) ?_
      refine v_aload_0 R dX10_end_44 ?_
      refine g_Fe_order R dX10_end_45 fl_X10_16 ?_
      refine v_iload_1 R dX10_end_48 ?_
      obtain ⟨hi49, hP⟩ := hP
      refine v_iald R dX10_end_49 rfl hi49 ?_
      exact Rt _ _ _ _ dX10_end_50 hP
    have hP := hP.2 q12_0
    by_cases q12_1 : p1 = (1 : Int32)
    · have hP := hP.1 q12_1
      refine v_tabEq (tgt := 51) R dX10_end_12 (1 : Int32) q12_1 (by decide) (by decide) rfl (by decide) ?_
      refine v_aload_0 R dX10_end_51 ?_
      refine g_Fe_now R dX10_end_52 fl_X10_23 ?_
      refine g_State_farTies R dX10_end_55 fl_X10_195 rfl ?_
      refine v_iload_1 R dX10_end_58 ?_
      refine cS2_ir R dX10_end_59 (c_Fe_part hP) ml_X10_182 mv_Fe_part (by decide) (Nat.le_of_ble_eq_true rfl) (fun v59 hP => ?_)
      exact Rt _ _ _ _ dX10_end_62 hP
    have hP := hP.2 q12_1
    by_cases q12_2 : p1 = (2 : Int32)
    · have hP := hP.1 q12_2
      refine v_tabEq (tgt := 63) R dX10_end_12 (2 : Int32) q12_2 (by decide) (by decide) rfl (by decide) ?_
      refine v_aload_0 R dX10_end_63 ?_
      refine v_iload_1 R dX10_end_64 ?_
      refine cV1_iw R dX10_end_65 (c_Fe_couldBeOf hP) rc_Fe ml_X10_198 mv_Fe_couldBeOf (by decide) (Nat.le_of_ble_eq_true rfl) (fun v65 h65 hP => ?_)
      exact Rt _ _ _ _ dX10_end_68 hP
    have hP := hP.2 q12_2
    by_cases q12_3 : p1 = (3 : Int32)
    · have hP := hP.1 q12_3
      refine v_tabEq (tgt := 69) R dX10_end_12 (3 : Int32) q12_3 (by decide) (by decide) rfl (by decide) ?_
      refine v_aload_0 R dX10_end_69 ?_
      refine v_iload_1 R dX10_end_70 ?_
      refine cV1_iw R dX10_end_71 (c_Fe_firstCouldBeOf hP) rc_Fe ml_X10_201 mv_Fe_firstCouldBeOf (by decide) (Nat.le_of_ble_eq_true rfl) (fun v71 h71 hP => ?_)
      exact Rt _ _ _ _ dX10_end_74 hP
    have hP := hP.2 q12_3
    refine v_tabDf (tgt := 75) R dX10_end_12 (by have e0 := lv_neT (a := 0) q12_0 rfl; have e1 := lv_neT (a := 1) q12_1 rfl; have e2 := lv_neT (a := 2) q12_2 rfl; have e3 := lv_neT (a := 3) q12_3 rfl; omega) (by decide) ?_
    refine v_ldc R dX10_end_75 ct_X10_89 ?_
    exact Rt _ _ _ _ dX10_end_77 hP
  · have hP := hP.2 q5
    refine v_ldc R dX10_end_8 ct_X10_180 ?_
    exact Rt _ _ _ _ dX10_end_10 hP
set_option maxRecDepth 100000 in
set_option maxHeartbeats 4000000 in
theorem c_Fe_net {l : Launch} {D : va_G} {cs : Nat → ClassId} {φ : Nat → Nat} {p0 p1 : Int32} {h : Hp} {P : Int32 → Hp → Prop} (hP : wp_Fe_net p0 p1 h P) : Ct l D cs φ M_Fe_net [.ref (φ 0), .int p0, .int p1] h (fun rv h2 => ∃ v, rv = some (.int v) ∧ P v h2) := by
  refine Ct.of (lc := [some (.ref (φ 0)), some (.int p0), some (.int p1)]) RX10 4 91 rfl (by decide +kernel) rfl (Nat.le_of_ble_eq_true rfl) rfl rfl (fun V R RI RV => ?_)
  have R : Ru l D cs φ RX10 cX10_net 3 4 91 V := R
  have Rt : ∀ pc lc v h, decode cX10_net pc = .ok (.ireturn, 1) → P v h → V pc lc [.int v] h := fun pc lc v h hd hp => RI pc lc _ .int h rfl rfl hd ⟨v, rfl, hp⟩
  unfold wp_Fe_net at hP
  refine v_aload_0 R dX10_net_0 ?_
  refine v_iload_2 R dX10_net_1 ?_
  refine cV1_br R dX10_net_2 (c_Fe_isNumber hP) rc_Fe ml_X10_177 mv_Fe_isNumber (by decide) (Nat.le_of_ble_eq_true rfl) (fun v2 hP => ?_)
  refine v_ifb_ne (tgt := 11) R dX10_net_5 (by decide) (fun q5 => ?_) (fun q5 => ?_)
  · have hP := hP.1 q5
    refine v_iload_1 R dX10_net_11 ?_
    refine v_if_lt (tgt := 20) R dX10_net_12 (by decide) (fun q12 => ?_) (fun q12 => ?_)
    · have hP := hP.1 q12
      refine v_ldc R dX10_net_20 ct_X10_89 ?_
      exact Rt _ _ _ _ dX10_net_22 hP
    · have hP := hP.2 q12
      refine v_iload_1 R dX10_net_15 ?_
      refine v_iconst R dX10_net_16 (v := (1 : Int32)) (by decide) ?_
      refine v_icmp_le (tgt := 23) R dX10_net_17 (by decide) (fun q17 => ?_) (fun q17 => ?_)
      · have hP := hP.1 q17
        refine v_aload_0 R dX10_net_23 ?_
        refine v_aload_0 R dX10_net_24 ?_
        refine g_Fe_now R dX10_net_25 fl_X10_23 ?_
        refine g_State_kinds R dX10_net_28 fl_X10_181 rfl ?_
        refine cV1_vw R dX10_net_31 (c_Fe_joinAll hP) rc_Fe ml_X10_204 mv_Fe_joinAll (by decide) (Nat.le_of_ble_eq_true rfl) (fun h31 hP => ?_)
        refine v_aload_0 R dX10_net_34 ?_
        refine g_Fe_nets R dX10_net_35 fl_X10_62 ?_
        refine v_iload_1 R dX10_net_38 ?_
        refine v_iload_2 R dX10_net_39 ?_
        refine cS2_ir R dX10_net_40 (c_Fe_nodeOf hP) ml_X10_208 mv_Fe_nodeOf (by decide) (Nat.le_of_ble_eq_true rfl) (fun v40 hP => ?_)
        refine cV1_ir R dX10_net_43 (c_Nets_of rfl hP) (rc_Nets rfl) ml_X10_211 mv_Nets_of (by decide) (Nat.le_of_ble_eq_true rfl) (fun v43 hP => ?_)
        exact Rt _ _ _ _ dX10_net_46 hP
      · have hP := hP.2 q17
        refine v_ldc R dX10_net_20 ct_X10_89 ?_
        exact Rt _ _ _ _ dX10_net_22 hP
  · have hP := hP.2 q5
    refine v_ldc R dX10_net_8 ct_X10_180 ?_
    exact Rt _ _ _ _ dX10_net_10 hP
set_option maxRecDepth 100000 in
set_option maxHeartbeats 4000000 in
theorem c_Fe_areTwo {l : Launch} {D : va_G} {cs : Nat → ClassId} {φ : Nat → Nat} {p0 p1 : Int32} {h : Hp} {P : Bool → Prop} (hP : wp_Fe_areTwo p0 p1 h P) : Ct l D cs φ M_Fe_areTwo [.ref (φ 0), .int p0, .int p1] h (fun rv h2 => ∃ v, rv = some (.int (bI v)) ∧ h2 = h ∧ P v) := by
  refine Ct.of (lc := [some (.ref (φ 0)), some (.int p0), some (.int p1)]) RX10 1 21 rfl (by decide +kernel) rfl (Nat.le_of_ble_eq_true rfl) rfl rfl (fun V R RI RV => ?_)
  have R : Ru l D cs φ RX10 cX10_areTwo 3 1 21 V := R
  have Rt : ∀ pc lc v, decode cX10_areTwo pc = .ok (.ireturn, 1) → P v → V pc lc [.int (bI v)] h := fun pc lc v hd hp => RI pc lc _ .boolean h rfl (bI_n v) hd ⟨v, rfl, rfl, hp⟩
  unfold wp_Fe_areTwo at hP
  refine v_aload_0 R dX10_areTwo_0 ?_
  refine v_iload_1 R dX10_areTwo_1 ?_
  refine cV1_br R dX10_areTwo_2 (c_Fe_isNumber hP) rc_Fe ml_X10_177 mv_Fe_isNumber (by decide) (Nat.le_of_ble_eq_true rfl) (fun v2 hP => ?_)
  refine v_ifb_eq (tgt := 25) R dX10_areTwo_5 (by decide) (fun q5 => ?_) (fun q5 => ?_)
  · have hP := hP.1 q5
    refine v_iconst R dX10_areTwo_25 (v := (0 : Int32)) (by decide) ?_
    exact Rt _ _ false dX10_areTwo_26 hP
  · have hP := hP.2 q5
    refine v_aload_0 R dX10_areTwo_8 ?_
    refine v_iload_2 R dX10_areTwo_9 ?_
    refine cV1_br R dX10_areTwo_10 (c_Fe_isNumber hP) rc_Fe ml_X10_177 mv_Fe_isNumber (by decide) (Nat.le_of_ble_eq_true rfl) (fun v10 hP => ?_)
    refine v_ifb_eq (tgt := 25) R dX10_areTwo_13 (by decide) (fun q13 => ?_) (fun q13 => ?_)
    · have hP := hP.1 q13
      refine v_iconst R dX10_areTwo_25 (v := (0 : Int32)) (by decide) ?_
      exact Rt _ _ false dX10_areTwo_26 hP
    · have hP := hP.2 q13
      refine v_iload_1 R dX10_areTwo_16 ?_
      refine v_iload_2 R dX10_areTwo_17 ?_
      refine v_icmp_eq (tgt := 25) R dX10_areTwo_18 (by decide) (fun q18 => ?_) (fun q18 => ?_)
      · have hP := hP.1 q18
        refine v_iconst R dX10_areTwo_25 (v := (0 : Int32)) (by decide) ?_
        exact Rt _ _ false dX10_areTwo_26 hP
      · have hP := hP.2 q18
        refine v_iconst R dX10_areTwo_21 (v := (1 : Int32)) (by decide) ?_
        refine v_goto (tgt := 26) R dX10_areTwo_22 (by decide) ?_
        exact Rt _ _ true dX10_areTwo_26 hP
set_option maxRecDepth 100000 in
set_option maxHeartbeats 4000000 in
theorem c_Fe_canHold {l : Launch} {D : va_G} {cs : Nat → ClassId} {φ : Nat → Nat} {p0 p1 : Int32} {h : Hp} {P : Bool → Prop} (hP : wp_Fe_canHold p0 p1 h P) : Ct l D cs φ M_Fe_canHold [.ref (φ 0), .int p0, .int p1] h (fun rv h2 => ∃ v, rv = some (.int (bI v)) ∧ h2 = h ∧ P v) := by
  refine Ct.of (lc := [some (.ref (φ 0)), some (.int p0), some (.int p1)]) RX10 2 43 rfl (by decide +kernel) rfl (Nat.le_of_ble_eq_true rfl) rfl rfl (fun V R RI RV => ?_)
  have R : Ru l D cs φ RX10 cX10_canHold 3 2 43 V := R
  have Rt : ∀ pc lc v, decode cX10_canHold pc = .ok (.ireturn, 1) → P v → V pc lc [.int (bI v)] h := fun pc lc v hd hp => RI pc lc _ .boolean h rfl (bI_n v) hd ⟨v, rfl, rfl, hp⟩
  unfold wp_Fe_canHold at hP
  refine v_iload_2 R dX10_canHold_0 ?_
  refine v_iconst R dX10_canHold_1 (v := (-1 : Int32)) (by decide) ?_
  refine v_icmp_ne (tgt := 13) R dX10_canHold_2 (by decide) (fun q2 => ?_) (fun q2 => ?_)
  · have hP := hP.1 q2
    refine v_aload_0 R dX10_canHold_13 ?_
    refine v_iload_1 R dX10_canHold_14 ?_
    refine v_iload_2 R dX10_canHold_15 ?_
    refine cV2_br R dX10_canHold_16 (c_Fe_areTwo hP) rc_Fe ml_X10_222 mv_Fe_areTwo (by decide) (Nat.le_of_ble_eq_true rfl) (fun v16 hP => ?_)
    exact Rt _ _ _ dX10_canHold_19 hP
  · have hP := hP.2 q2
    refine v_aload_0 R dX10_canHold_5 ?_
    refine v_iload_1 R dX10_canHold_6 ?_
    refine cV1_br R dX10_canHold_7 (c_Fe_isNumber hP) rc_Fe ml_X10_177 mv_Fe_isNumber (by decide) (Nat.le_of_ble_eq_true rfl) (fun v7 hP => ?_)
    refine v_goto (tgt := 19) R dX10_canHold_10 (by decide) ?_
    exact Rt _ _ _ dX10_canHold_19 hP
