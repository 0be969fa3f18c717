set_option maxRecDepth 100000 in
set_option maxHeartbeats 4000000 in
theorem c_Reading_add {l : Launch} {D : va_G} {cs : Nat → ClassId} {φ : Nat → Nat} {p0 : Int32} {h : Hp} {P : Bool → Hp → Prop} (hP : wp_Reading_add p0 h P) : Ct l D cs φ M_Reading_add [.ref (φ 1), .int p0] h (fun rv h2 => ∃ v, rv = some (.int (bI v)) ∧ P v h2) := by
  refine Ct.of (lc := [some (.ref (φ 1)), some (.int p0)]) RX6 0 0 rfl (by decide +kernel) rfl (Nat.le_of_ble_eq_true rfl) rfl rfl (fun V R RI RV => ?_)
  have R : Ru l D cs φ RX6 cX6_add 2 0 0 V := R
  have Rt : ∀ pc lc v h, decode cX6_add pc = .ok (.ireturn, 1) → P v h → V pc lc [.int (bI v)] h := fun pc lc v h hd hp => RI pc lc _ .boolean h rfl (bI_n v) hd ⟨v, rfl, hp⟩
  unfold wp_Reading_add at hP
  refine v_aload_0 R dX6_add_0 ?_
  refine g_Reading_length R dX6_add_1 fl_X6_22 ?_
  refine v_if_lt (tgt := 17) R dX6_add_4 (by decide) (fun q4 => ?_) (fun q4 => ?_)
  · have hP := hP.1 q4
    refine v_iconst R dX6_add_17 (v := (0 : Int32)) (by decide) ?_
    exact Rt _ _ false _ dX6_add_18 hP
  · have hP := hP.2 q4
    refine v_aload_0 R dX6_add_7 ?_
    refine g_Reading_length R dX6_add_8 fl_X6_22 ?_
    refine v_sipush R dX6_add_11 (v := (240 : Int32)) (by decide) ?_
    refine v_icmp_lt (tgt := 19) R dX6_add_14 (by decide) (fun q14 => ?_) (fun q14 => ?_)
    · have hP := hP.1 q14
      refine v_aload_0 R dX6_add_19 ?_
      refine g_Reading_text R dX6_add_20 fl_X6_9 ?_
      refine v_aload_0 R dX6_add_23 ?_
      refine g_Reading_length R dX6_add_24 fl_X6_22 ?_
      refine v_iload_1 R dX6_add_27 ?_
      obtain ⟨hi28, hP⟩ := hP
      refine v_iastL R dX6_add_28 rfl hi28 hP (fun h28 hP => ?_)
      refine v_aload_0 R dX6_add_29 ?_
      refine v_dup R dX6_add_30 rfl ?_
      refine g_Reading_length R dX6_add_31 fl_X6_22 ?_
      refine v_iconst R dX6_add_34 (v := (1 : Int32)) (by decide) ?_
      refine v_iadd R dX6_add_35 ?_
      refine p_Reading_length R dX6_add_36 fl_X6_22 hP (fun h36 hP => ?_)
      refine v_iconst R dX6_add_39 (v := (1 : Int32)) (by decide) ?_
      exact Rt _ _ true _ dX6_add_40 hP
    · have hP := hP.2 q14
      refine v_iconst R dX6_add_17 (v := (0 : Int32)) (by decide) ?_
      exact Rt _ _ false _ dX6_add_18 hP
set_option maxRecDepth 100000 in
set_option maxHeartbeats 4000000 in
theorem c_Fe_feed {l : Launch} {D : va_G} {cs : Nat → ClassId} {φ : Nat → Nat} {p0 : Int32} {h : Hp} {P : Int32 → Hp → Prop} (hP : wp_Fe_feed p0 h P) : Ct l D cs φ M_Fe_feed [.ref (φ 0), .int p0] h (fun rv h2 => ∃ v, rv = some (.int v) ∧ P v h2) := by
  refine Ct.of (lc := [some (.ref (φ 0)), some (.int p0)]) RX10 1 21 rfl (by decide +kernel) rfl (Nat.le_of_ble_eq_true rfl) rfl rfl (fun V R RI RV => ?_)
  have R : Ru l D cs φ RX10 cX10_feed 2 1 21 V := R
  have Rt : ∀ pc lc v h, decode cX10_feed pc = .ok (.ireturn, 1) → P v h → V pc lc [.int v] h := fun pc lc v h hd hp => RI pc lc _ .int h rfl rfl hd ⟨v, rfl, hp⟩
  unfold wp_Fe_feed at hP
  refine v_iload_1 R dX10_feed_0 ?_
  refine v_if_lt (tgt := 11) R dX10_feed_1 (by decide) (fun q1 => ?_) (fun q1 => ?_)
  · have hP := hP.1 q1
    refine v_ldc R dX10_feed_11 ct_X10_89 ?_
    exact Rt _ _ _ _ dX10_feed_13 hP
  · have hP := hP.2 q1
    refine v_iload_1 R dX10_feed_4 ?_
    refine v_sipush R dX10_feed_5 (v := (255 : Int32)) (by decide) ?_
    refine v_icmp_le (tgt := 14) R dX10_feed_8 (by decide) (fun q8 => ?_) (fun q8 => ?_)
    · have hP := hP.1 q8
      refine v_aload_0 R dX10_feed_14 ?_
      refine g_Fe_reading R dX10_feed_15 fl_X10_10 ?_
      refine v_iload_1 R dX10_feed_18 ?_
      refine cV1_bw R dX10_feed_19 (c_Reading_add hP) rc_Reading ml_X10_90 mv_Reading_add (by decide) (Nat.le_of_ble_eq_true rfl) (fun v19 h19 hP => ?_)
      refine v_ifb_eq (tgt := 35) R dX10_feed_22 (by decide) (fun q22 => ?_) (fun q22 => ?_)
      · have hP := hP.1 q22
        refine v_ldc R dX10_feed_35 ct_X10_98 ?_
        exact Rt _ _ _ _ dX10_feed_37 hP
      · have hP := hP.2 q22
        refine v_aload_0 R dX10_feed_25 ?_
        refine g_Fe_reading R dX10_feed_26 fl_X10_10 ?_
        refine g_Reading_length R dX10_feed_29 fl_X10_94 ?_
        refine v_goto (tgt := 37) R dX10_feed_32 (by decide) ?_
        exact Rt _ _ _ _ dX10_feed_37 hP
    · have hP := hP.2 q8
      refine v_ldc R dX10_feed_11 ct_X10_89 ?_
      exact Rt _ _ _ _ dX10_feed_13 hP
set_option maxRecDepth 100000 in
set_option maxHeartbeats 4000000 in
theorem c_Reading_letterAt {l : Launch} {D : va_G} {cs : Nat → ClassId} {φ : Nat → Nat} {p0 : Int32} {h : Hp} {P : Int32 → Prop} (hP : wp_Reading_letterAt p0 h P) : Ct l D cs φ M_Reading_letterAt [.ref (φ 1), .int p0] h (fun rv h2 => ∃ v, rv = some (.int v) ∧ h2 = h ∧ P v) := by
  refine Ct.of (lc := [some (.ref (φ 1)), some (.int p0)]) RX6 0 0 rfl (by decide +kernel) rfl (Nat.le_of_ble_eq_true rfl) rfl rfl (fun V R RI RV => ?_)
  have R : Ru l D cs φ RX6 cX6_letterAt 2 0 0 V := R
  have Rt : ∀ pc lc v, decode cX6_letterAt pc = .ok (.ireturn, 1) → P v → V pc lc [.int v] h := fun pc lc v hd hp => RI pc lc _ .int h rfl rfl hd ⟨v, rfl, rfl, hp⟩
  unfold wp_Reading_letterAt at hP
  refine v_iload_1 R dX6_letterAt_0 ?_
  refine v_if_lt (tgt := 28) R dX6_letterAt_1 (by decide) (fun q1 => ?_) (fun q1 => ?_)
  · have hP := hP.1 q1
    refine v_iconst R dX6_letterAt_28 (v := (-1 : Int32)) (by decide) ?_
    exact Rt _ _ _ dX6_letterAt_29 hP
  · have hP := hP.2 q1
    refine v_iload_1 R dX6_letterAt_4 ?_
    refine v_aload_0 R dX6_letterAt_5 ?_
    refine g_Reading_length R dX6_letterAt_6 fl_X6_22 ?_
    refine v_icmp_ge (tgt := 28) R dX6_letterAt_9 (by decide) (fun q9 => ?_) (fun q9 => ?_)
    · have hP := hP.1 q9
      refine v_iconst R dX6_letterAt_28 (v := (-1 : Int32)) (by decide) ?_
      exact Rt _ _ _ dX6_letterAt_29 hP
    · have hP := hP.2 q9
      refine v_iload_1 R dX6_letterAt_12 ?_
      refine v_sipush R dX6_letterAt_13 (v := (240 : Int32)) (by decide) ?_
      refine v_icmp_ge (tgt := 28) R dX6_letterAt_16 (by decide) (fun q16 => ?_) (fun q16 => ?_)
      · have hP := hP.1 q16
        refine v_iconst R dX6_letterAt_28 (v := (-1 : Int32)) (by decide) ?_
        exact Rt _ _ _ dX6_letterAt_29 hP
      · have hP := hP.2 q16
        refine v_aload_0 R dX6_letterAt_19 ?_
        refine g_Reading_text R dX6_letterAt_20 fl_X6_9 ?_
        refine v_iload_1 R dX6_letterAt_23 ?_
        obtain ⟨hi24, hP⟩ := hP
        refine v_iald R dX6_letterAt_24 rfl hi24 ?_
        refine v_goto (tgt := 29) R dX6_letterAt_25 (by decide) ?_
        exact Rt _ _ _ dX6_letterAt_29 hP
set_option maxRecDepth 100000 in
set_option maxHeartbeats 4000000 in
theorem L_Reading_upNext_0 {l : Launch} {D : va_G} {cs : Nat → ClassId} {φ : Nat → Nat} {V : Nat → List (Option Value) → List Value → Hp → Prop} {E : Hp → Prop} (R : Ru l D cs φ RX6 cX6_upNext 1 1 21 V) (hE : ∀ (h : Hp), E h → V 48 [some (.ref (φ 1))] [] h) : ∀ (n : Nat)  (h : Hp), lp_Reading_upNext_0 n h E → V 0 [some (.ref (φ 1))] [] h := by
  intro n
  induction n with
  | zero => intro h hP; exact hP.elim
  | succ n ih =>
    intro h hP
    unfold lp_Reading_upNext_0 at hP
    refine v_aload_0 R dX6_upNext_0 ?_
    refine g_Reading_at R dX6_upNext_1 fl_X6_25 ?_
    refine v_aload_0 R dX6_upNext_4 ?_
    refine g_Reading_length R dX6_upNext_5 fl_X6_22 ?_
    refine v_icmp_ge (tgt := 48) R dX6_upNext_8 (by decide) (fun q8 => ?_) (fun q8 => ?_)
    · have hP := hP.1 q8
      exact hE h hP
    · have hP := hP.2 q8
      refine v_aload_0 R dX6_upNext_11 ?_
      refine g_Reading_at R dX6_upNext_12 fl_X6_25 ?_
      refine v_sipush R dX6_upNext_15 (v := (240 : Int32)) (by decide) ?_
      refine v_icmp_ge (tgt := 48) R dX6_upNext_18 (by decide) (fun q18 => ?_) (fun q18 => ?_)
      · have hP := hP.1 q18
        exact hE h hP
      · have hP := hP.2 q18
        refine v_aload_0 R dX6_upNext_21 ?_
        refine g_Reading_text R dX6_upNext_22 fl_X6_9 ?_
        refine v_aload_0 R dX6_upNext_25 ?_
        refine g_Reading_at R dX6_upNext_26 fl_X6_25 ?_
        obtain ⟨hi29, hP⟩ := hP
        refine v_iald R dX6_upNext_29 rfl hi29 ?_
        refine v_bipush R dX6_upNext_30 (v := (32 : Int32)) (by decide) ?_
        refine v_icmp_ne (tgt := 48) R dX6_upNext_32 (by decide) (fun q32 => ?_) (fun q32 => ?_)
        · have hP := hP.1 q32
          exact hE h hP
        · have hP := hP.2 q32
          refine v_aload_0 R dX6_upNext_35 ?_
          refine v_dup R dX6_upNext_36 rfl ?_
          refine g_Reading_at R dX6_upNext_37 fl_X6_25 ?_
          refine v_iconst R dX6_upNext_40 (v := (1 : Int32)) (by decide) ?_
          refine v_iadd R dX6_upNext_41 ?_
          refine p_Reading_at R dX6_upNext_42 fl_X6_25 hP (fun h42 hP => ?_)
          refine v_goto (tgt := 0) R dX6_upNext_45 (by decide) ?_
          exact ih h42 hP
set_option maxRecDepth 100000 in
set_option maxHeartbeats 4000000 in
theorem c_Reading_upNext {l : Launch} {D : va_G} {cs : Nat → ClassId} {φ : Nat → Nat} {h : Hp} {P : Int32 → Hp → Prop} (hP : wp_Reading_upNext h P) : Ct l D cs φ M_Reading_upNext [.ref (φ 1)] h (fun rv h2 => ∃ v, rv = some (.int v) ∧ P v h2) := by
  refine Ct.of (lc := [some (.ref (φ 1))]) RX6 1 21 rfl (by decide +kernel) rfl (Nat.le_of_ble_eq_true rfl) rfl rfl (fun V R RI RV => ?_)
  have R : Ru l D cs φ RX6 cX6_upNext 1 1 21 V := R
  have Rt : ∀ pc lc v h, decode cX6_upNext pc = .ok (.ireturn, 1) → P v h → V pc lc [.int v] h := fun pc lc v h hd hp => RI pc lc _ .int h rfl rfl hd ⟨v, rfl, hp⟩
  unfold wp_Reading_upNext at hP
  obtain ⟨n0, hP⟩ := hP
  refine L_Reading_upNext_0 R ?_ n0 _ hP
  intro h0x hP
  refine v_aload_0 R dX6_upNext_48 ?_
  refine v_aload_0 R dX6_upNext_49 ?_
  refine g_Reading_at R dX6_upNext_50 fl_X6_25 ?_
  refine cV1_ir R dX6_upNext_53 (c_Reading_letterAt hP) rc_Reading ml_X6_86 mv_Reading_letterAt (by decide) (Nat.le_of_ble_eq_true rfl) (fun v53 hP => ?_)
  exact Rt _ _ _ _ dX6_upNext_56 hP
set_option maxRecDepth 100000 in
set_option maxHeartbeats 4000000 in
theorem c_Reading_blame {l : Launch} {D : va_G} {cs : Nat → ClassId} {φ : Nat → Nat} {p0 p1 : Int32} {h : Hp} {P : Hp → Prop} (hP : wp_Reading_blame p0 p1 h P) : Ct l D cs φ M_Reading_blame [.ref (φ 1), .int p0, .int p1] h (fun rv h2 => rv = none ∧ P h2) := by
  refine Ct.of (lc := [some (.ref (φ 1)), some (.int p0), some (.int p1)]) RX6 0 0 rfl (by decide +kernel) rfl (Nat.le_of_ble_eq_true rfl) rfl rfl (fun V R RI RV => ?_)
  have R : Ru l D cs φ RX6 cX6_blame 3 0 0 V := R
  have Rt : ∀ pc lc h, decode cX6_blame pc = .ok (.return_, 1) → P h → V pc lc [] h := fun pc lc h hd hp => RV pc lc h rfl hd ⟨rfl, hp⟩
  unfold wp_Reading_blame at hP
  refine v_aload_0 R dX6_blame_0 ?_
  refine v_iload_1 R dX6_blame_1 ?_
  refine p_Reading_faultNumber R dX6_blame_2 fl_X6_37 hP (fun h2 hP => ?_)
  refine v_aload_0 R dX6_blame_5 ?_
  refine v_iload_2 R dX6_blame_6 ?_
  refine p_Reading_faultAt R dX6_blame_7 fl_X6_15 hP (fun h7 hP => ?_)
  exact Rt _ _ _ dX6_blame_10 hP
set_option maxRecDepth 100000 in
set_option maxHeartbeats 4000000 in
theorem c_Reading_takeWord {l : Launch} {D : va_G} {cs : Nat → ClassId} {φ : Nat → Nat} {p0 : Int32} {h : Hp} {P : Bool → Hp → Prop} (hP : wp_Reading_takeWord p0 h P) : Ct l D cs φ M_Reading_takeWord [.ref (φ 1), .int p0] h (fun rv h2 => ∃ v, rv = some (.int (bI v)) ∧ P v h2) := by
  refine Ct.of (lc := [some (.ref (φ 1)), some (.int p0)]) RX6 2 41 rfl (by decide +kernel) rfl (Nat.le_of_ble_eq_true rfl) rfl rfl (fun V R RI RV => ?_)
  have R : Ru l D cs φ RX6 cX6_takeWord 2 2 41 V := R
  have Rt : ∀ pc lc v h, decode cX6_takeWord pc = .ok (.ireturn, 1) → P v h → V pc lc [.int (bI v)] h := fun pc lc v h hd hp => RI pc lc _ .boolean h rfl (bI_n v) hd ⟨v, rfl, hp⟩
  unfold wp_Reading_takeWord at hP
  refine v_aload_0 R dX6_takeWord_0 ?_
  refine cV0_iw R dX6_takeWord_1 (c_Reading_upNext hP) rc_Reading ml_X6_40 mv_Reading_upNext (by decide) (Nat.le_of_ble_eq_true rfl) (fun v1 h1 hP => ?_)
  refine v_iload_1 R dX6_takeWord_4 ?_
  refine v_icmp_eq (tgt := 19) R dX6_takeWord_5 (by decide) (fun q5 => ?_) (fun q5 => ?_)
  · have hP := hP.1 q5
    refine v_aload_0 R dX6_takeWord_19 ?_
    refine v_dup R dX6_takeWord_20 rfl ?_
    refine g_Reading_at R dX6_takeWord_21 fl_X6_25 ?_
    refine v_iconst R dX6_takeWord_24 (v := (1 : Int32)) (by decide) ?_
    refine v_iadd R dX6_takeWord_25 ?_
    refine p_Reading_at R dX6_takeWord_26 fl_X6_25 hP (fun h26 hP => ?_)
    refine v_iconst R dX6_takeWord_29 (v := (1 : Int32)) (by decide) ?_
    exact Rt _ _ true _ dX6_takeWord_30 hP
  · have hP := hP.2 q5
    refine v_aload_0 R dX6_takeWord_8 ?_
    refine v_iconst R dX6_takeWord_9 (v := (1 : Int32)) (by decide) ?_
    refine v_aload_0 R dX6_takeWord_10 ?_
    refine g_Reading_at R dX6_takeWord_11 fl_X6_25 ?_
    refine cV2_vw R dX6_takeWord_14 (c_Reading_blame hP) rc_Reading ml_X6_65 mv_Reading_blame (by decide) (Nat.le_of_ble_eq_true rfl) (fun h14 hP => ?_)
    refine v_iconst R dX6_takeWord_17 (v := (0 : Int32)) (by decide) ?_
    exact Rt _ _ false _ dX6_takeWord_18 hP
set_option maxRecDepth 100000 in
set_option maxHeartbeats 4000000 in
theorem c_Reading_isFigure {l : Launch} {D : va_G} {cs : Nat → ClassId} {φ : Nat → Nat} {p0 : Int32} {h : Hp} {P : Bool → Prop} (hP : wp_Reading_isFigure p0 P) : Ct l D cs φ M_Reading_isFigure [.int p0] h (fun rv h2 => ∃ v, rv = some (.int (bI v)) ∧ h2 = h ∧ P v) := by
  refine Ct.of (lc := [some (.int p0)]) RX6 0 0 rfl (by decide +kernel) rfl (Nat.le_of_ble_eq_true rfl) rfl rfl (fun V R RI RV => ?_)
  have R : Ru l D cs φ RX6 cX6_isFigure 1 0 0 V := R
  have Rt : ∀ pc lc v, decode cX6_isFigure pc = .ok (.ireturn, 1) → P v → V pc lc [.int (bI v)] h := fun pc lc v hd hp => RI pc lc _ .boolean h rfl (bI_n v) hd ⟨v, rfl, rfl, hp⟩
  unfold wp_Reading_isFigure at hP
  refine v_iload_0 R dX6_isFigure_0 ?_
  refine v_bipush R dX6_isFigure_1 (v := (48 : Int32)) (by decide) ?_
  refine v_icmp_lt (tgt := 16) R dX6_isFigure_3 (by decide) (fun q3 => ?_) (fun q3 => ?_)
  · have hP := hP.1 q3
    refine v_iconst R dX6_isFigure_16 (v := (0 : Int32)) (by decide) ?_
    exact Rt _ _ false dX6_isFigure_17 hP
  · have hP := hP.2 q3
    refine v_iload_0 R dX6_isFigure_6 ?_
    refine v_bipush R dX6_isFigure_7 (v := (57 : Int32)) (by decide) ?_
    refine v_icmp_gt (tgt := 16) R dX6_isFigure_9 (by decide) (fun q9 => ?_) (fun q9 => ?_)
    · have hP := hP.1 q9
      refine v_iconst R dX6_isFigure_16 (v := (0 : Int32)) (by decide) ?_
      exact Rt _ _ false dX6_isFigure_17 hP
    · have hP := hP.2 q9
      refine v_iconst R dX6_isFigure_12 (v := (1 : Int32)) (by decide) ?_
      refine v_goto (tgt := 17) R dX6_isFigure_13 (by decide) ?_
      exact Rt _ _ true dX6_isFigure_17 hP
set_option maxRecDepth 100000 in
set_option maxHeartbeats 4000000 in
theorem L_Reading_takeNumberWithin_34 {l : Launch} {D : va_G} {cs : Nat → ClassId} {φ : Nat → Nat} {V : Nat → List (Option Value) → List Value → Hp → Prop} {a1 a2 : Int32} {E : Hp → Prop} (R : Ru l D cs φ RX6 cX6_takeNumberWithin 3 2 41 V) (hE : ∀ (h : Hp), E h → V 95 [some (.ref (φ 1)), some (.int a1), some (.int a2)] [] h) : ∀ (n : Nat)  (h : Hp), lp_Reading_takeNumberWithin_34 n a1 a2 h E → V 34 [some (.ref (φ 1)), some (.int a1), some (.int a2)] [] h := by
  intro n
  induction n with
  | zero => intro h hP; exact hP.elim
  | succ n ih =>
    intro h hP
    unfold lp_Reading_takeNumberWithin_34 at hP
    refine v_aload_0 R dX6_takeNumberWithin_34 ?_
    refine g_Reading_at R dX6_takeNumberWithin_35 fl_X6_25 ?_
    refine v_aload_0 R dX6_takeNumberWithin_38 ?_
    refine g_Reading_length R dX6_takeNumberWithin_39 fl_X6_22 ?_
    refine v_icmp_ge (tgt := 95) R dX6_takeNumberWithin_42 (by decide) (fun q42 => ?_) (fun q42 => ?_)
    · have hP := hP.1 q42
      exact hE h hP
    · have hP := hP.2 q42
      refine v_aload_0 R dX6_takeNumberWithin_45 ?_
      refine v_aload_0 R dX6_takeNumberWithin_46 ?_
      refine g_Reading_at R dX6_takeNumberWithin_47 fl_X6_25 ?_
      refine cV1_ir R dX6_takeNumberWithin_50 (c_Reading_letterAt hP) rc_Reading ml_X6_86 mv_Reading_letterAt (by decide) (Nat.le_of_ble_eq_true rfl) (fun v50 hP => ?_)
      refine cS1_br R dX6_takeNumberWithin_53 (c_Reading_isFigure hP) ml_X6_90 mv_Reading_isFigure (by decide) (Nat.le_of_ble_eq_true rfl) (fun v53 hP => ?_)
      refine v_ifb_eq (tgt := 95) R dX6_takeNumberWithin_56 (by decide) (fun q56 => ?_) (fun q56 => ?_)
      · have hP := hP.1 q56
        exact hE h hP
      · have hP := hP.2 q56
        refine v_aload_0 R dX6_takeNumberWithin_59 ?_
        refine v_aload_0 R dX6_takeNumberWithin_60 ?_
        refine g_Reading_number R dX6_takeNumberWithin_61 fl_X6_58 ?_
        refine v_bipush R dX6_takeNumberWithin_64 (v := (10 : Int32)) (by decide) ?_
        refine v_imul R dX6_takeNumberWithin_66 ?_
        refine v_aload_0 R dX6_takeNumberWithin_67 ?_
        refine v_aload_0 R dX6_takeNumberWithin_68 ?_
        refine g_Reading_at R dX6_takeNumberWithin_69 fl_X6_25 ?_
        refine cV1_ir R dX6_takeNumberWithin_72 (c_Reading_letterAt hP) rc_Reading ml_X6_86 mv_Reading_letterAt (by decide) (Nat.le_of_ble_eq_true rfl) (fun v72 hP => ?_)
        refine v_iadd R dX6_takeNumberWithin_75 ?_
        refine v_bipush R dX6_takeNumberWithin_76 (v := (48 : Int32)) (by decide) ?_
        refine v_isub R dX6_takeNumberWithin_78 ?_
        refine p_Reading_number R dX6_takeNumberWithin_79 fl_X6_58 hP (fun h79 hP => ?_)
        refine v_aload_0 R dX6_takeNumberWithin_82 ?_
        refine v_dup R dX6_takeNumberWithin_83 rfl ?_
        refine g_Reading_at R dX6_takeNumberWithin_84 fl_X6_25 ?_
        refine v_iconst R dX6_takeNumberWithin_87 (v := (1 : Int32)) (by decide) ?_
        refine v_iadd R dX6_takeNumberWithin_88 ?_
        refine p_Reading_at R dX6_takeNumberWithin_89 fl_X6_25 hP (fun h89 hP => ?_)
        refine v_goto (tgt := 34) R dX6_takeNumberWithin_92 (by decide) ?_
        exact ih h89 hP
set_option maxRecDepth 100000 in
set_option maxHeartbeats 4000000 in
theorem c_Reading_takeNumberWithin {l : Launch} {D : va_G} {cs : Nat → ClassId} {φ : Nat → Nat} {p0 p1 : Int32} {h : Hp} {P : Bool → Hp → Prop} (hP : wp_Reading_takeNumberWithin p0 p1 h P) : Ct l D cs φ M_Reading_takeNumberWithin [.ref (φ 1), .int p0, .int p1] h (fun rv h2 => ∃ v, rv = some (.int (bI v)) ∧ P v h2) := by
  refine Ct.of (lc := [some (.ref (φ 1)), some (.int p0), some (.int p1)]) RX6 2 41 rfl (by decide +kernel) rfl (Nat.le_of_ble_eq_true rfl) rfl rfl (fun V R RI RV => ?_)
  have R : Ru l D cs φ RX6 cX6_takeNumberWithin 3 2 41 V := R
  have Rt : ∀ pc lc v h, decode cX6_takeNumberWithin pc = .ok (.ireturn, 1) → P v h → V pc lc [.int (bI v)] h := fun pc lc v h hd hp => RI pc lc _ .boolean h rfl (bI_n v) hd ⟨v, rfl, hp⟩
  unfold wp_Reading_takeNumberWithin at hP
  refine v_aload_0 R dX6_takeNumberWithin_0 ?_
  refine cV0_iw R dX6_takeNumberWithin_1 (c_Reading_upNext hP) rc_Reading ml_X6_40 mv_Reading_upNext (by decide) (Nat.le_of_ble_eq_true rfl) (fun v1 h1 hP => ?_)
  refine cS1_br R dX6_takeNumberWithin_4 (c_Reading_isFigure hP) ml_X6_90 mv_Reading_isFigure (by decide) (Nat.le_of_ble_eq_true rfl) (fun v4 hP => ?_)
  refine v_ifb_ne (tgt := 21) R dX6_takeNumberWithin_7 (by decide) (fun q7 => ?_) (fun q7 => ?_)
  · have hP := hP.1 q7
    refine v_aload_0 R dX6_takeNumberWithin_21 ?_
    refine v_iconst R dX6_takeNumberWithin_22 (v := (0 : Int32)) (by decide) ?_
    refine p_Reading_number R dX6_takeNumberWithin_23 fl_X6_58 hP (fun h23 hP => ?_)
    refine v_aload_0 R dX6_takeNumberWithin_26 ?_
    refine v_aload_0 R dX6_takeNumberWithin_27 ?_
    refine g_Reading_at R dX6_takeNumberWithin_28 fl_X6_25 ?_
    refine p_Reading_numberAt R dX6_takeNumberWithin_31 fl_X6_93 hP (fun h31 hP => ?_)
    obtain ⟨n34, hP⟩ := hP
    refine L_Reading_takeNumberWithin_34 R ?_ n34 _ hP
    intro h34x hP
    refine v_aload_0 R dX6_takeNumberWithin_95 ?_
    refine g_Reading_at R dX6_takeNumberWithin_96 fl_X6_25 ?_
    refine v_aload_0 R dX6_takeNumberWithin_99 ?_
    refine g_Reading_numberAt R dX6_takeNumberWithin_100 fl_X6_93 ?_
    refine v_isub R dX6_takeNumberWithin_103 ?_
    refine v_iconst R dX6_takeNumberWithin_104 (v := (3 : Int32)) (by decide) ?_
    refine jn_v (fun K => K → V 124 [some (.ref (φ 1)), none, none] [] h34x) ?_ ?_ hP
    · intro hP
      refine v_aload_0 R dX6_takeNumberWithin_124 ?_
      refine v_iconst R dX6_takeNumberWithin_125 (v := (2 : Int32)) (by decide) ?_
      refine v_aload_0 R dX6_takeNumberWithin_126 ?_
      refine g_Reading_numberAt R dX6_takeNumberWithin_127 fl_X6_93 ?_
      refine cV2_vw R dX6_takeNumberWithin_130 (c_Reading_blame hP) rc_Reading ml_X6_65 mv_Reading_blame (by decide) (Nat.le_of_ble_eq_true rfl) (fun h130 hP => ?_)
      refine v_iconst R dX6_takeNumberWithin_133 (v := (0 : Int32)) (by decide) ?_
      exact Rt _ _ false _ dX6_takeNumberWithin_134 hP
    · intro K J124 hP
      refine v_icmp_gt (tgt := 124) R dX6_takeNumberWithin_105 (by decide) (fun q105 => ?_) (fun q105 => ?_)
      · have hP := hP.1 q105
        refine v_wk R [some (.ref (φ 1)), none, none] ⟨rfl, trivial⟩ ?_
        exact J124 hP
      · have hP := hP.2 q105
        refine v_aload_0 R dX6_takeNumberWithin_108 ?_
        refine g_Reading_number R dX6_takeNumberWithin_109 fl_X6_58 ?_
        refine v_iload_1 R dX6_takeNumberWithin_112 ?_
        refine v_icmp_lt (tgt := 124) R dX6_takeNumberWithin_113 (by decide) (fun q113 => ?_) (fun q113 => ?_)
        · have hP := hP.1 q113
          refine v_wk R [some (.ref (φ 1)), none, none] ⟨rfl, trivial⟩ ?_
          exact J124 hP
        · have hP := hP.2 q113
          refine v_aload_0 R dX6_takeNumberWithin_116 ?_
          refine g_Reading_number R dX6_takeNumberWithin_117 fl_X6_58 ?_
          refine v_iload_2 R dX6_takeNumberWithin_120 ?_
          refine v_icmp_le (tgt := 135) R dX6_takeNumberWithin_121 (by decide) (fun q121 => ?_) (fun q121 => ?_)
          · have hP := hP.1 q121
            refine v_iconst R dX6_takeNumberWithin_135 (v := (1 : Int32)) (by decide) ?_
            exact Rt _ _ true _ dX6_takeNumberWithin_136 hP
          · have hP := hP.2 q121
            refine v_wk R [some (.ref (φ 1)), none, none] ⟨rfl, trivial⟩ ?_
            exact J124 hP
  · have hP := hP.2 q7
    refine v_aload_0 R dX6_takeNumberWithin_10 ?_
    refine v_iconst R dX6_takeNumberWithin_11 (v := (1 : Int32)) (by decide) ?_
    refine v_aload_0 R dX6_takeNumberWithin_12 ?_
    refine g_Reading_at R dX6_takeNumberWithin_13 fl_X6_25 ?_
    refine cV2_vw R dX6_takeNumberWithin_16 (c_Reading_blame hP) rc_Reading ml_X6_65 mv_Reading_blame (by decide) (Nat.le_of_ble_eq_true rfl) (fun h16 hP => ?_)
    refine v_iconst R dX6_takeNumberWithin_19 (v := (0 : Int32)) (by decide) ?_
    exact Rt _ _ false _ dX6_takeNumberWithin_20 hP
set_option maxRecDepth 100000 in
set_option maxHeartbeats 4000000 in
theorem c_Reading_isNew {l : Launch} {D : va_G} {cs : Nat → ClassId} {φ : Nat → Nat} {p0 : Int32} {h : Hp} {P : Bool → Hp → Prop} (hP : wp_Reading_isNew p0 h P) : Ct l D cs φ M_Reading_isNew [.ref (φ 1), .int p0] h (fun rv h2 => ∃ v, rv = some (.int (bI v)) ∧ P v h2) := by
  refine Ct.of (lc := [some (.ref (φ 1)), some (.int p0)]) RX6 1 22 rfl (by decide +kernel) rfl (Nat.le_of_ble_eq_true rfl) rfl rfl (fun V R RI RV => ?_)
  have R : Ru l D cs φ RX6 cX6_isNew 2 1 22 V := R
  have Rt : ∀ pc lc v h, decode cX6_isNew pc = .ok (.ireturn, 1) → P v h → V pc lc [.int (bI v)] h := fun pc lc v h hd hp => RI pc lc _ .boolean h rfl (bI_n v) hd ⟨v, rfl, hp⟩
  unfold wp_Reading_isNew at hP
  refine v_iload_1 R dX6_isNew_0 ?_
  refine v_if_ne (tgt := 13) R dX6_isNew_1 (by decide) (fun q1 => ?_) (fun q1 => ?_)
  · have hP := hP.1 q1
    refine v_iload_1 R dX6_isNew_13 ?_
    exact v_bz hP.1 (Rt _ _ _ _ dX6_isNew_14 hP.2)
  · have hP := hP.2 q1
    refine v_aload_0 R dX6_isNew_4 ?_
    refine v_iconst R dX6_isNew_5 (v := (4 : Int32)) (by decide) ?_
    refine v_aload_0 R dX6_isNew_6 ?_
    refine g_Reading_numberAt R dX6_isNew_7 fl_X6_93 ?_
    refine cV2_vw R dX6_isNew_10 (c_Reading_blame hP) rc_Reading ml_X6_65 mv_Reading_blame (by decide) (Nat.le_of_ble_eq_true rfl) (fun h10 hP => ?_)
    refine v_iload_1 R dX6_isNew_13 ?_
    exact v_bz hP.1 (Rt _ _ _ _ dX6_isNew_14 hP.2)
set_option maxRecDepth 100000 in
set_option maxHeartbeats 4000000 in
theorem L_Reading_readOrder_14 {l : Launch} {D : va_G} {cs : Nat → ClassId} {φ : Nat → Nat} {V : Nat → List (Option Value) → List Value → Hp → Prop} {E : Hp → Prop} {P : Hp → Prop} (R : Ru l D cs φ RX6 cX6_readOrder 7 3 63 V) (hE : ∀ (h : Hp), E h → V 192 [none, none, none, none, none, none, none] [] h) (Rt : ∀ pc lc h, decode cX6_readOrder pc = .ok (.return_, 1) → P h → V pc lc [] h) : ∀ (n : Nat) (a1 : Int32) (a2 : Int32) (h : Hp), lp_Reading_readOrder_14 n a1 a2 h E P → V 14 [some (.ref (φ 1)), some (.int a1), some (.int a2), none, none, none, none] [] h := by
  intro n
  induction n with
  | zero => intro a1 a2 h hP; exact hP.elim
  | succ n ih =>
    intro a1 a2 h hP
    unfold lp_Reading_readOrder_14 at hP
    refine v_iload_2 R dX6_readOrder_14 ?_
    refine v_iconst R dX6_readOrder_15 (v := (5 : Int32)) (by decide) ?_
    refine v_icmp_ge (tgt := 192) R dX6_readOrder_16 (by decide) (fun q16 => ?_) (fun q16 => ?_)
    · have hP := hP.1 q16
      refine v_wk R [none, none, none, none, none, none, none] trivial ?_
      exact hE h hP
    · have hP := hP.2 q16
      refine v_aload_0 R dX6_readOrder_19 ?_
      refine v_iconst R dX6_readOrder_20 (v := (0 : Int32)) (by decide) ?_
      refine v_iconst R dX6_readOrder_21 (v := (4 : Int32)) (by decide) ?_
      refine cV2_bw R dX6_readOrder_22 (c_Reading_takeNumberWithin hP) rc_Reading ml_X6_54 mv_Reading_takeNumberWithin (by decide) (Nat.le_of_ble_eq_true rfl) (fun v22 h22 hP => ?_)
      refine v_ifb_eq (tgt := 51) R dX6_readOrder_25 (by decide) (fun q25 => ?_) (fun q25 => ?_)
      · have hP := hP.1 q25
        exact Rt _ _ _ dX6_readOrder_51 hP
      · have hP := hP.2 q25
        refine v_aload_0 R dX6_readOrder_28 ?_
        refine v_iload_1 R dX6_readOrder_29 ?_
        refine v_aload_0 R dX6_readOrder_30 ?_
        refine g_Reading_number R dX6_readOrder_31 fl_X6_58 ?_
        refine v_ishr R dX6_readOrder_34 ?_
        refine v_iconst R dX6_readOrder_35 (v := (1 : Int32)) (by decide) ?_
        refine v_iand R dX6_readOrder_36 ?_
        refine jn_v (fun K => ∀ (z45_1 : Int32), K z45_1 → V 45 [some (.ref (φ 1)), some (.int a1), some (.int a2), none, none, none, none] [.int z45_1, .ref (φ 1)] h22) ?_ ?_ hP
        · intro z45_1 hP
          refine cV1_bw R dX6_readOrder_45 (c_Reading_isNew hP) rc_Reading ml_X6_61 mv_Reading_isNew (by decide) (Nat.le_of_ble_eq_true rfl) (fun v45 h45 hP => ?_)
          refine v_ifb_ne (tgt := 52) R dX6_readOrder_48 (by decide) (fun q48 => ?_) (fun q48 => ?_)
          · have hP := hP.1 q48
            refine v_iload_1 R dX6_readOrder_52 ?_
            refine v_iconst R dX6_readOrder_53 (v := (1 : Int32)) (by decide) ?_
            refine v_aload_0 R dX6_readOrder_54 ?_
            refine g_Reading_number R dX6_readOrder_55 fl_X6_58 ?_
            refine v_ishl R dX6_readOrder_58 ?_
            refine v_ior R dX6_readOrder_59 ?_
            refine v_istoreL_1 R dX6_readOrder_60 (by decide) rfl hP (fun x60 hP => ?_)
            refine v_aload_0 R dX6_readOrder_61 ?_
            refine g_Reading_order R dX6_readOrder_62 fl_X6_19 ?_
            refine v_iload_2 R dX6_readOrder_65 ?_
            refine v_aload_0 R dX6_readOrder_66 ?_
            refine g_Reading_number R dX6_readOrder_67 fl_X6_58 ?_
            obtain ⟨hi70, hP⟩ := hP
            refine v_iastL R dX6_readOrder_70 rfl hi70 hP (fun h70 hP => ?_)
            refine v_aload_0 R dX6_readOrder_71 ?_
            refine v_iload_2 R dX6_readOrder_72 ?_
            refine v_iconst R dX6_readOrder_73 (v := (1 : Int32)) (by decide) ?_
            refine v_iadd R dX6_readOrder_74 ?_
            refine p_Reading_wires R dX6_readOrder_75 fl_X6_28 hP (fun h75 hP => ?_)
            refine v_aload_0 R dX6_readOrder_78 ?_
            refine g_Reading_wires R dX6_readOrder_79 fl_X6_28 ?_
            refine v_iconst R dX6_readOrder_82 (v := (2 : Int32)) (by decide) ?_
            refine jn_v (fun K => ∀ (z103_0 : Int32), K z103_0 → V 103 [some (.ref (φ 1)), some (.int x60), some (.int a2), none, none, none, none] [.int z103_0] h75) ?_ ?_ hP
            · intro z103_0 hP
              refine v_istore_3 R dX6_readOrder_103 (by decide) rfl ?_
              refine v_aload_0 R dX6_readOrder_104 ?_
              refine cV0_iw R dX6_readOrder_105 (c_Reading_upNext hP) rc_Reading ml_X6_40 mv_Reading_upNext (by decide) (Nat.le_of_ble_eq_true rfl) (fun v105 h105 hP => ?_)
              refine v_istore_4 R dX6_readOrder_108 (by decide) rfl ?_
              refine v_iload_4 R dX6_readOrder_110 ?_
              refine v_bipush R dX6_readOrder_112 (v := (59 : Int32)) (by decide) ?_
              refine jn_v (fun K => ∀ (z126_0 : Int32), K z126_0 → V 126 [some (.ref (φ 1)), some (.int x60), some (.int a2), none, some (.int v105), none, none] [.int z126_0] h105) ?_ ?_ hP
              · intro z126_0 hP
                refine v_istore_5 R dX6_readOrder_126 (by decide) rfl ?_
                refine v_iload_4 R dX6_readOrder_128 ?_
                refine v_bipush R dX6_readOrder_130 (v := (44 : Int32)) (by decide) ?_
                refine jn_v (fun K => ∀ (z148_0 : Int32), K z148_0 → V 148 [some (.ref (φ 1)), some (.int x60), some (.int a2), none, none, some (.int z126_0), none] [.int z148_0] h105) ?_ ?_ hP
                · intro z148_0 hP
                  refine v_istore_6 R dX6_readOrder_148 (by decide) rfl ?_
                  refine v_iload_5 R dX6_readOrder_150 ?_
                  refine jn_v (fun K => K → V 170 [some (.ref (φ 1)), some (.int x60), some (.int a2), none, none, some (.int z126_0), none] [] h105) ?_ ?_ hP
                  · intro hP
                    refine v_aload_0 R dX6_readOrder_170 ?_
                    refine v_dup R dX6_readOrder_171 rfl ?_
                    refine g_Reading_at R dX6_readOrder_172 fl_X6_25 ?_
                    refine v_iconst R dX6_readOrder_175 (v := (1 : Int32)) (by decide) ?_
                    refine v_iadd R dX6_readOrder_176 ?_
                    refine p_Reading_at R dX6_readOrder_177 fl_X6_25 hP (fun h177 hP => ?_)
                    refine v_iload_5 R dX6_readOrder_180 ?_
                    refine v_if_eq (tgt := 186) R dX6_readOrder_182 (by decide) (fun q182 => ?_) (fun q182 => ?_)
                    · have hP := hP.1 q182
                      refine v_iincL_2 R (1 : Int32) dX6_readOrder_186 (by decide) rfl (by decide) hP (fun x186 hP => ?_)
                      refine v_goto (tgt := 14) R dX6_readOrder_189 (by decide) ?_
                      refine v_wk R [some (.ref (φ 1)), some (.int x60), some (.int x186), none, none, none, none] ⟨rfl, ⟨rfl, ⟨rfl, trivial⟩⟩⟩ ?_
                      exact ih x60 x186 h177 hP
                    · have hP := hP.2 q182
                      exact Rt _ _ _ dX6_readOrder_185 hP
                  · intro K J170 hP
                    refine v_if_ne (tgt := 170) R dX6_readOrder_152 (by decide) (fun q152 => ?_) (fun q152 => ?_)
                    · have hP := hP.1 q152
                      refine v_wk R [some (.ref (φ 1)), some (.int x60), some (.int a2), none, none, some (.int z126_0), none] ⟨rfl, ⟨rfl, ⟨rfl, ⟨rfl, trivial⟩⟩⟩⟩ ?_
                      exact J170 hP
                    · have hP := hP.2 q152
                      refine v_iload_6 R dX6_readOrder_155 ?_
                      refine v_if_ne (tgt := 170) R dX6_readOrder_157 (by decide) (fun q157 => ?_) (fun q157 => ?_)
                      · have hP := hP.1 q157
                        refine v_wk R [some (.ref (φ 1)), some (.int x60), some (.int a2), none, none, some (.int z126_0), none] ⟨rfl, ⟨rfl, ⟨rfl, ⟨rfl, trivial⟩⟩⟩⟩ ?_
                        exact J170 hP
                      · have hP := hP.2 q157
                        refine v_aload_0 R dX6_readOrder_160 ?_
                        refine v_iconst R dX6_readOrder_161 (v := (1 : Int32)) (by decide) ?_
                        refine v_aload_0 R dX6_readOrder_162 ?_
                        refine g_Reading_at R dX6_readOrder_163 fl_X6_25 ?_
                        refine cV2_vw R dX6_readOrder_166 (c_Reading_blame hP) rc_Reading ml_X6_65 mv_Reading_blame (by decide) (Nat.le_of_ble_eq_true rfl) (fun h166 hP => ?_)
                        exact Rt _ _ _ dX6_readOrder_169 hP
                · intro K J148 hP
                  refine jn_v (fun K => K → V 147 [some (.ref (φ 1)), some (.int x60), some (.int a2), none, none, some (.int z126_0), none] [] h105) ?_ ?_ hP
                  · intro hP
                    refine v_iconst R dX6_readOrder_147 (v := (0 : Int32)) (by decide) ?_
                    exact J148 (0 : Int32) hP
                  · intro K J147 hP
                    refine v_icmp_ne (tgt := 147) R dX6_readOrder_132 (by decide) (fun q132 => ?_) (fun q132 => ?_)
                    · have hP := hP.1 q132
                      refine v_wk R [some (.ref (φ 1)), some (.int x60), some (.int a2), none, none, some (.int z126_0), none] ⟨rfl, ⟨rfl, ⟨rfl, ⟨rfl, trivial⟩⟩⟩⟩ ?_
                      exact J147 hP
                    · have hP := hP.2 q132
                      refine v_aload_0 R dX6_readOrder_135 ?_
                      refine g_Reading_wires R dX6_readOrder_136 fl_X6_28 ?_
                      refine v_iconst R dX6_readOrder_139 (v := (5 : Int32)) (by decide) ?_
                      refine v_icmp_ge (tgt := 147) R dX6_readOrder_140 (by decide) (fun q140 => ?_) (fun q140 => ?_)
                      · have hP := hP.1 q140
                        refine v_wk R [some (.ref (φ 1)), some (.int x60), some (.int a2), none, none, some (.int z126_0), none] ⟨rfl, ⟨rfl, ⟨rfl, ⟨rfl, trivial⟩⟩⟩⟩ ?_
                        exact J147 hP
                      · have hP := hP.2 q140
                        refine v_iconst R dX6_readOrder_143 (v := (1 : Int32)) (by decide) ?_
                        refine v_goto (tgt := 148) R dX6_readOrder_144 (by decide) ?_
                        refine v_wk R [some (.ref (φ 1)), some (.int x60), some (.int a2), none, none, some (.int z126_0), none] ⟨rfl, ⟨rfl, ⟨rfl, ⟨rfl, trivial⟩⟩⟩⟩ ?_
                        exact J148 (1 : Int32) hP
              · intro K J126 hP
                refine jn_v (fun K => K → V 125 [some (.ref (φ 1)), some (.int x60), some (.int a2), none, some (.int v105), none, none] [] h105) ?_ ?_ hP
                · intro hP
                  refine v_iconst R dX6_readOrder_125 (v := (0 : Int32)) (by decide) ?_
                  exact J126 (0 : Int32) hP
                · intro K J125 hP
                  refine v_icmp_ne (tgt := 125) R dX6_readOrder_114 (by decide) (fun q114 => ?_) (fun q114 => ?_)
                  · have hP := hP.1 q114
                    refine v_wk R [some (.ref (φ 1)), some (.int x60), some (.int a2), none, some (.int v105), none, none] ⟨rfl, ⟨rfl, ⟨rfl, ⟨rfl, trivial⟩⟩⟩⟩ ?_
                    exact J125 hP
                  · have hP := hP.2 q114
                    refine v_iload_3 R dX6_readOrder_117 ?_
                    refine v_if_eq (tgt := 125) R dX6_readOrder_118 (by decide) (fun q118 => ?_) (fun q118 => ?_)
                    · have hP := hP.1 q118
                      refine v_wk R [some (.ref (φ 1)), some (.int x60), some (.int a2), none, some (.int v105), none, none] ⟨rfl, ⟨rfl, ⟨rfl, ⟨rfl, trivial⟩⟩⟩⟩ ?_
                      exact J125 hP
                    · have hP := hP.2 q118
                      refine v_iconst R dX6_readOrder_121 (v := (1 : Int32)) (by decide) ?_
                      refine v_goto (tgt := 126) R dX6_readOrder_122 (by decide) ?_
                      refine v_wk R [some (.ref (φ 1)), some (.int x60), some (.int a2), none, some (.int v105), none, none] ⟨rfl, ⟨rfl, ⟨rfl, ⟨rfl, trivial⟩⟩⟩⟩ ?_
                      exact J126 (1 : Int32) hP
            · intro K J103 hP
              refine jn_v (fun K => K → V 102 [some (.ref (φ 1)), some (.int x60), some (.int a2), none, none, none, none] [] h75) ?_ ?_ hP
              · intro hP
                refine v_iconst R dX6_readOrder_102 (v := (0 : Int32)) (by decide) ?_
                exact J103 (0 : Int32) hP
              · intro K J102 hP
                refine v_icmp_lt (tgt := 102) R dX6_readOrder_83 (by decide) (fun q83 => ?_) (fun q83 => ?_)
                · have hP := hP.1 q83
                  exact J102 hP
                · have hP := hP.2 q83
                  refine v_iload_1 R dX6_readOrder_86 ?_
                  refine v_iconst R dX6_readOrder_87 (v := (1 : Int32)) (by decide) ?_
                  refine v_aload_0 R dX6_readOrder_88 ?_
                  refine g_Reading_wires R dX6_readOrder_89 fl_X6_28 ?_
                  refine v_ishl R dX6_readOrder_92 ?_
                  refine v_iconst R dX6_readOrder_93 (v := (1 : Int32)) (by decide) ?_
                  refine v_isub R dX6_readOrder_94 ?_
                  refine v_icmp_ne (tgt := 102) R dX6_readOrder_95 (by decide) (fun q95 => ?_) (fun q95 => ?_)
                  · have hP := hP.1 q95
                    exact J102 hP
                  · have hP := hP.2 q95
                    refine v_iconst R dX6_readOrder_98 (v := (1 : Int32)) (by decide) ?_
                    refine v_goto (tgt := 103) R dX6_readOrder_99 (by decide) ?_
                    exact J103 (1 : Int32) hP
          · have hP := hP.2 q48
            exact Rt _ _ _ dX6_readOrder_51 hP
        · intro K J45 hP
          refine v_if_ne (tgt := 44) R dX6_readOrder_37 (by decide) (fun q37 => ?_) (fun q37 => ?_)
          · have hP := hP.1 q37
            refine v_iconst R dX6_readOrder_44 (v := (0 : Int32)) (by decide) ?_
            exact J45 (0 : Int32) hP
          · have hP := hP.2 q37
            refine v_iconst R dX6_readOrder_40 (v := (1 : Int32)) (by decide) ?_
            refine v_goto (tgt := 45) R dX6_readOrder_41 (by decide) ?_
            exact J45 (1 : Int32) hP
set_option maxRecDepth 100000 in
set_option maxHeartbeats 4000000 in
theorem c_Reading_readOrder {l : Launch} {D : va_G} {cs : Nat → ClassId} {φ : Nat → Nat} {h : Hp} {P : Hp → Prop} (hP : wp_Reading_readOrder h P) : Ct l D cs φ M_Reading_readOrder [.ref (φ 1)] h (fun rv h2 => rv = none ∧ P h2) := by
  refine Ct.of (lc := [some (.ref (φ 1)), none, none, none, none, none, none]) RX6 3 63 rfl (by decide +kernel) rfl (Nat.le_of_ble_eq_true rfl) rfl rfl (fun V R RI RV => ?_)
  have R : Ru l D cs φ RX6 cX6_readOrder 7 3 63 V := R
  have Rt : ∀ pc lc h, decode cX6_readOrder pc = .ok (.return_, 1) → P h → V pc lc [] h := fun pc lc h hd hp => RV pc lc h rfl hd ⟨rfl, hp⟩
  unfold wp_Reading_readOrder at hP
  refine v_aload_0 R dX6_readOrder_0 ?_
  refine v_bipush R dX6_readOrder_1 (v := (99 : Int32)) (by decide) ?_
  refine cV1_bw R dX6_readOrder_3 (c_Reading_takeWord hP) rc_Reading ml_X6_50 mv_Reading_takeWord (by decide) (Nat.le_of_ble_eq_true rfl) (fun v3 h3 hP => ?_)
  refine v_ifb_ne (tgt := 10) R dX6_readOrder_6 (by decide) (fun q6 => ?_) (fun q6 => ?_)
  · have hP := hP.1 q6
    refine v_iconst R dX6_readOrder_10 (v := (0 : Int32)) (by decide) ?_
    refine v_istore_1 R dX6_readOrder_11 (by decide) rfl ?_
    refine v_iconst R dX6_readOrder_12 (v := (0 : Int32)) (by decide) ?_
    refine v_istore_2 R dX6_readOrder_13 (by decide) rfl ?_
    obtain ⟨n14, hP⟩ := hP
    refine L_Reading_readOrder_14 R ?_ Rt n14 _ _ _ hP
    intro h14x hP
    exact Rt _ _ _ dX6_readOrder_192 hP
  · have hP := hP.2 q6
    exact Rt _ _ _ dX6_readOrder_9 hP
set_option maxRecDepth 100000 in
set_option maxHeartbeats 4000000 in
theorem c_Fe_part {l : Launch} {D : va_G} {cs : Nat → ClassId} {φ : Nat → Nat} {p0 p1 : Int32} {h : Hp} {P : Int32 → Prop} (hP : wp_Fe_part p0 p1 P) : Ct l D cs φ M_Fe_part [.int p0, .int p1] h (fun rv h2 => ∃ v, rv = some (.int v) ∧ h2 = h ∧ P v) := by
  refine Ct.of (lc := [some (.int p0), some (.int p1)]) RX10 0 0 rfl (by decide +kernel) rfl (Nat.le_of_ble_eq_true rfl) rfl rfl (fun V R RI RV => ?_)
  have R : Ru l D cs φ RX10 cX10_part 2 0 0 V := R
  have Rt : ∀ pc lc v, decode cX10_part pc = .ok (.ireturn, 1) → P v → V pc lc [.int v] h := fun pc lc v hd hp => RI pc lc _ .int h rfl rfl hd ⟨v, rfl, rfl, hp⟩
  unfold wp_Fe_part at hP
  refine v_iload_0 R dX10_part_0 ?_
  refine v_iconst R dX10_part_1 (v := (3 : Int32)) (by decide) ?_
  refine v_iload_1 R dX10_part_2 ?_
  refine v_imul R dX10_part_3 ?_
  refine v_ishr R dX10_part_4 ?_
  refine v_bipush R dX10_part_5 (v := (7 : Int32)) (by decide) ?_
  refine v_iand R dX10_part_7 ?_
  exact Rt _ _ _ dX10_part_8 hP
set_option maxRecDepth 100000 in
set_option maxHeartbeats 4000000 in
theorem c_Fe_withPart {l : Launch} {D : va_G} {cs : Nat → ClassId} {φ : Nat → Nat} {p0 p1 p2 : Int32} {h : Hp} {P : Int32 → Prop} (hP : wp_Fe_withPart p0 p1 p2 P) : Ct l D cs φ M_Fe_withPart [.int p0, .int p1, .int p2] h (fun rv h2 => ∃ v, rv = some (.int v) ∧ h2 = h ∧ P v) := by
  refine Ct.of (lc := [some (.int p0), some (.int p1), some (.int p2)]) RX10 0 0 rfl (by decide +kernel) rfl (Nat.le_of_ble_eq_true rfl) rfl rfl (fun V R RI RV => ?_)
  have R : Ru l D cs φ RX10 cX10_withPart 3 0 0 V := R
  have Rt : ∀ pc lc v, decode cX10_withPart pc = .ok (.ireturn, 1) → P v → V pc lc [.int v] h := fun pc lc v hd hp => RI pc lc _ .int h rfl rfl hd ⟨v, rfl, rfl, hp⟩
  unfold wp_Fe_withPart at hP
  refine v_iload_0 R dX10_withPart_0 ?_
  refine v_bipush R dX10_withPart_1 (v := (7 : Int32)) (by decide) ?_
  refine v_iconst R dX10_withPart_3 (v := (3 : Int32)) (by decide) ?_
  refine v_iload_1 R dX10_withPart_4 ?_
  refine v_imul R dX10_withPart_5 ?_
  refine v_ishl R dX10_withPart_6 ?_
  refine v_iconst R dX10_withPart_7 (v := (-1 : Int32)) (by decide) ?_
  refine v_ixor R dX10_withPart_8 ?_
  refine v_iand R dX10_withPart_9 ?_
  refine v_iload_2 R dX10_withPart_10 ?_
  refine v_iconst R dX10_withPart_11 (v := (3 : Int32)) (by decide) ?_
  refine v_iload_1 R dX10_withPart_12 ?_
  refine v_imul R dX10_withPart_13 ?_
  refine v_ishl R dX10_withPart_14 ?_
  refine v_ior R dX10_withPart_15 ?_
  exact Rt _ _ _ dX10_withPart_16 hP
set_option maxRecDepth 100000 in
set_option maxHeartbeats 4000000 in
theorem c_Reading_readKind {l : Launch} {D : va_G} {cs : Nat → ClassId} {φ : Nat → Nat} {h : Hp} {P : Hp → Prop} (hP : wp_Reading_readKind h P) : Ct l D cs φ M_Reading_readKind [.ref (φ 1)] h (fun rv h2 => rv = none ∧ P h2) := by
  refine Ct.of (lc := [some (.ref (φ 1)), none]) RX6 3 63 rfl (by decide +kernel) rfl (Nat.le_of_ble_eq_true rfl) rfl rfl (fun V R RI RV => ?_)
  have R : Ru l D cs φ RX6 cX6_readKind 2 3 63 V := R
  have Rt : ∀ pc lc h, decode cX6_readKind pc = .ok (.return_, 1) → P h → V pc lc [] h := fun pc lc h hd hp => RV pc lc h rfl hd ⟨rfl, hp⟩
  unfold wp_Reading_readKind at hP
  refine v_aload_0 R dX6_readKind_0 ?_
  refine v_iconst R dX6_readKind_1 (v := (0 : Int32)) (by decide) ?_
  refine v_aload_0 R dX6_readKind_2 ?_
  refine g_Reading_wires R dX6_readKind_3 fl_X6_28 ?_
  refine v_iconst R dX6_readKind_6 (v := (1 : Int32)) (by decide) ?_
  refine v_isub R dX6_readKind_7 ?_
  refine cV2_bw R dX6_readKind_8 (c_Reading_takeNumberWithin hP) rc_Reading ml_X6_54 mv_Reading_takeNumberWithin (by decide) (Nat.le_of_ble_eq_true rfl) (fun v8 h8 hP => ?_)
  refine v_ifb_eq (tgt := 40) R dX6_readKind_11 (by decide) (fun q11 => ?_) (fun q11 => ?_)
  · have hP := hP.1 q11
    exact Rt _ _ _ dX6_readKind_40 hP
  · have hP := hP.2 q11
    refine v_aload_0 R dX6_readKind_14 ?_
    refine v_aload_0 R dX6_readKind_15 ?_
    refine g_Reading_kinds R dX6_readKind_16 fl_X6_31 ?_
    refine v_aload_0 R dX6_readKind_19 ?_
    refine g_Reading_number R dX6_readKind_20 fl_X6_58 ?_
    refine cN2_ir R dX6_readKind_23 (c_Fe_part hP) mn_X6_75 mv_Fe_part (by decide) (Nat.le_of_ble_eq_true rfl) (fun v23 hP => ?_)
    refine jn_v (fun K => ∀ (z34_1 : Int32), K z34_1 → V 34 [some (.ref (φ 1)), none] [.int z34_1, .ref (φ 1)] h8) ?_ ?_ hP
    · intro z34_1 hP
      refine cV1_bw R dX6_readKind_34 (c_Reading_isNew hP) rc_Reading ml_X6_61 mv_Reading_isNew (by decide) (Nat.le_of_ble_eq_true rfl) (fun v34 h34 hP => ?_)
      refine v_ifb_ne (tgt := 41) R dX6_readKind_37 (by decide) (fun q37 => ?_) (fun q37 => ?_)
      · have hP := hP.1 q37
        refine v_aload_0 R dX6_readKind_41 ?_
        refine g_Reading_number R dX6_readKind_42 fl_X6_58 ?_
        refine v_istoreL_1 R dX6_readKind_45 (by decide) rfl hP (fun x45 hP => ?_)
        refine v_aload_0 R dX6_readKind_46 ?_
        refine v_iconst R dX6_readKind_47 (v := (1 : Int32)) (by decide) ?_
        refine v_iconst R dX6_readKind_48 (v := (3 : Int32)) (by decide) ?_
        refine cV2_bw R dX6_readKind_49 (c_Reading_takeNumberWithin hP) rc_Reading ml_X6_54 mv_Reading_takeNumberWithin (by decide) (Nat.le_of_ble_eq_true rfl) (fun v49 h49 hP => ?_)
        refine v_ifb_eq (tgt := 78) R dX6_readKind_52 (by decide) (fun q52 => ?_) (fun q52 => ?_)
        · have hP := hP.1 q52
          exact Rt _ _ _ dX6_readKind_78 hP
        · have hP := hP.2 q52
          refine v_aload_0 R dX6_readKind_55 ?_
          refine v_aload_0 R dX6_readKind_56 ?_
          refine g_Reading_kinds R dX6_readKind_57 fl_X6_31 ?_
          refine v_iload_1 R dX6_readKind_60 ?_
          refine v_aload_0 R dX6_readKind_61 ?_
          refine g_Reading_number R dX6_readKind_62 fl_X6_58 ?_
          refine cN3_ir R dX6_readKind_65 (c_Fe_withPart hP) mn_X6_79 mv_Fe_withPart (by decide) (Nat.le_of_ble_eq_true rfl) (fun v65 hP => ?_)
          refine p_Reading_kinds R dX6_readKind_68 fl_X6_31 hP (fun h68 hP => ?_)
          refine v_aload_0 R dX6_readKind_71 ?_
          refine v_bipush R dX6_readKind_72 (v := (59 : Int32)) (by decide) ?_
          refine cV1_bw R dX6_readKind_74 (c_Reading_takeWord hP) rc_Reading ml_X6_50 mv_Reading_takeWord (by decide) (Nat.le_of_ble_eq_true rfl) (fun v74 h74 hP => ?_)
          refine v_pop R dX6_readKind_77 rfl ?_
          exact Rt _ _ _ dX6_readKind_78 hP
      · have hP := hP.2 q37
        exact Rt _ _ _ dX6_readKind_40 hP
    · intro K J34 hP
      refine v_if_ne (tgt := 33) R dX6_readKind_26 (by decide) (fun q26 => ?_) (fun q26 => ?_)
      · have hP := hP.1 q26
        refine v_iconst R dX6_readKind_33 (v := (0 : Int32)) (by decide) ?_
        exact J34 (0 : Int32) hP
      · have hP := hP.2 q26
        refine v_iconst R dX6_readKind_29 (v := (1 : Int32)) (by decide) ?_
        refine v_goto (tgt := 34) R dX6_readKind_30 (by decide) ?_
        exact J34 (1 : Int32) hP
set_option maxRecDepth 100000 in
set_option maxHeartbeats 4000000 in
theorem c_Fe_pairBit {l : Launch} {D : va_G} {cs : Nat → ClassId} {φ : Nat → Nat} {p0 p1 : Int32} {h : Hp} {P : Int32 → Prop} (hP : wp_Fe_pairBit p0 p1 P) : Ct l D cs φ M_Fe_pairBit [.int p0, .int p1] h (fun rv h2 => ∃ v, rv = some (.int v) ∧ h2 = h ∧ P v) := by
  refine Ct.of (lc := [some (.int p0), some (.int p1)]) RX10 1 21 rfl (by decide +kernel) rfl (Nat.le_of_ble_eq_true rfl) rfl rfl (fun V R RI RV => ?_)
  have R : Ru l D cs φ RX10 cX10_pairBit 2 1 21 V := R
  have Rt : ∀ pc lc v, decode cX10_pairBit pc = .ok (.ireturn, 1) → P v → V pc lc [.int v] h := fun pc lc v hd hp => RI pc lc _ .int h rfl rfl hd ⟨v, rfl, rfl, hp⟩
  unfold wp_Fe_pairBit at hP
  refine v_iconst R dX10_pairBit_0 (v := (1 : Int32)) (by decide) ?_
  refine v_iconst R dX10_pairBit_1 (v := (5 : Int32)) (by decide) ?_
  refine v_iload_0 R dX10_pairBit_2 ?_
  refine v_iload_1 R dX10_pairBit_3 ?_
  refine v_mmin2 R dX10_pairBit_4 ml_X10_285 ms_min in_java_lang_Math mc_min (by decide) (Nat.le_of_ble_eq_true rfl) ?_
  refine v_imul R dX10_pairBit_7 ?_
  refine v_iload_0 R dX10_pairBit_8 ?_
  refine v_iload_1 R dX10_pairBit_9 ?_
  refine v_mmax2 R dX10_pairBit_10 ml_X10_290 ms_max in_java_lang_Math mc_max (by decide) (Nat.le_of_ble_eq_true rfl) ?_
  refine v_iadd R dX10_pairBit_13 ?_
  refine v_ishl R dX10_pairBit_14 ?_
  exact Rt _ _ _ dX10_pairBit_15 hP
set_option maxRecDepth 100000 in
set_option maxHeartbeats 4000000 in
theorem c_Reading_readTouch {l : Launch} {D : va_G} {cs : Nat → ClassId} {φ : Nat → Nat} {h : Hp} {P : Hp → Prop} (hP : wp_Reading_readTouch h P) : Ct l D cs φ M_Reading_readTouch [.ref (φ 1)] h (fun rv h2 => rv = none ∧ P h2) := by
  refine Ct.of (lc := [some (.ref (φ 1)), none, none]) RX6 3 63 rfl (by decide +kernel) rfl (Nat.le_of_ble_eq_true rfl) rfl rfl (fun V R RI RV => ?_)
  have R : Ru l D cs φ RX6 cX6_readTouch 3 3 63 V := R
  have Rt : ∀ pc lc h, decode cX6_readTouch pc = .ok (.return_, 1) → P h → V pc lc [] h := fun pc lc h hd hp => RV pc lc h rfl hd ⟨rfl, hp⟩
  unfold wp_Reading_readTouch at hP
  refine v_aload_0 R dX6_readTouch_0 ?_
  refine v_iconst R dX6_readTouch_1 (v := (0 : Int32)) (by decide) ?_
  refine v_aload_0 R dX6_readTouch_2 ?_
  refine g_Reading_wires R dX6_readTouch_3 fl_X6_28 ?_
  refine v_iconst R dX6_readTouch_6 (v := (1 : Int32)) (by decide) ?_
  refine v_isub R dX6_readTouch_7 ?_
  refine cV2_bw R dX6_readTouch_8 (c_Reading_takeNumberWithin hP) rc_Reading ml_X6_54 mv_Reading_takeNumberWithin (by decide) (Nat.le_of_ble_eq_true rfl) (fun v8 h8 hP => ?_)
  refine v_ifb_ne (tgt := 15) R dX6_readTouch_11 (by decide) (fun q11 => ?_) (fun q11 => ?_)
  · have hP := hP.1 q11
    refine v_aload_0 R dX6_readTouch_15 ?_
    refine g_Reading_number R dX6_readTouch_16 fl_X6_58 ?_
    refine v_istoreL_1 R dX6_readTouch_19 (by decide) rfl hP (fun x19 hP => ?_)
    refine v_aload_0 R dX6_readTouch_20 ?_
    refine v_iconst R dX6_readTouch_21 (v := (0 : Int32)) (by decide) ?_
    refine v_aload_0 R dX6_readTouch_22 ?_
    refine g_Reading_wires R dX6_readTouch_23 fl_X6_28 ?_
    refine v_iconst R dX6_readTouch_26 (v := (1 : Int32)) (by decide) ?_
    refine v_isub R dX6_readTouch_27 ?_
    refine cV2_bw R dX6_readTouch_28 (c_Reading_takeNumberWithin hP) rc_Reading ml_X6_54 mv_Reading_takeNumberWithin (by decide) (Nat.le_of_ble_eq_true rfl) (fun v28 h28 hP => ?_)
    refine v_ifb_ne (tgt := 35) R dX6_readTouch_31 (by decide) (fun q31 => ?_) (fun q31 => ?_)
    · have hP := hP.1 q31
      refine v_iload_1 R dX6_readTouch_35 ?_
      refine v_aload_0 R dX6_readTouch_36 ?_
      refine g_Reading_number R dX6_readTouch_37 fl_X6_58 ?_
      refine cN2_ir R dX6_readTouch_40 (c_Fe_pairBit hP) mn_X6_83 mv_Fe_pairBit (by decide) (Nat.le_of_ble_eq_true rfl) (fun v40 hP => ?_)
      refine v_istore_2 R dX6_readTouch_43 (by decide) rfl ?_
      refine v_aload_0 R dX6_readTouch_44 ?_
      refine v_iload_1 R dX6_readTouch_45 ?_
      refine v_aload_0 R dX6_readTouch_46 ?_
      refine g_Reading_number R dX6_readTouch_47 fl_X6_58 ?_
      refine jn_v (fun K => ∀ (z67_1 : Int32), K z67_1 → V 67 [some (.ref (φ 1)), none, some (.int v40)] [.int z67_1, .ref (φ 1)] h28) ?_ ?_ hP
      · intro z67_1 hP
        refine cV1_bw R dX6_readTouch_67 (c_Reading_isNew hP) rc_Reading ml_X6_61 mv_Reading_isNew (by decide) (Nat.le_of_ble_eq_true rfl) (fun v67 h67 hP => ?_)
        refine v_ifb_eq (tgt := 90) R dX6_readTouch_70 (by decide) (fun q70 => ?_) (fun q70 => ?_)
        · have hP := hP.1 q70
          exact Rt _ _ _ dX6_readTouch_90 hP
        · have hP := hP.2 q70
          refine v_aload_0 R dX6_readTouch_73 ?_
          refine v_dup R dX6_readTouch_74 rfl ?_
          refine g_Reading_touching R dX6_readTouch_75 fl_X6_34 ?_
          refine v_iload_2 R dX6_readTouch_78 ?_
          refine v_ior R dX6_readTouch_79 ?_
          refine p_Reading_touching R dX6_readTouch_80 fl_X6_34 hP (fun h80 hP => ?_)
          refine v_aload_0 R dX6_readTouch_83 ?_
          refine v_bipush R dX6_readTouch_84 (v := (59 : Int32)) (by decide) ?_
          refine cV1_bw R dX6_readTouch_86 (c_Reading_takeWord hP) rc_Reading ml_X6_50 mv_Reading_takeWord (by decide) (Nat.le_of_ble_eq_true rfl) (fun v86 h86 hP => ?_)
          refine v_pop R dX6_readTouch_89 rfl ?_
          exact Rt _ _ _ dX6_readTouch_90 hP
      · intro K J67 hP
        refine jn_v (fun K => K → V 66 [some (.ref (φ 1)), none, some (.int v40)] [.ref (φ 1)] h28) ?_ ?_ hP
        · intro hP
          refine v_iconst R dX6_readTouch_66 (v := (0 : Int32)) (by decide) ?_
          exact J67 (0 : Int32) hP
        · intro K J66 hP
          refine v_icmp_eq (tgt := 66) R dX6_readTouch_50 (by decide) (fun q50 => ?_) (fun q50 => ?_)
          · have hP := hP.1 q50
            refine v_wk R [some (.ref (φ 1)), none, some (.int v40)] ⟨rfl, ⟨rfl, trivial⟩⟩ ?_
            exact J66 hP
          · have hP := hP.2 q50
            refine v_aload_0 R dX6_readTouch_53 ?_
            refine g_Reading_touching R dX6_readTouch_54 fl_X6_34 ?_
            refine v_iload_2 R dX6_readTouch_57 ?_
            refine v_iand R dX6_readTouch_58 ?_
            refine v_if_ne (tgt := 66) R dX6_readTouch_59 (by decide) (fun q59 => ?_) (fun q59 => ?_)
            · have hP := hP.1 q59
              refine v_wk R [some (.ref (φ 1)), none, some (.int v40)] ⟨rfl, ⟨rfl, trivial⟩⟩ ?_
              exact J66 hP
            · have hP := hP.2 q59
              refine v_iconst R dX6_readTouch_62 (v := (1 : Int32)) (by decide) ?_
              refine v_goto (tgt := 67) R dX6_readTouch_63 (by decide) ?_
              refine v_wk R [some (.ref (φ 1)), none, some (.int v40)] ⟨rfl, ⟨rfl, trivial⟩⟩ ?_
              exact J67 (1 : Int32) hP
    · have hP := hP.2 q31
      exact Rt _ _ _ dX6_readTouch_34 hP
  · have hP := hP.2 q11
    exact Rt _ _ _ dX6_readTouch_14 hP
set_option maxRecDepth 100000 in
set_option maxHeartbeats 4000000 in
theorem c_Reading_readClause {l : Launch} {D : va_G} {cs : Nat → ClassId} {φ : Nat → Nat} {h : Hp} {P : Hp → Prop} (hP : wp_Reading_readClause h P) : Ct l D cs φ M_Reading_readClause [.ref (φ 1)] h (fun rv h2 => rv = none ∧ P h2) := by
  refine Ct.of (lc := [some (.ref (φ 1)), none]) RX6 4 85 rfl (by decide +kernel) rfl (Nat.le_of_ble_eq_true rfl) rfl rfl (fun V R RI RV => ?_)
  have R : Ru l D cs φ RX6 cX6_readClause 2 4 85 V := R
  have Rt : ∀ pc lc h, decode cX6_readClause pc = .ok (.return_, 1) → P h → V pc lc [] h := fun pc lc h hd hp => RV pc lc h rfl hd ⟨rfl, hp⟩
  unfold wp_Reading_readClause at hP
  refine v_aload_0 R dX6_readClause_0 ?_
  refine cV0_iw R dX6_readClause_1 (c_Reading_upNext hP) rc_Reading ml_X6_40 mv_Reading_upNext (by decide) (Nat.le_of_ble_eq_true rfl) (fun v1 h1 hP => ?_)
  refine v_istore_1 R dX6_readClause_4 (by decide) rfl ?_
  refine v_iload_1 R dX6_readClause_5 ?_
  refine v_bipush R dX6_readClause_6 (v := (107 : Int32)) (by decide) ?_
  refine v_icmp_ne (tgt := 28) R dX6_readClause_8 (by decide) (fun q8 => ?_) (fun q8 => ?_)
  · have hP := hP.1 q8
    refine v_iload_1 R dX6_readClause_28 ?_
    refine v_bipush R dX6_readClause_29 (v := (115 : Int32)) (by decide) ?_
    refine v_icmp_ne (tgt := 51) R dX6_readClause_31 (by decide) (fun q31 => ?_) (fun q31 => ?_)
    · have hP := hP.1 q31
      refine v_aload_0 R dX6_readClause_51 ?_
      refine v_iload_1 R dX6_readClause_52 ?_
      refine v_bipush R dX6_readClause_53 (v := (99 : Int32)) (by decide) ?_
      refine jn_v (fun K => ∀ (z63_1 : Int32), K z63_1 → V 63 [some (.ref (φ 1)), none] [.int z63_1, .ref (φ 1)] h1) ?_ ?_ hP
      · intro z63_1 hP
        refine v_aload_0 R dX6_readClause_63 ?_
        refine g_Reading_at R dX6_readClause_64 fl_X6_25 ?_
        refine cV2_vw R dX6_readClause_67 (c_Reading_blame hP) rc_Reading ml_X6_65 mv_Reading_blame (by decide) (Nat.le_of_ble_eq_true rfl) (fun h67 hP => ?_)
        exact Rt _ _ _ dX6_readClause_70 hP
      · intro K J63 hP
        refine v_icmp_ne (tgt := 62) R dX6_readClause_55 (by decide) (fun q55 => ?_) (fun q55 => ?_)
        · have hP := hP.1 q55
          refine v_iconst R dX6_readClause_62 (v := (1 : Int32)) (by decide) ?_
          refine v_wk R [some (.ref (φ 1)), none] ⟨rfl, trivial⟩ ?_
          exact J63 (1 : Int32) hP
        · have hP := hP.2 q55
          refine v_iconst R dX6_readClause_58 (v := (3 : Int32)) (by decide) ?_
          refine v_goto (tgt := 63) R dX6_readClause_59 (by decide) ?_
          refine v_wk R [some (.ref (φ 1)), none] ⟨rfl, trivial⟩ ?_
          exact J63 (3 : Int32) hP
    · have hP := hP.2 q31
      refine v_aload_0 R dX6_readClause_34 ?_
      refine v_dup R dX6_readClause_35 rfl ?_
      refine g_Reading_at R dX6_readClause_36 fl_X6_25 ?_
      refine v_iconst R dX6_readClause_39 (v := (1 : Int32)) (by decide) ?_
      refine v_iadd R dX6_readClause_40 ?_
      refine p_Reading_at R dX6_readClause_41 fl_X6_25 hP (fun h41 hP => ?_)
      refine v_aload_0 R dX6_readClause_44 ?_
      refine cV0_vw R dX6_readClause_45 (c_Reading_readTouch hP) rc_Reading ml_X6_72 mv_Reading_readTouch (by decide) (Nat.le_of_ble_eq_true rfl) (fun h45 hP => ?_)
      refine v_goto (tgt := 70) R dX6_readClause_48 (by decide) ?_
      exact Rt _ _ _ dX6_readClause_70 hP
  · have hP := hP.2 q8
    refine v_aload_0 R dX6_readClause_11 ?_
    refine v_dup R dX6_readClause_12 rfl ?_
    refine g_Reading_at R dX6_readClause_13 fl_X6_25 ?_
    refine v_iconst R dX6_readClause_16 (v := (1 : Int32)) (by decide) ?_
    refine v_iadd R dX6_readClause_17 ?_
    refine p_Reading_at R dX6_readClause_18 fl_X6_25 hP (fun h18 hP => ?_)
    refine v_aload_0 R dX6_readClause_21 ?_
    refine cV0_vw R dX6_readClause_22 (c_Reading_readKind hP) rc_Reading ml_X6_69 mv_Reading_readKind (by decide) (Nat.le_of_ble_eq_true rfl) (fun h22 hP => ?_)
    refine v_goto (tgt := 70) R dX6_readClause_25 (by decide) ?_
    exact Rt _ _ _ dX6_readClause_70 hP
set_option maxRecDepth 100000 in
set_option maxHeartbeats 4000000 in
theorem L_Reading_read_44 {l : Launch} {D : va_G} {cs : Nat → ClassId} {φ : Nat → Nat} {V : Nat → List (Option Value) → List Value → Hp → Prop} {E : Hp → Prop} (R : Ru l D cs φ RX6 cX6_read 2 5 106 V) (hE : ∀ (h : Hp), E h → V 76 [some (.ref (φ 1)), none] [] h) : ∀ (n : Nat) (a1 : Int32) (h : Hp), lp_Reading_read_44 n a1 h E → V 44 [some (.ref (φ 1)), some (.int a1)] [] h := by
  intro n
  induction n with
  | zero => intro a1 h hP; exact hP.elim
  | succ n ih =>
    intro a1 h hP
    unfold lp_Reading_read_44 at hP
    refine v_iload_1 R dX6_read_44 ?_
    refine v_sipush R dX6_read_45 (v := (240 : Int32)) (by decide) ?_
    refine v_icmp_ge (tgt := 76) R dX6_read_48 (by decide) (fun q48 => ?_) (fun q48 => ?_)
    · have hP := hP.1 q48
      refine v_wk R [some (.ref (φ 1)), none] ⟨rfl, trivial⟩ ?_
      exact hE h hP
    · have hP := hP.2 q48
      refine v_aload_0 R dX6_read_51 ?_
      refine g_Reading_faultNumber R dX6_read_52 fl_X6_37 ?_
      refine v_if_ne (tgt := 76) R dX6_read_55 (by decide) (fun q55 => ?_) (fun q55 => ?_)
      · have hP := hP.1 q55
        refine v_wk R [some (.ref (φ 1)), none] ⟨rfl, trivial⟩ ?_
        exact hE h hP
      · have hP := hP.2 q55
        refine v_aload_0 R dX6_read_58 ?_
        refine cV0_iw R dX6_read_59 (c_Reading_upNext hP) rc_Reading ml_X6_40 mv_Reading_upNext (by decide) (Nat.le_of_ble_eq_true rfl) (fun v59 h59 hP => ?_)
        refine v_iconst R dX6_read_62 (v := (-1 : Int32)) (by decide) ?_
        refine v_icmp_eq (tgt := 76) R dX6_read_63 (by decide) (fun q63 => ?_) (fun q63 => ?_)
        · have hP := hP.1 q63
          refine v_wk R [some (.ref (φ 1)), none] ⟨rfl, trivial⟩ ?_
          exact hE h59 hP
        · have hP := hP.2 q63
          refine v_aload_0 R dX6_read_66 ?_
          refine cV0_vw R dX6_read_67 (c_Reading_readClause hP) rc_Reading ml_X6_47 mv_Reading_readClause (by decide) (Nat.le_of_ble_eq_true rfl) (fun h67 hP => ?_)
          refine v_iincL_1 R (1 : Int32) dX6_read_70 (by decide) rfl (by decide) hP (fun x70 hP => ?_)
          refine v_goto (tgt := 44) R dX6_read_73 (by decide) ?_
          exact ih x70 h67 hP
set_option maxRecDepth 100000 in
set_option maxHeartbeats 4000000 in
theorem c_Reading_read {l : Launch} {D : va_G} {cs : Nat → ClassId} {φ : Nat → Nat} {h : Hp} {P : Hp → Prop} (hP : wp_Reading_read h P) : Ct l D cs φ M_Reading_read [.ref (φ 1)] h (fun rv h2 => rv = none ∧ P h2) := by
  refine Ct.of (lc := [some (.ref (φ 1)), none]) RX6 5 106 rfl (by decide +kernel) rfl (Nat.le_of_ble_eq_true rfl) rfl rfl (fun V R RI RV => ?_)
  have R : Ru l D cs φ RX6 cX6_read 2 5 106 V := R
  have Rt : ∀ pc lc h, decode cX6_read pc = .ok (.return_, 1) → P h → V pc lc [] h := fun pc lc h hd hp => RV pc lc h rfl hd ⟨rfl, hp⟩
  unfold wp_Reading_read at hP
  refine v_aload_0 R dX6_read_0 ?_
  refine v_iconst R dX6_read_1 (v := (0 : Int32)) (by decide) ?_
  refine p_Reading_at R dX6_read_2 fl_X6_25 hP (fun h2 hP => ?_)
  refine v_aload_0 R dX6_read_5 ?_
  refine v_iconst R dX6_read_6 (v := (0 : Int32)) (by decide) ?_
  refine p_Reading_wires R dX6_read_7 fl_X6_28 hP (fun h7 hP => ?_)
  refine v_aload_0 R dX6_read_10 ?_
  refine v_iconst R dX6_read_11 (v := (0 : Int32)) (by decide) ?_
  refine p_Reading_kinds R dX6_read_12 fl_X6_31 hP (fun h12 hP => ?_)
  refine v_aload_0 R dX6_read_15 ?_
  refine v_iconst R dX6_read_16 (v := (0 : Int32)) (by decide) ?_
  refine p_Reading_touching R dX6_read_17 fl_X6_34 hP (fun h17 hP => ?_)
  refine v_aload_0 R dX6_read_20 ?_
  refine v_iconst R dX6_read_21 (v := (0 : Int32)) (by decide) ?_
  refine p_Reading_faultNumber R dX6_read_22 fl_X6_37 hP (fun h22 hP => ?_)
  refine v_aload_0 R dX6_read_25 ?_
  refine v_iconst R dX6_read_26 (v := (-1 : Int32)) (by decide) ?_
  refine p_Reading_faultAt R dX6_read_27 fl_X6_15 hP (fun h27 hP => ?_)
  refine v_aload_0 R dX6_read_30 ?_
  refine cV0_iw R dX6_read_31 (c_Reading_upNext hP) rc_Reading ml_X6_40 mv_Reading_upNext (by decide) (Nat.le_of_ble_eq_true rfl) (fun v31 h31 hP => ?_)
  refine v_iconst R dX6_read_34 (v := (-1 : Int32)) (by decide) ?_
  refine jn_v (fun K => ∀ (h76 : Hp), K h76 → V 76 [some (.ref (φ 1)), none] [] h76) ?_ ?_ hP
  · intro h76 hP
    refine v_aload_0 R dX6_read_76 ?_
    refine v_iconst R dX6_read_77 (v := (0 : Int32)) (by decide) ?_
    refine p_Reading_length R dX6_read_78 fl_X6_22 hP (fun h78 hP => ?_)
    exact Rt _ _ _ dX6_read_81 hP
  · intro K J76 hP
    refine v_icmp_eq (tgt := 76) R dX6_read_35 (by decide) (fun q35 => ?_) (fun q35 => ?_)
    · have hP := hP.1 q35
      exact J76 h31 hP
    · have hP := hP.2 q35
      refine v_aload_0 R dX6_read_38 ?_
      refine cV0_vw R dX6_read_39 (c_Reading_readOrder hP) rc_Reading ml_X6_44 mv_Reading_readOrder (by decide) (Nat.le_of_ble_eq_true rfl) (fun h39 hP => ?_)
      refine v_iconst R dX6_read_42 (v := (0 : Int32)) (by decide) ?_
      refine v_istore_1 R dX6_read_43 (by decide) rfl ?_
      obtain ⟨n44, hP⟩ := hP
      refine L_Reading_read_44 R ?_ n44 _ _ hP
      intro h44x hP
      exact J76 h44x hP
set_option maxRecDepth 100000 in
set_option maxHeartbeats 4000000 in
theorem c_State_begin {l : Launch} {D : va_G} {cs : Nat → ClassId} {φ : Nat → Nat} {r : Nat} {p0 p1 : Int32} {h : Hp} {P : Hp → Prop} (hk_r : kd r = 9) (hP : wp_State_begin r p0 p1 h P) : Ct l D cs φ M_State_begin [.ref (φ r), .int p0, .int p1] h (fun rv h2 => rv = none ∧ P h2) := by
  refine Ct.of (lc := [some (.ref (φ r)), some (.int p0), some (.int p1)]) RX8 0 0 rfl (by decide +kernel) rfl (Nat.le_of_ble_eq_true rfl) rfl rfl (fun V R RI RV => ?_)
  have R : Ru l D cs φ RX8 cX8_begin 3 0 0 V := R
  have Rt : ∀ pc lc h, decode cX8_begin pc = .ok (.return_, 1) → P h → V pc lc [] h := fun pc lc h hd hp => RV pc lc h rfl hd ⟨rfl, hp⟩
  unfold wp_State_begin at hP
  refine v_aload_0 R dX8_begin_0 ?_
  refine v_iload_1 R dX8_begin_1 ?_
  refine p_State_kinds R dX8_begin_2 fl_X8_9 hk_r hP (fun h2 hP => ?_)
  refine v_aload_0 R dX8_begin_5 ?_
  refine v_iload_2 R dX8_begin_6 ?_
  refine p_State_touching R dX8_begin_7 fl_X8_15 hk_r hP (fun h7 hP => ?_)
  refine v_aload_0 R dX8_begin_10 ?_
  refine v_iconst R dX8_begin_11 (v := (0 : Int32)) (by decide) ?_
  refine p_State_nearTies R dX8_begin_12 fl_X8_18 hk_r hP (fun h12 hP => ?_)
  refine v_aload_0 R dX8_begin_15 ?_
  refine v_iconst R dX8_begin_16 (v := (0 : Int32)) (by decide) ?_
  refine p_State_farTies R dX8_begin_17 fl_X8_21 hk_r hP (fun h17 hP => ?_)
  refine v_aload_0 R dX8_begin_20 ?_
  refine v_iconst R dX8_begin_21 (v := (0 : Int32)) (by decide) ?_
  refine p_State_place R dX8_begin_22 fl_X8_24 hk_r hP (fun h22 hP => ?_)
  refine v_aload_0 R dX8_begin_25 ?_
  refine v_iconst R dX8_begin_26 (v := (0 : Int32)) (by decide) ?_
  refine p_State_hours R dX8_begin_27 fl_X8_27 hk_r hP (fun h27 hP => ?_)
  refine v_aload_0 R dX8_begin_30 ?_
  refine v_iconst R dX8_begin_31 (v := (0 : Int32)) (by decide) ?_
  refine p_State_crosses R dX8_begin_32 fl_X8_30 hk_r hP (fun h32 hP => ?_)
  refine v_aload_0 R dX8_begin_35 ?_
  refine v_iconst R dX8_begin_36 (v := (0 : Int32)) (by decide) ?_
  refine p_State_tests R dX8_begin_37 fl_X8_33 hk_r hP (fun h37 hP => ?_)
  exact Rt _ _ _ dX8_begin_40 hP
set_option maxRecDepth 100000 in
set_option maxHeartbeats 4000000 in
theorem c_Past_clear {l : Launch} {D : va_G} {cs : Nat → ClassId} {φ : Nat → Nat} {h : Hp} {P : Hp → Prop} (hP : wp_Past_clear h P) : Ct l D cs φ M_Past_clear [.ref (φ 2)] h (fun rv h2 => rv = none ∧ P h2) := by
  refine Ct.of (lc := [some (.ref (φ 2))]) RX5 0 0 rfl (by decide +kernel) rfl (Nat.le_of_ble_eq_true rfl) rfl rfl (fun V R RI RV => ?_)
  have R : Ru l D cs φ RX5 cX5_clear 1 0 0 V := R
  have Rt : ∀ pc lc h, decode cX5_clear pc = .ok (.return_, 1) → P h → V pc lc [] h := fun pc lc h hd hp => RV pc lc h rfl hd ⟨rfl, hp⟩
  unfold wp_Past_clear at hP
  refine v_aload_0 R dX5_clear_0 ?_
  refine v_iconst R dX5_clear_1 (v := (0 : Int32)) (by decide) ?_
  refine p_Past_count R dX5_clear_2 fl_X5_18 hP (fun h2 hP => ?_)
  refine v_aload_0 R dX5_clear_5 ?_
  refine v_iconst R dX5_clear_6 (v := (0 : Int32)) (by decide) ?_
  refine p_Past_next R dX5_clear_7 fl_X5_22 hP (fun h7 hP => ?_)
  exact Rt _ _ _ dX5_clear_10 hP
set_option maxRecDepth 100000 in
set_option maxHeartbeats 4000000 in
theorem L_Fe_cable_86 {l : Launch} {D : va_G} {cs : Nat → ClassId} {φ : Nat → Nat} {V : Nat → List (Option Value) → List Value → Hp → Prop} {E : Hp → Prop} (R : Ru l D cs φ RX10 cX10_cable 2 6 127 V) (hE : ∀ (h : Hp), E h → V 107 [some (.ref (φ 0)), none] [] h) : ∀ (n : Nat) (a1 : Int32) (h : Hp), lp_Fe_cable_86 n a1 h E → V 86 [some (.ref (φ 0)), some (.int a1)] [] h := by
  intro n
  induction n with
  | zero => intro a1 h hP; exact hP.elim
  | succ n ih =>
    intro a1 h hP
    unfold lp_Fe_cable_86 at hP
    refine v_iload_1 R dX10_cable_86 ?_
    refine v_iconst R dX10_cable_87 (v := (2 : Int32)) (by decide) ?_
    refine v_icmp_ge (tgt := 107) R dX10_cable_88 (by decide) (fun q88 => ?_) (fun q88 => ?_)
    · have hP := hP.1 q88
      refine v_wk R [some (.ref (φ 0)), none] ⟨rfl, trivial⟩ ?_
      exact hE h hP
    · have hP := hP.2 q88
      refine v_aload_0 R dX10_cable_91 ?_
      refine g_Fe_images R dX10_cable_92 fl_X10_43 ?_
      refine v_iload_1 R dX10_cable_95 ?_
      obtain ⟨hi96, hP⟩ := hP
      refine v_aald_65 R dX10_cable_96 hi96 ?_
      refine v_iconst R dX10_cable_97 (v := (0 : Int32)) (by decide) ?_
      refine p_Image_kept R dX10_cable_98 fl_X10_129 (kd_65 hi96) (Or.inl rfl) hP (fun h98 hP => ?_)
      refine v_iincL_1 R (1 : Int32) dX10_cable_101 (by decide) rfl (by decide) hP (fun x101 hP => ?_)
      refine v_goto (tgt := 86) R dX10_cable_104 (by decide) ?_
      exact ih x101 h98 hP
set_option maxRecDepth 100000 in
set_option maxHeartbeats 4000000 in
theorem c_Fe_cable {l : Launch} {D : va_G} {cs : Nat → ClassId} {φ : Nat → Nat} {h : Hp} {P : Int32 → Hp → Prop} (hP : wp_Fe_cable h P) : Ct l D cs φ M_Fe_cable [.ref (φ 0)] h (fun rv h2 => ∃ v, rv = some (.int v) ∧ P v h2) := by
  refine Ct.of (lc := [some (.ref (φ 0)), none]) RX10 6 127 rfl (by decide +kernel) rfl (Nat.le_of_ble_eq_true rfl) rfl rfl (fun V R RI RV => ?_)
  have R : Ru l D cs φ RX10 cX10_cable 2 6 127 V := R
  have Rt : ∀ pc lc v h, decode cX10_cable pc = .ok (.ireturn, 1) → P v h → V pc lc [.int v] h := fun pc lc v h hd hp => RI pc lc _ .int h rfl rfl hd ⟨v, rfl, hp⟩
  unfold wp_Fe_cable at hP
  refine v_aload_0 R dX10_cable_0 ?_
  refine g_Fe_reading R dX10_cable_1 fl_X10_10 ?_
  refine cV0_vw R dX10_cable_4 (c_Reading_read hP) rc_Reading ml_X10_99 mv_Reading_read (by decide) (Nat.le_of_ble_eq_true rfl) (fun h4 hP => ?_)
  refine v_aload_0 R dX10_cable_7 ?_
  refine g_Fe_reading R dX10_cable_8 fl_X10_10 ?_
  refine g_Reading_faultNumber R dX10_cable_11 fl_X10_102 ?_
  refine v_if_eq (tgt := 28) R dX10_cable_14 (by decide) (fun q14 => ?_) (fun q14 => ?_)
  · have hP := hP.1 q14
    refine v_aload_0 R dX10_cable_28 ?_
    refine v_aload_0 R dX10_cable_29 ?_
    refine g_Fe_reading R dX10_cable_30 fl_X10_10 ?_
    refine g_Reading_wires R dX10_cable_33 fl_X10_105 ?_
    refine p_Fe_wires R dX10_cable_36 fl_X10_108 hP (fun h36 hP => ?_)
    refine v_aload_0 R dX10_cable_39 ?_
    refine g_Fe_reading R dX10_cable_40 fl_X10_10 ?_
    refine g_Reading_order R dX10_cable_43 fl_X10_109 ?_
    refine v_iconst R dX10_cable_46 (v := (0 : Int32)) (by decide) ?_
    refine v_aload_0 R dX10_cable_47 ?_
    refine g_Fe_order R dX10_cable_48 fl_X10_16 ?_
    refine v_iconst R dX10_cable_51 (v := (0 : Int32)) (by decide) ?_
    refine v_iconst R dX10_cable_52 (v := (5 : Int32)) (by decide) ?_
    refine v_copyL R dX10_cable_53 ml_X10_110 mt_acopy ms_acopy in_java_lang_System rfl rfl (by decide) (by decide) (by decide) (by decide) (by decide) hP (fun h53 hP => ?_)
    refine v_aload_0 R dX10_cable_56 ?_
    refine g_Fe_now R dX10_cable_57 fl_X10_23 ?_
    refine v_aload_0 R dX10_cable_60 ?_
    refine g_Fe_reading R dX10_cable_61 fl_X10_10 ?_
    refine g_Reading_kinds R dX10_cable_64 fl_X10_116 ?_
    refine v_aload_0 R dX10_cable_67 ?_
    refine g_Fe_reading R dX10_cable_68 fl_X10_10 ?_
    refine g_Reading_touching R dX10_cable_71 fl_X10_119 ?_
    refine cV2_vw R dX10_cable_74 (c_State_begin rfl hP) (rc_State rfl) ml_X10_122 mv_State_begin (by decide) (Nat.le_of_ble_eq_true rfl) (fun h74 hP => ?_)
    refine v_aload_0 R dX10_cable_77 ?_
    refine g_Fe_past R dX10_cable_78 fl_X10_30 ?_
    refine cV0_vw R dX10_cable_81 (c_Past_clear hP) rc_Past ml_X10_126 mv_Past_clear (by decide) (Nat.le_of_ble_eq_true rfl) (fun h81 hP => ?_)
    refine v_iconst R dX10_cable_84 (v := (0 : Int32)) (by decide) ?_
    refine v_istore_1 R dX10_cable_85 (by decide) rfl ?_
    obtain ⟨n86, hP⟩ := hP
    refine L_Fe_cable_86 R ?_ n86 _ _ hP
    intro h86x hP
    refine v_aload_0 R dX10_cable_107 ?_
    refine v_iconst R dX10_cable_108 (v := (0 : Int32)) (by decide) ?_
    refine p_Fe_seenCount R dX10_cable_109 fl_X10_133 hP (fun h109 hP => ?_)
    refine v_aload_0 R dX10_cable_112 ?_
    refine v_iconst R dX10_cable_113 (v := (0 : Int32)) (by decide) ?_
    refine p_Fe_bookCount R dX10_cable_114 fl_X10_136 hP (fun h114 hP => ?_)
    refine v_aload_0 R dX10_cable_117 ?_
    refine g_Fe_wires R dX10_cable_118 fl_X10_108 ?_
    exact Rt _ _ _ _ dX10_cable_121 hP
  · have hP := hP.2 q14
    refine v_bipush R dX10_cable_17 (v := (-10 : Int32)) (by decide) ?_
    refine v_aload_0 R dX10_cable_19 ?_
    refine g_Fe_reading R dX10_cable_20 fl_X10_10 ?_
    refine g_Reading_faultNumber R dX10_cable_23 fl_X10_102 ?_
    refine v_isub R dX10_cable_26 ?_
    exact Rt _ _ _ _ dX10_cable_27 hP
set_option maxRecDepth 100000 in
set_option maxHeartbeats 4000000 in
theorem c_Fe_fault {l : Launch} {D : va_G} {cs : Nat → ClassId} {φ : Nat → Nat} {h : Hp} {P : Int32 → Prop} (hP : wp_Fe_fault h P) : Ct l D cs φ M_Fe_fault [.ref (φ 0)] h (fun rv h2 => ∃ v, rv = some (.int v) ∧ h2 = h ∧ P v) := by
  refine Ct.of (lc := [some (.ref (φ 0))]) RX10 0 0 rfl (by decide +kernel) rfl (Nat.le_of_ble_eq_true rfl) rfl rfl (fun V R RI RV => ?_)
  have R : Ru l D cs φ RX10 cX10_fault 1 0 0 V := R
  have Rt : ∀ pc lc v, decode cX10_fault pc = .ok (.ireturn, 1) → P v → V pc lc [.int v] h := fun pc lc v hd hp => RI pc lc _ .int h rfl rfl hd ⟨v, rfl, rfl, hp⟩
  unfold wp_Fe_fault at hP
  refine v_aload_0 R dX10_fault_0 ?_
  refine g_Fe_reading R dX10_fault_1 fl_X10_10 ?_
  refine g_Reading_faultAt R dX10_fault_4 fl_X10_139 ?_
  exact Rt _ _ _ dX10_fault_7 hP
set_option maxRecDepth 100000 in
set_option maxHeartbeats 4000000 in
theorem c_Int_bitCount {l : Launch} {D : va_G} {cs : Nat → ClassId} {φ : Nat → Nat} {p0 : Int32} {h : Hp} {P : Int32 → Prop} (hP : wp_Int_bitCount p0 P) : Ct l D cs φ M_Int_bitCount [.int p0] h (fun rv h2 => ∃ v, rv = some (.int v) ∧ h2 = h ∧ P v) := by
  refine Ct.of (lc := [some (.int p0)]) RJ6 0 0 rfl (by decide +kernel) rfl (Nat.le_of_ble_eq_true rfl) rfl rfl (fun V R RI RV => ?_)
  have R : Ru l D cs φ RJ6 cJ6_bitCount_0f7a4 1 0 0 V := R
  have Rt : ∀ pc lc v, decode cJ6_bitCount_0f7a4 pc = .ok (.ireturn, 1) → P v → V pc lc [.int v] h := fun pc lc v hd hp => RI pc lc _ .int h rfl rfl hd ⟨v, rfl, rfl, hp⟩
  unfold wp_Int_bitCount at hP
  refine v_iload_0 R dJ6_bitCount_0f7a4_0 ?_
  refine v_iload_0 R dJ6_bitCount_0f7a4_1 ?_
  refine v_iconst R dJ6_bitCount_0f7a4_2 (v := (1 : Int32)) (by decide) ?_
  refine v_iushr2 R dJ6_bitCount_0f7a4_3 ?_
  refine v_ldcw R dJ6_bitCount_0f7a4_4 ct_J6_265 ?_
  refine v_iand R dJ6_bitCount_0f7a4_7 ?_
  refine v_isub R dJ6_bitCount_0f7a4_8 ?_
  refine v_istoreL_0 R dJ6_bitCount_0f7a4_9 (by decide) rfl hP (fun x9 hP => ?_)
  refine v_iload_0 R dJ6_bitCount_0f7a4_10 ?_
  refine v_ldcw R dJ6_bitCount_0f7a4_11 ct_J6_266 ?_
  refine v_iand R dJ6_bitCount_0f7a4_14 ?_
  refine v_iload_0 R dJ6_bitCount_0f7a4_15 ?_
  refine v_iconst R dJ6_bitCount_0f7a4_16 (v := (2 : Int32)) (by decide) ?_
  refine v_iushr2 R dJ6_bitCount_0f7a4_17 ?_
  refine v_ldcw R dJ6_bitCount_0f7a4_18 ct_J6_266 ?_
  refine v_iand R dJ6_bitCount_0f7a4_21 ?_
  refine v_iadd R dJ6_bitCount_0f7a4_22 ?_
  refine v_istoreL_0 R dJ6_bitCount_0f7a4_23 (by decide) rfl hP (fun x23 hP => ?_)
  refine v_iload_0 R dJ6_bitCount_0f7a4_24 ?_
  refine v_iload_0 R dJ6_bitCount_0f7a4_25 ?_
  refine v_iconst R dJ6_bitCount_0f7a4_26 (v := (4 : Int32)) (by decide) ?_
  refine v_iushr2 R dJ6_bitCount_0f7a4_27 ?_
  refine v_iadd R dJ6_bitCount_0f7a4_28 ?_
  refine v_ldcw R dJ6_bitCount_0f7a4_29 ct_J6_267 ?_
  refine v_iand R dJ6_bitCount_0f7a4_32 ?_
  refine v_istoreL_0 R dJ6_bitCount_0f7a4_33 (by decide) rfl hP (fun x33 hP => ?_)
  refine v_iload_0 R dJ6_bitCount_0f7a4_34 ?_
  refine v_iload_0 R dJ6_bitCount_0f7a4_35 ?_
  refine v_bipush R dJ6_bitCount_0f7a4_36 (v := (8 : Int32)) (by decide) ?_
  refine v_iushr2 R dJ6_bitCount_0f7a4_38 ?_
  refine v_iadd R dJ6_bitCount_0f7a4_39 ?_
  refine v_istoreL_0 R dJ6_bitCount_0f7a4_40 (by decide) rfl hP (fun x40 hP => ?_)
  refine v_iload_0 R dJ6_bitCount_0f7a4_41 ?_
  refine v_iload_0 R dJ6_bitCount_0f7a4_42 ?_
  refine v_bipush R dJ6_bitCount_0f7a4_43 (v := (16 : Int32)) (by decide) ?_
  refine v_iushr2 R dJ6_bitCount_0f7a4_45 ?_
  refine v_iadd R dJ6_bitCount_0f7a4_46 ?_
  refine v_istoreL_0 R dJ6_bitCount_0f7a4_47 (by decide) rfl hP (fun x47 hP => ?_)
  refine v_iload_0 R dJ6_bitCount_0f7a4_48 ?_
  refine v_bipush R dJ6_bitCount_0f7a4_49 (v := (63 : Int32)) (by decide) ?_
  refine v_iand R dJ6_bitCount_0f7a4_51 ?_
  exact Rt _ _ _ dJ6_bitCount_0f7a4_52 hP
set_option maxRecDepth 100000 in
set_option maxHeartbeats 4000000 in
theorem L_Nets_merge_41 {l : Launch} {D : va_G} {cs : Nat → ClassId} {φ : Nat → Nat} {V : Nat → List (Option Value) → List Value → Hp → Prop} {e0 : Nat} {a3 : Int32} {E : Hp → Prop} (R : Ru l D cs φ RX3 cX3_merge 5 0 0 V) (hk_e0 : kd e0 = 12) (hE : ∀ (h : Hp), E h → V 68 [none, none, none, none, none] [] h) : ∀ (n : Nat) (a4 : Int32) (h : Hp), lp_Nets_merge_41 n e0 a3 a4 h E → V 41 [some (.ref (φ e0)), none, none, some (.int a3), some (.int a4)] [] h := by
  intro n
  induction n with
  | zero => intro a4 h hP; exact hP.elim
  | succ n ih =>
    intro a4 h hP
    unfold lp_Nets_merge_41 at hP
    refine v_iload_4 R dX3_merge_41 ?_
    refine v_aload_0 R dX3_merge_43 ?_
    refine v_alen R dX3_merge_44 hk_e0 ?_
    refine v_icmp_ge (tgt := 68) R dX3_merge_45 (by decide) (fun q45 => ?_) (fun q45 => ?_)
    · have hP := hP.1 q45
      refine v_wk R [none, none, none, none, none] trivial ?_
      exact hE h hP
    · have hP := hP.2 q45
      refine v_iload_3 R dX3_merge_48 ?_
      refine v_iload_4 R dX3_merge_49 ?_
      refine v_ishr R dX3_merge_51 ?_
      refine v_iconst R dX3_merge_52 (v := (1 : Int32)) (by decide) ?_
      refine v_iand R dX3_merge_53 ?_
      refine jn_v (fun K => ∀ (h62 : Hp), K h62 → V 62 [some (.ref (φ e0)), none, none, some (.int a3), some (.int a4)] [] h62) ?_ ?_ hP
      · intro h62 hP
        refine v_iincL_4 R (1 : Int32) dX3_merge_62 (by decide) rfl (by decide) hP (fun x62 hP => ?_)
        refine v_goto (tgt := 41) R dX3_merge_65 (by decide) ?_
        exact ih x62 h62 hP
      · intro K J62 hP
        refine v_if_eq (tgt := 62) R dX3_merge_54 (by decide) (fun q54 => ?_) (fun q54 => ?_)
        · have hP := hP.1 q54
          exact J62 h hP
        · have hP := hP.2 q54
          refine v_aload_0 R dX3_merge_57 ?_
          refine v_iload_4 R dX3_merge_58 ?_
          refine v_iload_3 R dX3_merge_60 ?_
          obtain ⟨hi61, hP⟩ := hP
          refine v_iastL R dX3_merge_61 hk_e0 hi61 hP (fun h61 hP => ?_)
          exact J62 h61 hP
set_option maxRecDepth 100000 in
set_option maxHeartbeats 4000000 in
theorem c_Nets_merge {l : Launch} {D : va_G} {cs : Nat → ClassId} {φ : Nat → Nat} {c0 : Nat} {p1 p2 : Int32} {h : Hp} {P : Hp → Prop} (hk_c0 : kd c0 = 12) (hP : wp_Nets_merge c0 p1 p2 h P) : Ct l D cs φ M_Nets_merge [.ref (φ c0), .int p1, .int p2] h (fun rv h2 => rv = none ∧ P h2) := by
  refine Ct.of (lc := [some (.ref (φ c0)), some (.int p1), some (.int p2), none, none]) RX3 0 0 rfl (by decide +kernel) rfl (Nat.le_of_ble_eq_true rfl) rfl rfl (fun V R RI RV => ?_)
  have R : Ru l D cs φ RX3 cX3_merge 5 0 0 V := R
  have Rt : ∀ pc lc h, decode cX3_merge pc = .ok (.return_, 1) → P h → V pc lc [] h := fun pc lc h hd hp => RV pc lc h rfl hd ⟨rfl, hp⟩
  unfold wp_Nets_merge at hP
  refine v_iload_1 R dX3_merge_0 ?_
  refine v_if_lt (tgt := 29) R dX3_merge_1 (by decide) (fun q1 => ?_) (fun q1 => ?_)
  · have hP := hP.1 q1
    exact Rt _ _ _ dX3_merge_29 hP
  · have hP := hP.2 q1
    refine v_iload_1 R dX3_merge_4 ?_
    refine v_aload_0 R dX3_merge_5 ?_
    refine v_alen R dX3_merge_6 hk_c0 ?_
    refine v_icmp_ge (tgt := 29) R dX3_merge_7 (by decide) (fun q7 => ?_) (fun q7 => ?_)
    · have hP := hP.1 q7
      exact Rt _ _ _ dX3_merge_29 hP
    · have hP := hP.2 q7
      refine v_iload_2 R dX3_merge_10 ?_
      refine v_if_lt (tgt := 29) R dX3_merge_11 (by decide) (fun q11 => ?_) (fun q11 => ?_)
      · have hP := hP.1 q11
        exact Rt _ _ _ dX3_merge_29 hP
      · have hP := hP.2 q11
        refine v_iload_2 R dX3_merge_14 ?_
        refine v_aload_0 R dX3_merge_15 ?_
        refine v_alen R dX3_merge_16 hk_c0 ?_
        refine v_icmp_ge (tgt := 29) R dX3_merge_17 (by decide) (fun q17 => ?_) (fun q17 => ?_)
        · have hP := hP.1 q17
          exact Rt _ _ _ dX3_merge_29 hP
        · have hP := hP.2 q17
          refine v_aload_0 R dX3_merge_20 ?_
          refine v_iload_1 R dX3_merge_21 ?_
          obtain ⟨hi22, hP⟩ := hP
          refine v_iald R dX3_merge_22 hk_c0 hi22 ?_
          refine v_aload_0 R dX3_merge_23 ?_
          refine v_iload_2 R dX3_merge_24 ?_
          obtain ⟨hi25, hP⟩ := hP
          refine v_iald R dX3_merge_25 hk_c0 hi25 ?_
          refine v_icmp_ne (tgt := 30) R dX3_merge_26 (by decide) (fun q26 => ?_) (fun q26 => ?_)
          · have hP := hP.1 q26
            refine v_aload_0 R dX3_merge_30 ?_
            refine v_iload_1 R dX3_merge_31 ?_
            obtain ⟨hi32, hP⟩ := hP
            refine v_iald R dX3_merge_32 hk_c0 hi32 ?_
            refine v_aload_0 R dX3_merge_33 ?_
            refine v_iload_2 R dX3_merge_34 ?_
            obtain ⟨hi35, hP⟩ := hP
            refine v_iald R dX3_merge_35 hk_c0 hi35 ?_
            refine v_ior R dX3_merge_36 ?_
            refine v_istoreL_3 R dX3_merge_37 (by decide) rfl hP (fun x37 hP => ?_)
            refine v_iconst R dX3_merge_38 (v := (0 : Int32)) (by decide) ?_
            refine v_istore_4 R dX3_merge_39 (by decide) rfl ?_
            refine v_wk R [some (.ref (φ c0)), none, none, some (.int x37), some (.int (0 : Int32))] ⟨rfl, ⟨rfl, ⟨rfl, trivial⟩⟩⟩ ?_
            obtain ⟨n41, hP⟩ := hP
            refine L_Nets_merge_41 R hk_c0 ?_ n41 _ _ hP
            intro h41x hP
            exact Rt _ _ _ dX3_merge_68 hP
          · have hP := hP.2 q26
            exact Rt _ _ _ dX3_merge_29 hP
set_option maxRecDepth 100000 in
set_option maxHeartbeats 4000000 in
theorem c_Nets_areTied {l : Launch} {D : va_G} {cs : Nat → ClassId} {φ : Nat → Nat} {p0 p1 p2 : Int32} {h : Hp} {P : Bool → Prop} (hP : wp_Nets_areTied p0 p1 p2 P) : Ct l D cs φ M_Nets_areTied [.int p0, .int p1, .int p2] h (fun rv h2 => ∃ v, rv = some (.int (bI v)) ∧ h2 = h ∧ P v) := by
  refine Ct.of (lc := [some (.int p0), some (.int p1), some (.int p2), none]) RX3 1 21 rfl (by decide +kernel) rfl (Nat.le_of_ble_eq_true rfl) rfl rfl (fun V R RI RV => ?_)
  have R : Ru l D cs φ RX3 cX3_areTied 4 1 21 V := R
  have Rt : ∀ pc lc v, decode cX3_areTied pc = .ok (.ireturn, 1) → P v → V pc lc [.int (bI v)] h := fun pc lc v hd hp => RI pc lc _ .boolean h rfl (bI_n v) hd ⟨v, rfl, rfl, hp⟩
  unfold wp_Nets_areTied at hP
  refine v_iload_0 R dX3_areTied_0 ?_
  refine v_iload_1 R dX3_areTied_1 ?_
  refine cN2_ir R dX3_areTied_2 (c_Fe_part hP) mn_X3_18 mv_Fe_part (by decide) (Nat.le_of_ble_eq_true rfl) (fun v2 hP => ?_)
  refine v_istore_3 R dX3_areTied_5 (by decide) rfl ?_
  refine v_iload_3 R dX3_areTied_6 ?_
  refine v_if_eq (tgt := 23) R dX3_areTied_7 (by decide) (fun q7 => ?_) (fun q7 => ?_)
  · have hP := hP.1 q7
    refine v_iconst R dX3_areTied_23 (v := (0 : Int32)) (by decide) ?_
    exact Rt _ _ false dX3_areTied_24 hP
  · have hP := hP.2 q7
    refine v_iload_3 R dX3_areTied_10 ?_
    refine v_iload_0 R dX3_areTied_11 ?_
    refine v_iload_2 R dX3_areTied_12 ?_
    refine cN2_ir R dX3_areTied_13 (c_Fe_part hP) mn_X3_18 mv_Fe_part (by decide) (Nat.le_of_ble_eq_true rfl) (fun v13 hP => ?_)
    refine v_icmp_ne (tgt := 23) R dX3_areTied_16 (by decide) (fun q16 => ?_) (fun q16 => ?_)
    · have hP := hP.1 q16
      refine v_iconst R dX3_areTied_23 (v := (0 : Int32)) (by decide) ?_
      exact Rt _ _ false dX3_areTied_24 hP
    · have hP := hP.2 q16
      refine v_iconst R dX3_areTied_19 (v := (1 : Int32)) (by decide) ?_
      refine v_goto (tgt := 24) R dX3_areTied_20 (by decide) ?_
      exact Rt _ _ true dX3_areTied_24 hP
set_option maxRecDepth 100000 in
set_option maxHeartbeats 4000000 in
theorem L_Nets_lay_3 {l : Launch} {D : va_G} {cs : Nat → ClassId} {φ : Nat → Nat} {V : Nat → List (Option Value) → List Value → Hp → Prop} {e0 : Nat} {a1 a2 a3 a4 : Int32} {E : Hp → Prop} (R : Ru l D cs φ RX3 cX3_lay 7 2 44 V) (hk_e0 : kd e0 = 11) (hE : ∀ (h : Hp), E h → V 27 [some (.ref (φ e0)), some (.int a1), some (.int a2), some (.int a3), some (.int a4), none, none] [] h) : ∀ (n : Nat) (a5 : Int32) (h : Hp), lp_Nets_lay_3 n e0 a1 a2 a3 a4 a5 h E → V 3 [some (.ref (φ e0)), some (.int a1), some (.int a2), some (.int a3), some (.int a4), some (.int a5), none] [] h := by
  intro n
  induction n with
  | zero => intro a5 h hP; exact hP.elim
  | succ n ih =>
    intro a5 h hP
    unfold lp_Nets_lay_3 at hP
    refine v_iload_5 R dX3_lay_3 ?_
    refine v_bipush R dX3_lay_5 (v := (11 : Int32)) (by decide) ?_
    refine v_icmp_ge (tgt := 27) R dX3_lay_7 (by decide) (fun q7 => ?_) (fun q7 => ?_)
    · have hP := hP.1 q7
      refine v_wk R [some (.ref (φ e0)), some (.int a1), some (.int a2), some (.int a3), some (.int a4), none, none] ⟨rfl, ⟨rfl, ⟨rfl, ⟨rfl, ⟨rfl, trivial⟩⟩⟩⟩⟩ ?_
      exact hE h hP
    · have hP := hP.2 q7
      refine v_aload_0 R dX3_lay_10 ?_
      refine g_Nets_bare R dX3_lay_11 fl_X3_9 hk_e0 ?_
      refine v_iload_5 R dX3_lay_14 ?_
      refine v_iconst R dX3_lay_16 (v := (1 : Int32)) (by decide) ?_
      refine v_iload_5 R dX3_lay_17 ?_
      refine v_ishl R dX3_lay_19 ?_
      obtain ⟨hi20, hP⟩ := hP
      refine v_iastL R dX3_lay_20 (kd_bare hk_e0) (by rw [al_bare hk_e0]; exact hi20) hP (fun h20 hP => ?_)
      refine v_iincL_5 R (1 : Int32) dX3_lay_21 (by decide) rfl (by decide) hP (fun x21 hP => ?_)
      refine v_goto (tgt := 3) R dX3_lay_24 (by decide) ?_
      exact ih x21 h20 hP
set_option maxRecDepth 100000 in
set_option maxHeartbeats 4000000 in
theorem L_Nets_lay_63 {l : Launch} {D : va_G} {cs : Nat → ClassId} {φ : Nat → Nat} {V : Nat → List (Option Value) → List Value → Hp → Prop} {e0 : Nat} {a1 a2 a3 a4 a5 : Int32} {E : Hp → Prop} (R : Ru l D cs φ RX3 cX3_lay 7 2 44 V) (hk_e0 : kd e0 = 11) (hE : ∀ (h : Hp), E h → V 136 [some (.ref (φ e0)), some (.int a1), some (.int a2), some (.int a3), some (.int a4), some (.int a5), none] [] h) : ∀ (n : Nat) (a6 : Int32) (h : Hp), lp_Nets_lay_63 n e0 a1 a2 a3 a4 a5 a6 h E → V 63 [some (.ref (φ e0)), some (.int a1), some (.int a2), some (.int a3), some (.int a4), some (.int a5), some (.int a6)] [] h := by
  intro n
  induction n with
  | zero => intro a6 h hP; exact hP.elim
  | succ n ih =>
    intro a6 h hP
    unfold lp_Nets_lay_63 at hP
    refine v_iload_6 R dX3_lay_63 ?_
    refine v_iconst R dX3_lay_65 (v := (5 : Int32)) (by decide) ?_
    refine v_icmp_ge (tgt := 136) R dX3_lay_66 (by decide) (fun q66 => ?_) (fun q66 => ?_)
    · have hP := hP.1 q66
      refine v_wk R [some (.ref (φ e0)), some (.int a1), some (.int a2), some (.int a3), some (.int a4), some (.int a5), none] ⟨rfl, ⟨rfl, ⟨rfl, ⟨rfl, ⟨rfl, ⟨rfl, trivial⟩⟩⟩⟩⟩⟩ ?_
      exact hE h hP
    · have hP := hP.2 q66
      refine v_iload_2 R dX3_lay_69 ?_
      refine v_iload_5 R dX3_lay_70 ?_
      refine v_iload_6 R dX3_lay_72 ?_
      refine cN2_ir R dX3_lay_74 (c_Fe_pairBit hP) mn_X3_26 mv_Fe_pairBit (by decide) (Nat.le_of_ble_eq_true rfl) (fun v74 hP => ?_)
      refine v_iand R dX3_lay_77 ?_
      refine jn_v (fun K => ∀ (h103 : Hp), K h103 → V 103 [some (.ref (φ e0)), some (.int a1), some (.int a2), some (.int a3), some (.int a4), some (.int a5), some (.int a6)] [] h103) ?_ ?_ hP
      · intro h103 hP
        refine v_iload_4 R dX3_lay_103 ?_
        refine v_iload_5 R dX3_lay_105 ?_
        refine v_iload_6 R dX3_lay_107 ?_
        refine cS3_br R dX3_lay_109 (c_Nets_areTied hP) ml_X3_29 mv_Nets_areTied (by decide) (Nat.le_of_ble_eq_true rfl) (fun v109 hP => ?_)
        refine jn_v (fun K => ∀ (h130 : Hp), K h130 → V 130 [some (.ref (φ e0)), some (.int a1), some (.int a2), some (.int a3), some (.int a4), some (.int a5), some (.int a6)] [] h130) ?_ ?_ hP
        · intro h130 hP
          refine v_iincL_6 R (1 : Int32) dX3_lay_130 (by decide) rfl (by decide) hP (fun x130 hP => ?_)
          refine v_goto (tgt := 63) R dX3_lay_133 (by decide) ?_
          exact ih x130 h130 hP
        · intro K J130 hP
          refine v_ifb_eq (tgt := 130) R dX3_lay_112 (by decide) (fun q112 => ?_) (fun q112 => ?_)
          · have hP := hP.1 q112
            exact J130 h103 hP
          · have hP := hP.2 q112
            refine v_aload_0 R dX3_lay_115 ?_
            refine g_Nets_bare R dX3_lay_116 fl_X3_9 hk_e0 ?_
            refine v_iconst R dX3_lay_119 (v := (5 : Int32)) (by decide) ?_
            refine v_iload_5 R dX3_lay_120 ?_
            refine v_iadd R dX3_lay_122 ?_
            refine v_iconst R dX3_lay_123 (v := (5 : Int32)) (by decide) ?_
            refine v_iload_6 R dX3_lay_124 ?_
            refine v_iadd R dX3_lay_126 ?_
            refine cS3_vw R dX3_lay_127 (c_Nets_merge (kd_bare hk_e0) hP) ml_X3_22 mv_Nets_merge (by decide) (Nat.le_of_ble_eq_true rfl) (fun h127 hP => ?_)
            exact J130 h127 hP
      · intro K J103 hP
        refine jn_v (fun K => K → V 92 [some (.ref (φ e0)), some (.int a1), some (.int a2), some (.int a3), some (.int a4), some (.int a5), some (.int a6)] [] h) ?_ ?_ hP
        · intro hP
          refine v_aload_0 R dX3_lay_92 ?_
          refine g_Nets_bare R dX3_lay_93 fl_X3_9 hk_e0 ?_
          refine v_iload_5 R dX3_lay_96 ?_
          refine v_iload_6 R dX3_lay_98 ?_
          refine cS3_vw R dX3_lay_100 (c_Nets_merge (kd_bare hk_e0) hP) ml_X3_22 mv_Nets_merge (by decide) (Nat.le_of_ble_eq_true rfl) (fun h100 hP => ?_)
          exact J103 h100 hP
        · intro K J92 hP
          refine v_if_ne (tgt := 92) R dX3_lay_78 (by decide) (fun q78 => ?_) (fun q78 => ?_)
          · have hP := hP.1 q78
            exact J92 hP
          · have hP := hP.2 q78
            refine v_iload_3 R dX3_lay_81 ?_
            refine v_iload_5 R dX3_lay_82 ?_
            refine v_iload_6 R dX3_lay_84 ?_
            refine cS3_br R dX3_lay_86 (c_Nets_areTied hP) ml_X3_29 mv_Nets_areTied (by decide) (Nat.le_of_ble_eq_true rfl) (fun v86 hP => ?_)
            refine v_ifb_eq (tgt := 103) R dX3_lay_89 (by decide) (fun q89 => ?_) (fun q89 => ?_)
            · have hP := hP.1 q89
              exact J103 h hP
            · have hP := hP.2 q89
              exact J92 hP
set_option maxRecDepth 100000 in
set_option maxHeartbeats 4000000 in
theorem L_Nets_lay_30 {l : Launch} {D : va_G} {cs : Nat → ClassId} {φ : Nat → Nat} {V : Nat → List (Option Value) → List Value → Hp → Prop} {e0 : Nat} {a1 a2 a3 a4 : Int32} {E : Hp → Prop} (R : Ru l D cs φ RX3 cX3_lay 7 2 44 V) (hk_e0 : kd e0 = 11) (hE : ∀ (h : Hp), E h → V 142 [none, none, none, none, none, none, none] [] h) : ∀ (n : Nat) (a5 : Int32) (h : Hp), lp_Nets_lay_30 n e0 a1 a2 a3 a4 a5 h E → V 30 [some (.ref (φ e0)), some (.int a1), some (.int a2), some (.int a3), some (.int a4), some (.int a5), none] [] h := by
  intro n
  induction n with
  | zero => intro a5 h hP; exact hP.elim
  | succ n ih =>
    intro a5 h hP
    unfold lp_Nets_lay_30 at hP
    refine v_iload_5 R dX3_lay_30 ?_
    refine v_iconst R dX3_lay_32 (v := (5 : Int32)) (by decide) ?_
    refine v_icmp_ge (tgt := 142) R dX3_lay_33 (by decide) (fun q33 => ?_) (fun q33 => ?_)
    · have hP := hP.1 q33
      refine v_wk R [none, none, none, none, none, none, none] trivial ?_
      exact hE h hP
    · have hP := hP.2 q33
      refine v_iload_1 R dX3_lay_36 ?_
      refine v_iload_5 R dX3_lay_37 ?_
      refine cN2_ir R dX3_lay_39 (c_Fe_part hP) mn_X3_18 mv_Fe_part (by decide) (Nat.le_of_ble_eq_true rfl) (fun v39 hP => ?_)
      refine v_iconst R dX3_lay_42 (v := (2 : Int32)) (by decide) ?_
      refine jn_v (fun K => ∀ (h57 : Hp), K h57 → V 57 [some (.ref (φ e0)), some (.int a1), some (.int a2), some (.int a3), some (.int a4), some (.int a5), none] [] h57) ?_ ?_ hP
      · intro h57 hP
        refine v_iload_5 R dX3_lay_57 ?_
        refine v_iconst R dX3_lay_59 (v := (1 : Int32)) (by decide) ?_
        refine v_iadd R dX3_lay_60 ?_
        refine v_istoreL_6 R dX3_lay_61 (by decide) rfl hP (fun x61 hP => ?_)
        obtain ⟨n63, hP⟩ := hP
        refine L_Nets_lay_63 R hk_e0 ?_ n63 _ _ hP
        intro h63x hP
        refine v_iincL_5 R (1 : Int32) dX3_lay_136 (by decide) rfl (by decide) hP (fun x136 hP => ?_)
        refine v_goto (tgt := 30) R dX3_lay_139 (by decide) ?_
        exact ih x136 h63x hP
      · intro K J57 hP
        refine v_icmp_ne (tgt := 57) R dX3_lay_43 (by decide) (fun q43 => ?_) (fun q43 => ?_)
        · have hP := hP.1 q43
          exact J57 h hP
        · have hP := hP.2 q43
          refine v_aload_0 R dX3_lay_46 ?_
          refine g_Nets_bare R dX3_lay_47 fl_X3_9 hk_e0 ?_
          refine v_iload_5 R dX3_lay_50 ?_
          refine v_bipush R dX3_lay_52 (v := (10 : Int32)) (by decide) ?_
          refine cS3_vw R dX3_lay_54 (c_Nets_merge (kd_bare hk_e0) hP) ml_X3_22 mv_Nets_merge (by decide) (Nat.le_of_ble_eq_true rfl) (fun h54 hP => ?_)
          exact J57 h54 hP
set_option maxRecDepth 100000 in
set_option maxHeartbeats 4000000 in
theorem c_Nets_lay {l : Launch} {D : va_G} {cs : Nat → ClassId} {φ : Nat → Nat} {r : Nat} {p0 p1 p2 p3 : Int32} {h : Hp} {P : Hp → Prop} (hk_r : kd r = 11) (hP : wp_Nets_lay r p0 p1 p2 p3 h P) : Ct l D cs φ M_Nets_lay [.ref (φ r), .int p0, .int p1, .int p2, .int p3] h (fun rv h2 => rv = none ∧ P h2) := by
  refine Ct.of (lc := [some (.ref (φ r)), some (.int p0), some (.int p1), some (.int p2), some (.int p3), none, none]) RX3 2 44 rfl (by decide +kernel) rfl (Nat.le_of_ble_eq_true rfl) rfl rfl (fun V R RI RV => ?_)
  have R : Ru l D cs φ RX3 cX3_lay 7 2 44 V := R
  have Rt : ∀ pc lc h, decode cX3_lay pc = .ok (.return_, 1) → P h → V pc lc [] h := fun pc lc h hd hp => RV pc lc h rfl hd ⟨rfl, hp⟩
  unfold wp_Nets_lay at hP
  refine v_iconst R dX3_lay_0 (v := (0 : Int32)) (by decide) ?_
  refine v_istore_5 R dX3_lay_1 (by decide) rfl ?_
  obtain ⟨n3, hP⟩ := hP
  refine L_Nets_lay_3 R hk_r ?_ n3 _ _ hP
  intro h3x hP
  refine v_iconst R dX3_lay_27 (v := (0 : Int32)) (by decide) ?_
  refine v_istore_5 R dX3_lay_28 (by decide) rfl ?_
  obtain ⟨n30, hP⟩ := hP
  refine L_Nets_lay_30 R hk_r ?_ n30 _ _ hP
  intro h30x hP
  exact Rt _ _ _ dX3_lay_142 hP
set_option maxRecDepth 100000 in
set_option maxHeartbeats 4000000 in
theorem L_Fe_passing_4 {l : Launch} {D : va_G} {cs : Nat → ClassId} {φ : Nat → Nat} {V : Nat → List (Option Value) → List Value → Hp → Prop} {a0 a1 : Int32} {h : Hp} {E : Int32 → Prop} (R : Ru l D cs φ RX10 cX10_passing 6 1 21 V) (hE : ∀ (a2 : Int32), E a2 → V 63 [none, none, some (.int a2), none, none, none] [] h) : ∀ (n : Nat) (a2 : Int32) (a3 : Int32), lp_Fe_passing_4 n a0 a1 a2 a3 E → V 4 [some (.int a0), some (.int a1), some (.int a2), some (.int a3), none, none] [] h := by
  intro n
  induction n with
  | zero => intro a2 a3 hP; exact hP.elim
  | succ n ih =>
    intro a2 a3 hP
    unfold lp_Fe_passing_4 at hP
    refine v_iload_3 R dX10_passing_4 ?_
    refine v_iconst R dX10_passing_5 (v := (5 : Int32)) (by decide) ?_
    refine v_icmp_ge (tgt := 63) R dX10_passing_6 (by decide) (fun q6 => ?_) (fun q6 => ?_)
    · have hP := hP.1 q6
      refine v_wk R [none, none, some (.int a2), none, none, none] ⟨rfl, trivial⟩ ?_
      exact hE a2 hP
    · have hP := hP.2 q6
      refine v_iload_0 R dX10_passing_9 ?_
      refine v_iload_3 R dX10_passing_10 ?_
      refine cS2_ir R dX10_passing_11 (c_Fe_part hP) ml_X10_182 mv_Fe_part (by decide) (Nat.le_of_ble_eq_true rfl) (fun v11 hP => ?_)
      refine v_istore_4 R dX10_passing_14 (by decide) rfl ?_
      refine v_iload_4 R dX10_passing_16 ?_
      refine jn_v (fun K => ∀ (z44_0 : Int32), K z44_0 → V 44 [some (.int a0), some (.int a1), some (.int a2), some (.int a3), none, none] [.int z44_0] h) ?_ ?_ hP
      · intro z44_0 hP
        refine v_istore_5 R dX10_passing_44 (by decide) rfl ?_
        refine v_iload_5 R dX10_passing_46 ?_
        refine jn_v (fun K => ∀ (y57_2 : Int32), K y57_2 → V 57 [some (.int a0), some (.int a1), some (.int y57_2), some (.int a3), none, none] [] h) ?_ ?_ hP
        · intro y57_2 hP
          refine v_iincL_3 R (1 : Int32) dX10_passing_57 (by decide) rfl (by decide) hP (fun x57 hP => ?_)
          refine v_goto (tgt := 4) R dX10_passing_60 (by decide) ?_
          exact ih y57_2 x57 hP
        · intro K J57 hP
          refine v_if_eq (tgt := 57) R dX10_passing_48 (by decide) (fun q48 => ?_) (fun q48 => ?_)
          · have hP := hP.1 q48
            refine v_wk R [some (.int a0), some (.int a1), some (.int a2), some (.int a3), none, none] ⟨rfl, ⟨rfl, ⟨rfl, ⟨rfl, trivial⟩⟩⟩⟩ ?_
            exact J57 a2 hP
          · have hP := hP.2 q48
            refine v_iload_2 R dX10_passing_51 ?_
            refine v_iconst R dX10_passing_52 (v := (1 : Int32)) (by decide) ?_
            refine v_iload_3 R dX10_passing_53 ?_
            refine v_ishl R dX10_passing_54 ?_
            refine v_ior R dX10_passing_55 ?_
            refine v_istoreL_2 R dX10_passing_56 (by decide) rfl hP (fun x56 hP => ?_)
            refine v_wk R [some (.int a0), some (.int a1), some (.int x56), some (.int a3), none, none] ⟨rfl, ⟨rfl, ⟨rfl, ⟨rfl, trivial⟩⟩⟩⟩ ?_
            exact J57 x56 hP
      · intro K J44 hP
        refine jn_v (fun K => K → V 39 [some (.int a0), some (.int a1), some (.int a2), some (.int a3), none, none] [] h) ?_ ?_ hP
        · intro hP
          refine v_iconst R dX10_passing_39 (v := (1 : Int32)) (by decide) ?_
          refine v_goto (tgt := 44) R dX10_passing_40 (by decide) ?_
          exact J44 (1 : Int32) hP
        · intro K J39 hP
          refine v_if_eq (tgt := 39) R dX10_passing_18 (by decide) (fun q18 => ?_) (fun q18 => ?_)
          · have hP := hP.1 q18
            refine v_wk R [some (.int a0), some (.int a1), some (.int a2), some (.int a3), none, none] ⟨rfl, ⟨rfl, ⟨rfl, ⟨rfl, trivial⟩⟩⟩⟩ ?_
            exact J39 hP
          · have hP := hP.2 q18
            refine v_iload_4 R dX10_passing_21 ?_
            refine v_iconst R dX10_passing_23 (v := (2 : Int32)) (by decide) ?_
            refine v_icmp_eq (tgt := 39) R dX10_passing_24 (by decide) (fun q24 => ?_) (fun q24 => ?_)
            · have hP := hP.1 q24
              refine v_wk R [some (.int a0), some (.int a1), some (.int a2), some (.int a3), none, none] ⟨rfl, ⟨rfl, ⟨rfl, ⟨rfl, trivial⟩⟩⟩⟩ ?_
              exact J39 hP
            · have hP := hP.2 q24
              refine v_iload_4 R dX10_passing_27 ?_
              refine v_iconst R dX10_passing_29 (v := (3 : Int32)) (by decide) ?_
              refine jn_v (fun K => K → V 43 [some (.int a0), some (.int a1), some (.int a2), some (.int a3), none, none] [] h) ?_ ?_ hP
              · intro hP
                refine v_iconst R dX10_passing_43 (v := (0 : Int32)) (by decide) ?_
                exact J44 (0 : Int32) hP
              · intro K J43 hP
                refine v_icmp_ne (tgt := 43) R dX10_passing_30 (by decide) (fun q30 => ?_) (fun q30 => ?_)
                · have hP := hP.1 q30
                  refine v_wk R [some (.int a0), some (.int a1), some (.int a2), some (.int a3), none, none] ⟨rfl, ⟨rfl, ⟨rfl, ⟨rfl, trivial⟩⟩⟩⟩ ?_
                  exact J43 hP
                · have hP := hP.2 q30
                  refine v_iload_1 R dX10_passing_33 ?_
                  refine v_iconst R dX10_passing_34 (v := (1 : Int32)) (by decide) ?_
                  refine v_iand R dX10_passing_35 ?_
                  refine v_if_ne (tgt := 43) R dX10_passing_36 (by decide) (fun q36 => ?_) (fun q36 => ?_)
                  · have hP := hP.1 q36
                    refine v_wk R [some (.int a0), some (.int a1), some (.int a2), some (.int a3), none, none] ⟨rfl, ⟨rfl, ⟨rfl, ⟨rfl, trivial⟩⟩⟩⟩ ?_
                    exact J43 hP
                  · have hP := hP.2 q36
                    refine v_wk R [some (.int a0), some (.int a1), some (.int a2), some (.int a3), none, none] ⟨rfl, ⟨rfl, ⟨rfl, ⟨rfl, trivial⟩⟩⟩⟩ ?_
                    exact J39 hP
set_option maxRecDepth 100000 in
set_option maxHeartbeats 4000000 in
theorem c_Fe_passing {l : Launch} {D : va_G} {cs : Nat → ClassId} {φ : Nat → Nat} {p0 p1 : Int32} {h : Hp} {P : Int32 → Prop} (hP : wp_Fe_passing p0 p1 P) : Ct l D cs φ M_Fe_passing [.int p0, .int p1] h (fun rv h2 => ∃ v, rv = some (.int v) ∧ h2 = h ∧ P v) := by
  refine Ct.of (lc := [some (.int p0), some (.int p1), none, none, none, none]) RX10 1 21 rfl (by decide +kernel) rfl (Nat.le_of_ble_eq_true rfl) rfl rfl (fun V R RI RV => ?_)
  have R : Ru l D cs φ RX10 cX10_passing 6 1 21 V := R
  have Rt : ∀ pc lc v, decode cX10_passing pc = .ok (.ireturn, 1) → P v → V pc lc [.int v] h := fun pc lc v hd hp => RI pc lc _ .int h rfl rfl hd ⟨v, rfl, rfl, hp⟩
  unfold wp_Fe_passing at hP
  refine v_iconst R dX10_passing_0 (v := (0 : Int32)) (by decide) ?_
  refine v_istore_2 R dX10_passing_1 (by decide) rfl ?_
  refine v_iconst R dX10_passing_2 (v := (0 : Int32)) (by decide) ?_
  refine v_istore_3 R dX10_passing_3 (by decide) rfl ?_
  obtain ⟨n4, hP⟩ := hP
  refine L_Fe_passing_4 R ?_ n4 _ _ hP
  intro w4_2 hP
  refine v_iload_2 R dX10_passing_63 ?_
  exact Rt _ _ _ dX10_passing_64 hP
set_option maxRecDepth 100000 in
set_option maxHeartbeats 4000000 in
theorem L_Nets_join_18 {l : Launch} {D : va_G} {cs : Nat → ClassId} {φ : Nat → Nat} {V : Nat → List (Option Value) → List Value → Hp → Prop} {e0 e1 : Nat} {a2 a3 : Int32} {E : Hp → Prop} (R : Ru l D cs φ RX3 cX3_join 6 1 40 V) (hk_e0 : kd e0 = 11) (hk_e1 : kd e1 = 12) (hE : ∀ (h : Hp), E h → V 65 [none, none, none, none, none, none] [] h) : ∀ (n : Nat) (a4 : Int32) (h : Hp), lp_Nets_join_18 n e0 e1 a2 a3 a4 h E → V 18 [some (.ref (φ e0)), some (.ref (φ e1)), some (.int a2), some (.int a3), some (.int a4), none] [] h := by
  intro n
  induction n with
  | zero => intro a4 h hP; exact hP.elim
  | succ n ih =>
    intro a4 h hP
    unfold lp_Nets_join_18 at hP
    refine v_iload_4 R dX3_join_18 ?_
    refine v_iload_2 R dX3_join_20 ?_
    refine v_icmp_ge (tgt := 65) R dX3_join_21 (by decide) (fun q21 => ?_) (fun q21 => ?_)
    · have hP := hP.1 q21
      refine v_wk R [none, none, none, none, none, none] trivial ?_
      exact hE h hP
    · have hP := hP.2 q21
      refine v_iload_4 R dX3_join_24 ?_
      refine v_aload_1 R dX3_join_26 ?_
      refine v_alen R dX3_join_27 hk_e1 ?_
      refine v_icmp_ge (tgt := 65) R dX3_join_28 (by decide) (fun q28 => ?_) (fun q28 => ?_)
      · have hP := hP.1 q28
        refine v_wk R [none, none, none, none, none, none] trivial ?_
        exact hE h hP
      · have hP := hP.2 q28
        refine v_aload_1 R dX3_join_31 ?_
        refine v_iload_4 R dX3_join_32 ?_
        obtain ⟨hi34, hP⟩ := hP
        refine v_iald R dX3_join_34 hk_e1 hi34 ?_
        refine v_istoreL_5 R dX3_join_35 (by decide) rfl hP (fun x35 hP => ?_)
        refine v_iload_3 R dX3_join_37 ?_
        refine v_iload_5 R dX3_join_38 ?_
        refine v_ishr R dX3_join_40 ?_
        refine v_iconst R dX3_join_41 (v := (1 : Int32)) (by decide) ?_
        refine v_iand R dX3_join_42 ?_
        refine jn_v (fun K => ∀ (h59 : Hp), K h59 → V 59 [some (.ref (φ e0)), some (.ref (φ e1)), some (.int a2), some (.int a3), some (.int a4), none] [] h59) ?_ ?_ hP
        · intro h59 hP
          refine v_iincL_4 R (1 : Int32) dX3_join_59 (by decide) rfl (by decide) hP (fun x59 hP => ?_)
          refine v_goto (tgt := 18) R dX3_join_62 (by decide) ?_
          exact ih x59 h59 hP
        · intro K J59 hP
          refine v_if_eq (tgt := 59) R dX3_join_43 (by decide) (fun q43 => ?_) (fun q43 => ?_)
          · have hP := hP.1 q43
            refine v_wk R [some (.ref (φ e0)), some (.ref (φ e1)), some (.int a2), some (.int a3), some (.int a4), none] ⟨rfl, ⟨rfl, ⟨rfl, ⟨rfl, ⟨rfl, trivial⟩⟩⟩⟩⟩ ?_
            exact J59 h hP
          · have hP := hP.2 q43
            refine v_aload_0 R dX3_join_46 ?_
            refine g_Nets_whole R dX3_join_47 fl_X3_15 hk_e0 ?_
            refine v_iload_5 R dX3_join_50 ?_
            refine v_iconst R dX3_join_52 (v := (5 : Int32)) (by decide) ?_
            refine v_iload_4 R dX3_join_53 ?_
            refine v_iadd R dX3_join_55 ?_
            refine cS3_vw R dX3_join_56 (c_Nets_merge (kd_whole hk_e0) hP) ml_X3_22 mv_Nets_merge (by decide) (Nat.le_of_ble_eq_true rfl) (fun h56 hP => ?_)
            refine v_wk R [some (.ref (φ e0)), some (.ref (φ e1)), some (.int a2), some (.int a3), some (.int a4), none] ⟨rfl, ⟨rfl, ⟨rfl, ⟨rfl, ⟨rfl, trivial⟩⟩⟩⟩⟩ ?_
            exact J59 h56 hP
set_option maxRecDepth 100000 in
set_option maxHeartbeats 4000000 in
theorem c_Nets_join {l : Launch} {D : va_G} {cs : Nat → ClassId} {φ : Nat → Nat} {r c0 : Nat} {p1 p2 : Int32} {h : Hp} {P : Hp → Prop} (hk_r : kd r = 11) (hk_c0 : kd c0 = 12) (hP : wp_Nets_join r c0 p1 p2 h P) : Ct l D cs φ M_Nets_join [.ref (φ r), .ref (φ c0), .int p1, .int p2] h (fun rv h2 => rv = none ∧ P h2) := by
  refine Ct.of (lc := [some (.ref (φ r)), some (.ref (φ c0)), some (.int p1), some (.int p2), none, none]) RX3 1 40 rfl (by decide +kernel) rfl (Nat.le_of_ble_eq_true rfl) rfl rfl (fun V R RI RV => ?_)
  have R : Ru l D cs φ RX3 cX3_join 6 1 40 V := R
  have Rt : ∀ pc lc h, decode cX3_join pc = .ok (.return_, 1) → P h → V pc lc [] h := fun pc lc h hd hp => RV pc lc h rfl hd ⟨rfl, hp⟩
  unfold wp_Nets_join at hP
  refine v_aload_0 R dX3_join_0 ?_
  refine g_Nets_bare R dX3_join_1 fl_X3_9 hk_r ?_
  refine v_iconst R dX3_join_4 (v := (0 : Int32)) (by decide) ?_
  refine v_aload_0 R dX3_join_5 ?_
  refine g_Nets_whole R dX3_join_6 fl_X3_15 hk_r ?_
  refine v_iconst R dX3_join_9 (v := (0 : Int32)) (by decide) ?_
  refine v_bipush R dX3_join_10 (v := (11 : Int32)) (by decide) ?_
  refine v_copyL R dX3_join_12 ml_X3_33 mt_acopy ms_acopy in_java_lang_System (kd_bare hk_r) (kd_whole hk_r) (by decide) (by rw [al_bare hk_r]; decide) (by rw [al_whole hk_r]; decide) (by decide) (by decide) hP (fun h12 hP => ?_)
  refine v_iconst R dX3_join_15 (v := (0 : Int32)) (by decide) ?_
  refine v_istore_4 R dX3_join_16 (by decide) rfl ?_
  obtain ⟨n18, hP⟩ := hP
  refine L_Nets_join_18 R hk_r hk_c0 ?_ n18 _ _ hP
  intro h18x hP
  exact Rt _ _ _ dX3_join_65 hP
set_option maxRecDepth 100000 in
set_option maxHeartbeats 4000000 in
theorem c_Fe_joinAll {l : Launch} {D : va_G} {cs : Nat → ClassId} {φ : Nat → Nat} {p0 : Int32} {h : Hp} {P : Hp → Prop} (hP : wp_Fe_joinAll p0 h P) : Ct l D cs φ M_Fe_joinAll [.ref (φ 0), .int p0] h (fun rv h2 => rv = none ∧ P h2) := by
  refine Ct.of (lc := [some (.ref (φ 0)), some (.int p0)]) RX10 3 70 rfl (by decide +kernel) rfl (Nat.le_of_ble_eq_true rfl) rfl rfl (fun V R RI RV => ?_)
  have R : Ru l D cs φ RX10 cX10_joinAll 2 3 70 V := R
  have Rt : ∀ pc lc h, decode cX10_joinAll pc = .ok (.return_, 1) → P h → V pc lc [] h := fun pc lc h hd hp => RV pc lc h rfl hd ⟨rfl, hp⟩
  unfold wp_Fe_joinAll at hP
  refine v_aload_0 R dX10_joinAll_0 ?_
  refine g_Fe_nets R dX10_joinAll_1 fl_X10_62 ?_
  refine v_iload_1 R dX10_joinAll_4 ?_
  refine v_aload_0 R dX10_joinAll_5 ?_
  refine g_Fe_now R dX10_joinAll_6 fl_X10_23 ?_
  refine g_State_touching R dX10_joinAll_9 fl_X10_154 rfl ?_
  refine v_aload_0 R dX10_joinAll_12 ?_
  refine g_Fe_now R dX10_joinAll_13 fl_X10_23 ?_
  refine g_State_nearTies R dX10_joinAll_16 fl_X10_192 rfl ?_
  refine v_aload_0 R dX10_joinAll_19 ?_
  refine g_Fe_now R dX10_joinAll_20 fl_X10_23 ?_
  refine g_State_farTies R dX10_joinAll_23 fl_X10_195 rfl ?_
  refine cV4_vw R dX10_joinAll_26 (c_Nets_lay rfl hP) (rc_Nets rfl) ml_X10_296 mv_Nets_lay (by decide) (Nat.le_of_ble_eq_true rfl) (fun h26 hP => ?_)
  refine v_aload_0 R dX10_joinAll_29 ?_
  refine g_Fe_nets R dX10_joinAll_30 fl_X10_62 ?_
  refine v_aload_0 R dX10_joinAll_33 ?_
  refine g_Fe_order R dX10_joinAll_34 fl_X10_16 ?_
  refine v_aload_0 R dX10_joinAll_37 ?_
  refine g_Fe_wires R dX10_joinAll_38 fl_X10_108 ?_
  refine v_iload_1 R dX10_joinAll_41 ?_
  refine v_aload_0 R dX10_joinAll_42 ?_
  refine g_Fe_now R dX10_joinAll_43 fl_X10_23 ?_
  refine g_State_hours R dX10_joinAll_46 fl_X10_145 rfl ?_
  refine cS2_ir R dX10_joinAll_49 (c_Fe_passing hP) ml_X10_189 mv_Fe_passing (by decide) (Nat.le_of_ble_eq_true rfl) (fun v49 hP => ?_)
  refine cV3_vw R dX10_joinAll_52 (c_Nets_join rfl rfl hP) (rc_Nets rfl) ml_X10_300 mv_Nets_join (by decide) (Nat.le_of_ble_eq_true rfl) (fun h52 hP => ?_)
  exact Rt _ _ _ dX10_joinAll_55 hP
set_option maxRecDepth 100000 in
set_option maxHeartbeats 4000000 in
theorem c_Nets_of {l : Launch} {D : va_G} {cs : Nat → ClassId} {φ : Nat → Nat} {r : Nat} {p0 : Int32} {h : Hp} {P : Int32 → Prop} (hk_r : kd r = 11) (hP : wp_Nets_of r p0 h P) : Ct l D cs φ M_Nets_of [.ref (φ r), .int p0] h (fun rv h2 => ∃ v, rv = some (.int v) ∧ h2 = h ∧ P v) := by
  refine Ct.of (lc := [some (.ref (φ r)), some (.int p0)]) RX3 0 0 rfl (by decide +kernel) rfl (Nat.le_of_ble_eq_true rfl) rfl rfl (fun V R RI RV => ?_)
  have R : Ru l D cs φ RX3 cX3_of 2 0 0 V := R
  have Rt : ∀ pc lc v, decode cX3_of pc = .ok (.ireturn, 1) → P v → V pc lc [.int v] h := fun pc lc v hd hp => RI pc lc _ .int h rfl rfl hd ⟨v, rfl, rfl, hp⟩
  unfold wp_Nets_of at hP
  refine v_iload_1 R dX3_of_0 ?_
  refine v_if_lt (tgt := 19) R dX3_of_1 (by decide) (fun q1 => ?_) (fun q1 => ?_)
  · have hP := hP.1 q1
    refine v_iconst R dX3_of_19 (v := (0 : Int32)) (by decide) ?_
    exact Rt _ _ _ dX3_of_20 hP
  · have hP := hP.2 q1
    refine v_iload_1 R dX3_of_4 ?_
    refine v_bipush R dX3_of_5 (v := (11 : Int32)) (by decide) ?_
    refine v_icmp_ge (tgt := 19) R dX3_of_7 (by decide) (fun q7 => ?_) (fun q7 => ?_)
    · have hP := hP.1 q7
      refine v_iconst R dX3_of_19 (v := (0 : Int32)) (by decide) ?_
      exact Rt _ _ _ dX3_of_20 hP
    · have hP := hP.2 q7
      refine v_aload_0 R dX3_of_10 ?_
      refine g_Nets_whole R dX3_of_11 fl_X3_15 hk_r ?_
      refine v_iload_1 R dX3_of_14 ?_
      obtain ⟨hi15, hP⟩ := hP
      refine v_iald R dX3_of_15 (kd_whole hk_r) (by rw [al_whole hk_r]; exact hi15) ?_
      refine v_goto (tgt := 20) R dX3_of_16 (by decide) ?_
      exact Rt _ _ _ dX3_of_20 hP
set_option maxRecDepth 100000 in
set_option maxHeartbeats 4000000 in
theorem c_Nets_areJoined {l : Launch} {D : va_G} {cs : Nat → ClassId} {φ : Nat → Nat} {r : Nat} {p0 p1 : Int32} {h : Hp} {P : Bool → Prop} (hk_r : kd r = 11) (hP : wp_Nets_areJoined r p0 p1 h P) : Ct l D cs φ M_Nets_areJoined [.ref (φ r), .int p0, .int p1] h (fun rv h2 => ∃ v, rv = some (.int (bI v)) ∧ h2 = h ∧ P v) := by
  refine Ct.of (lc := [some (.ref (φ r)), some (.int p0), some (.int p1)]) RX3 1 21 rfl (by decide +kernel) rfl (Nat.le_of_ble_eq_true rfl) rfl rfl (fun V R RI RV => ?_)
  have R : Ru l D cs φ RX3 cX3_areJoined 3 1 21 V := R
  have Rt : ∀ pc lc v, decode cX3_areJoined pc = .ok (.ireturn, 1) → P v → V pc lc [.int (bI v)] h := fun pc lc v hd hp => RI pc lc _ .boolean h rfl (bI_n v) hd ⟨v, rfl, rfl, hp⟩
  unfold wp_Nets_areJoined at hP
  refine v_aload_0 R dX3_areJoined_0 ?_
  refine v_iload_1 R dX3_areJoined_1 ?_
  refine cV1_ir R dX3_areJoined_2 (c_Nets_of hk_r hP) (rc_Nets hk_r) ml_X3_42 mv_Nets_of (by decide) (Nat.le_of_ble_eq_true rfl) (fun v2 hP => ?_)
  refine v_iload_2 R dX3_areJoined_5 ?_
  refine v_ishr R dX3_areJoined_6 ?_
  refine v_iconst R dX3_areJoined_7 (v := (1 : Int32)) (by decide) ?_
  refine v_iand R dX3_areJoined_8 ?_
  refine v_if_eq (tgt := 16) R dX3_areJoined_9 (by decide) (fun q9 => ?_) (fun q9 => ?_)
  · have hP := hP.1 q9
    refine v_iconst R dX3_areJoined_16 (v := (0 : Int32)) (by decide) ?_
    exact Rt _ _ false dX3_areJoined_17 hP
  · have hP := hP.2 q9
    refine v_iconst R dX3_areJoined_12 (v := (1 : Int32)) (by decide) ?_
    refine v_goto (tgt := 17) R dX3_areJoined_13 (by decide) ?_
    exact Rt _ _ true dX3_areJoined_17 hP
