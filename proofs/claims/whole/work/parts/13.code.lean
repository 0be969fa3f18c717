set_option maxRecDepth 100000 in
set_option maxHeartbeats 4000000 in
theorem c_Seen_take {l : Launch} {D : va_G} {cs : Nat → ClassId} {φ : Nat → Nat} {r c0 : Nat} {p1 p2 p3 : Int32} {h : Hp} {P : Hp → Prop} (hk_r : kd r = 10) (hk_c0 : kd c0 = 9) (hP : wp_Seen_take r c0 p1 p2 p3 h P) : Ct l D cs φ M_Seen_take [.ref (φ r), .ref (φ c0), .int p1, .int p2, .int p3] h (fun rv h2 => rv = none ∧ P h2) := by
  refine Ct.of (lc := [some (.ref (φ r)), some (.ref (φ c0)), some (.int p1), some (.int p2), some (.int p3)]) RX7 0 0 rfl (by decide +kernel) rfl (Nat.le_of_ble_eq_true rfl) rfl rfl (fun V R RI RV => ?_)
  have R : Ru l D cs φ RX7 cX7_take 5 0 0 V := R
  have Rt : ∀ pc lc h, decode cX7_take pc = .ok (.return_, 1) → P h → V pc lc [] h := fun pc lc h hd hp => RV pc lc h rfl hd ⟨rfl, hp⟩
  unfold wp_Seen_take at hP
  refine v_aload_0 R dX7_take_0 ?_
  refine v_aload_1 R dX7_take_1 ?_
  refine g_State_nearTies R dX7_take_2 fl_X7_16 hk_c0 ?_
  refine p_Seen_nearTies R dX7_take_5 fl_X7_22 hk_r hP (fun h5 hP => ?_)
  refine v_aload_0 R dX7_take_8 ?_
  refine v_aload_1 R dX7_take_9 ?_
  refine g_State_farTies R dX7_take_10 fl_X7_23 hk_c0 ?_
  refine p_Seen_farTies R dX7_take_13 fl_X7_26 hk_r hP (fun h13 hP => ?_)
  refine v_aload_0 R dX7_take_16 ?_
  refine v_aload_1 R dX7_take_17 ?_
  refine g_State_hours R dX7_take_18 fl_X7_27 hk_c0 ?_
  refine p_Seen_hour R dX7_take_21 fl_X7_30 hk_r hP (fun h21 hP => ?_)
  refine v_aload_0 R dX7_take_24 ?_
  refine v_iload_2 R dX7_take_25 ?_
  refine p_Seen_a R dX7_take_26 fl_X7_33 hk_r hP (fun h26 hP => ?_)
  refine v_aload_0 R dX7_take_29 ?_
  refine v_iload_3 R dX7_take_30 ?_
  refine p_Seen_b R dX7_take_31 fl_X7_36 hk_r hP (fun h31 hP => ?_)
  refine v_aload_0 R dX7_take_34 ?_
  refine v_iload_4 R dX7_take_35 ?_
  obtain ⟨hb37, hP⟩ := hP
  refine p_Seen_rang R dX7_take_37 fl_X7_39 hk_r hb37 hP (fun h37 hP => ?_)
  exact Rt _ _ _ dX7_take_40 hP
set_option maxRecDepth 100000 in
set_option maxHeartbeats 4000000 in
theorem c_Fe_see {l : Launch} {D : va_G} {cs : Nat → ClassId} {φ : Nat → Nat} {p0 p1 p2 : Int32} {h : Hp} {P : Int32 → Hp → Prop} (hP : wp_Fe_see p0 p1 p2 h P) : Ct l D cs φ M_Fe_see [.ref (φ 0), .int p0, .int p1, .int p2] h (fun rv h2 => ∃ v, rv = some (.int v) ∧ P v h2) := by
  refine Ct.of (lc := [some (.ref (φ 0)), some (.int p0), some (.int p1), some (.int p2)]) RX10 3 65 rfl (by decide +kernel) rfl (Nat.le_of_ble_eq_true rfl) rfl rfl (fun V R RI RV => ?_)
  have R : Ru l D cs φ RX10 cX10_see 4 3 65 V := R
  have Rt : ∀ pc lc v h, decode cX10_see pc = .ok (.ireturn, 1) → P v h → V pc lc [.int v] h := fun pc lc v h hd hp => RI pc lc _ .int h rfl rfl hd ⟨v, rfl, hp⟩
  unfold wp_Fe_see at hP
  refine v_aload_0 R dX10_see_0 ?_
  refine v_iload_1 R dX10_see_1 ?_
  refine v_iload_2 R dX10_see_2 ?_
  refine cV2_br R dX10_see_3 (c_Fe_canHold hP) rc_Fe ml_X10_214 mv_Fe_canHold (by decide) (Nat.le_of_ble_eq_true rfl) (fun v3 hP => ?_)
  refine v_ifb_ne (tgt := 12) R dX10_see_6 (by decide) (fun q6 => ?_) (fun q6 => ?_)
  · have hP := hP.1 q6
    refine v_aload_0 R dX10_see_12 ?_
    refine g_Fe_seenCount R dX10_see_13 fl_X10_133 ?_
    refine v_bipush R dX10_see_16 (v := (8 : Int32)) (by decide) ?_
    refine v_icmp_lt (tgt := 24) R dX10_see_18 (by decide) (fun q18 => ?_) (fun q18 => ?_)
    · have hP := hP.1 q18
      refine v_aload_0 R dX10_see_24 ?_
      refine g_Fe_seen R dX10_see_25 fl_X10_49 ?_
      refine v_aload_0 R dX10_see_28 ?_
      refine g_Fe_seenCount R dX10_see_29 fl_X10_133 ?_
      obtain ⟨hi32, hP⟩ := hP
      refine v_aald_66 R dX10_see_32 hi32 ?_
      refine v_aload_0 R dX10_see_33 ?_
      refine g_Fe_now R dX10_see_34 fl_X10_23 ?_
      refine v_aload_0 R dX10_see_37 ?_
      refine g_Fe_now R dX10_see_38 fl_X10_23 ?_
      refine g_State_place R dX10_see_41 fl_X10_142 rfl ?_
      refine v_iload_1 R dX10_see_44 ?_
      refine cS2_ir R dX10_see_45 (c_Fe_nodeOf hP) ml_X10_208 mv_Fe_nodeOf (by decide) (Nat.le_of_ble_eq_true rfl) (fun v45 hP => ?_)
      refine v_aload_0 R dX10_see_48 ?_
      refine g_Fe_now R dX10_see_49 fl_X10_23 ?_
      refine g_State_place R dX10_see_52 fl_X10_142 rfl ?_
      refine v_iload_2 R dX10_see_55 ?_
      refine cS2_ir R dX10_see_56 (c_Fe_nodeOf hP) ml_X10_208 mv_Fe_nodeOf (by decide) (Nat.le_of_ble_eq_true rfl) (fun v56 hP => ?_)
      refine v_iload_3 R dX10_see_59 ?_
      refine cV4_vw R dX10_see_60 (c_Seen_take (kd_66 hi32) rfl hP) (rc_Seen (kd_66 hi32)) ml_X10_271 mv_Seen_take (by decide) (Nat.le_of_ble_eq_true rfl) (fun h60 hP => ?_)
      refine v_aload_0 R dX10_see_63 ?_
      refine v_dup R dX10_see_64 rfl ?_
      refine g_Fe_seenCount R dX10_see_65 fl_X10_133 ?_
      refine v_iconst R dX10_see_68 (v := (1 : Int32)) (by decide) ?_
      refine v_iadd R dX10_see_69 ?_
      refine p_Fe_seenCount R dX10_see_70 fl_X10_133 hP (fun h70 hP => ?_)
      refine v_aload_0 R dX10_see_73 ?_
      refine g_Fe_seenCount R dX10_see_74 fl_X10_133 ?_
      exact Rt _ _ _ _ dX10_see_77 hP
    · have hP := hP.2 q18
      refine v_ldc R dX10_see_21 ct_X10_98 ?_
      exact Rt _ _ _ _ dX10_see_23 hP
  · have hP := hP.2 q6
    refine v_ldc R dX10_see_9 ct_X10_180 ?_
    exact Rt _ _ _ _ dX10_see_11 hP
set_option maxRecDepth 100000 in
set_option maxHeartbeats 4000000 in
theorem c_Fe_write {l : Launch} {D : va_G} {cs : Nat → ClassId} {φ : Nat → Nat} {p0 p1 : Int32} {h : Hp} {P : Int32 → Hp → Prop} (hP : wp_Fe_write p0 p1 h P) : Ct l D cs φ M_Fe_write [.ref (φ 0), .int p0, .int p1] h (fun rv h2 => ∃ v, rv = some (.int v) ∧ P v h2) := by
  refine Ct.of (lc := [some (.ref (φ 0)), some (.int p0), some (.int p1)]) RX10 1 21 rfl (by decide +kernel) rfl (Nat.le_of_ble_eq_true rfl) rfl rfl (fun V R RI RV => ?_)
  have R : Ru l D cs φ RX10 cX10_write 3 1 21 V := R
  have Rt : ∀ pc lc v h, decode cX10_write pc = .ok (.ireturn, 1) → P v h → V pc lc [.int v] h := fun pc lc v h hd hp => RI pc lc _ .int h rfl rfl hd ⟨v, rfl, hp⟩
  unfold wp_Fe_write at hP
  refine v_aload_0 R dX10_write_0 ?_
  refine v_iload_1 R dX10_write_1 ?_
  refine cV1_br R dX10_write_2 (c_Fe_isNumber hP) rc_Fe ml_X10_177 mv_Fe_isNumber (by decide) (Nat.le_of_ble_eq_true rfl) (fun v2 hP => ?_)
  refine v_ifb_eq (tgt := 16) R dX10_write_5 (by decide) (fun q5 => ?_) (fun q5 => ?_)
  · have hP := hP.1 q5
    refine v_ldc R dX10_write_16 ct_X10_180 ?_
    exact Rt _ _ _ _ dX10_write_18 hP
  · have hP := hP.2 q5
    refine v_aload_0 R dX10_write_8 ?_
    refine v_iload_2 R dX10_write_9 ?_
    refine cV1_br R dX10_write_10 (c_Fe_isNumber hP) rc_Fe ml_X10_177 mv_Fe_isNumber (by decide) (Nat.le_of_ble_eq_true rfl) (fun v10 hP => ?_)
    refine v_ifb_ne (tgt := 19) R dX10_write_13 (by decide) (fun q13 => ?_) (fun q13 => ?_)
    · have hP := hP.1 q13
      refine v_aload_0 R dX10_write_19 ?_
      refine g_Fe_bookCount R dX10_write_20 fl_X10_136 ?_
      refine v_bipush R dX10_write_23 (v := (15 : Int32)) (by decide) ?_
      refine v_icmp_lt (tgt := 31) R dX10_write_25 (by decide) (fun q25 => ?_) (fun q25 => ?_)
      · have hP := hP.1 q25
        refine v_aload_0 R dX10_write_31 ?_
        refine g_Fe_bookEnds R dX10_write_32 fl_X10_53 ?_
        refine v_aload_0 R dX10_write_35 ?_
        refine g_Fe_bookCount R dX10_write_36 fl_X10_136 ?_
        refine v_iload_1 R dX10_write_39 ?_
        obtain ⟨hi40, hP⟩ := hP
        refine v_iastL R dX10_write_40 rfl hi40 hP (fun h40 hP => ?_)
        refine v_aload_0 R dX10_write_41 ?_
        refine g_Fe_bookWires R dX10_write_42 fl_X10_56 ?_
        refine v_aload_0 R dX10_write_45 ?_
        refine g_Fe_bookCount R dX10_write_46 fl_X10_136 ?_
        refine v_iload_2 R dX10_write_49 ?_
        obtain ⟨hi50, hP⟩ := hP
        refine v_iastL R dX10_write_50 rfl hi50 hP (fun h50 hP => ?_)
        refine v_aload_0 R dX10_write_51 ?_
        refine v_dup R dX10_write_52 rfl ?_
        refine g_Fe_bookCount R dX10_write_53 fl_X10_136 ?_
        refine v_iconst R dX10_write_56 (v := (1 : Int32)) (by decide) ?_
        refine v_iadd R dX10_write_57 ?_
        refine p_Fe_bookCount R dX10_write_58 fl_X10_136 hP (fun h58 hP => ?_)
        refine v_aload_0 R dX10_write_61 ?_
        refine g_Fe_bookCount R dX10_write_62 fl_X10_136 ?_
        exact Rt _ _ _ _ dX10_write_65 hP
      · have hP := hP.2 q25
        refine v_ldc R dX10_write_28 ct_X10_98 ?_
        exact Rt _ _ _ _ dX10_write_30 hP
    · have hP := hP.2 q13
      refine v_ldc R dX10_write_16 ct_X10_180 ?_
      exact Rt _ _ _ _ dX10_write_18 hP
set_option maxRecDepth 100000 in
set_option maxHeartbeats 4000000 in
theorem c_Fe_tear {l : Launch} {D : va_G} {cs : Nat → ClassId} {φ : Nat → Nat} {h : Hp} {P : Int32 → Hp → Prop} (hP : wp_Fe_tear h P) : Ct l D cs φ M_Fe_tear [.ref (φ 0)] h (fun rv h2 => ∃ v, rv = some (.int v) ∧ P v h2) := by
  refine Ct.of (lc := [some (.ref (φ 0)), none]) RX10 0 0 rfl (by decide +kernel) rfl (Nat.le_of_ble_eq_true rfl) rfl rfl (fun V R RI RV => ?_)
  have R : Ru l D cs φ RX10 cX10_tear 2 0 0 V := R
  have Rt : ∀ pc lc v h, decode cX10_tear pc = .ok (.ireturn, 1) → P v h → V pc lc [.int v] h := fun pc lc v h hd hp => RI pc lc _ .int h rfl rfl hd ⟨v, rfl, hp⟩
  unfold wp_Fe_tear at hP
  refine v_aload_0 R dX10_tear_0 ?_
  refine g_Fe_seenCount R dX10_tear_1 fl_X10_133 ?_
  refine v_aload_0 R dX10_tear_4 ?_
  refine g_Fe_bookCount R dX10_tear_5 fl_X10_136 ?_
  refine v_iadd R dX10_tear_8 ?_
  refine v_istoreL_1 R dX10_tear_9 (by decide) rfl hP (fun x9 hP => ?_)
  refine v_aload_0 R dX10_tear_10 ?_
  refine v_iconst R dX10_tear_11 (v := (0 : Int32)) (by decide) ?_
  refine p_Fe_seenCount R dX10_tear_12 fl_X10_133 hP (fun h12 hP => ?_)
  refine v_aload_0 R dX10_tear_15 ?_
  refine v_iconst R dX10_tear_16 (v := (0 : Int32)) (by decide) ?_
  refine p_Fe_bookCount R dX10_tear_17 fl_X10_136 hP (fun h17 hP => ?_)
  refine v_iload_1 R dX10_tear_20 ?_
  exact Rt _ _ _ _ dX10_tear_21 hP
set_option maxRecDepth 100000 in
set_option maxHeartbeats 4000000 in
theorem L_Fe_judge_2 {l : Launch} {D : va_G} {cs : Nat → ClassId} {φ : Nat → Nat} {V : Nat → List (Option Value) → List Value → Hp → Prop} {h : Hp} {E : Prop} {P : Int32 → Prop} (R : Ru l D cs φ RX10 cX10_judge 3 0 0 V) (hE : E → V 55 [none, none, none] [] h) (Rt : ∀ pc lc v, decode cX10_judge pc = .ok (.ireturn, 1) → P v → V pc lc [.int v] h) : ∀ (n : Nat) (a1 : Int32), lp_Fe_judge_2 n a1 h E P → V 2 [some (.ref (φ 0)), some (.int a1), none] [] h := by
  intro n
  induction n with
  | zero => intro a1 hP; exact hP.elim
  | succ n ih =>
    intro a1 hP
    unfold lp_Fe_judge_2 at hP
    refine v_iload_1 R dX10_judge_2 ?_
    refine v_aload_0 R dX10_judge_3 ?_
    refine g_Fe_bookCount R dX10_judge_4 fl_X10_136 ?_
    refine v_icmp_ge (tgt := 55) R dX10_judge_7 (by decide) (fun q7 => ?_) (fun q7 => ?_)
    · have hP := hP.1 q7
      refine v_wk R [none, none, none] trivial ?_
      exact hE hP
    · have hP := hP.2 q7
      refine v_iload_1 R dX10_judge_10 ?_
      refine v_bipush R dX10_judge_11 (v := (15 : Int32)) (by decide) ?_
      refine v_icmp_ge (tgt := 55) R dX10_judge_13 (by decide) (fun q13 => ?_) (fun q13 => ?_)
      · have hP := hP.1 q13
        refine v_wk R [none, none, none] trivial ?_
        exact hE hP
      · have hP := hP.2 q13
        refine v_aload_0 R dX10_judge_16 ?_
        refine g_Fe_bookEnds R dX10_judge_17 fl_X10_53 ?_
        refine v_iload_1 R dX10_judge_20 ?_
        obtain ⟨hi21, hP⟩ := hP
        refine v_iald R dX10_judge_21 rfl hi21 ?_
        refine v_istoreL_2 R dX10_judge_22 (by decide) rfl hP (fun x22 hP => ?_)
        refine v_iload_2 R dX10_judge_23 ?_
        refine jn_v (fun K => K → V 49 [some (.ref (φ 0)), some (.int a1), none] [] h) ?_ ?_ hP
        · intro hP
          refine v_iincL_1 R (1 : Int32) dX10_judge_49 (by decide) rfl (by decide) hP (fun x49 hP => ?_)
          refine v_goto (tgt := 2) R dX10_judge_52 (by decide) ?_
          exact ih x49 hP
        · intro K J49 hP
          refine v_if_lt (tgt := 49) R dX10_judge_24 (by decide) (fun q24 => ?_) (fun q24 => ?_)
          · have hP := hP.1 q24
            refine v_wk R [some (.ref (φ 0)), some (.int a1), none] ⟨rfl, ⟨rfl, trivial⟩⟩ ?_
            exact J49 hP
          · have hP := hP.2 q24
            refine v_iload_2 R dX10_judge_27 ?_
            refine v_iconst R dX10_judge_28 (v := (5 : Int32)) (by decide) ?_
            refine v_icmp_ge (tgt := 49) R dX10_judge_29 (by decide) (fun q29 => ?_) (fun q29 => ?_)
            · have hP := hP.1 q29
              refine v_wk R [some (.ref (φ 0)), some (.int a1), none] ⟨rfl, ⟨rfl, trivial⟩⟩ ?_
              exact J49 hP
            · have hP := hP.2 q29
              refine v_aload_0 R dX10_judge_32 ?_
              refine g_Fe_order R dX10_judge_33 fl_X10_16 ?_
              refine v_iload_2 R dX10_judge_36 ?_
              obtain ⟨hi37, hP⟩ := hP
              refine v_iald R dX10_judge_37 rfl hi37 ?_
              refine v_aload_0 R dX10_judge_38 ?_
              refine g_Fe_bookWires R dX10_judge_39 fl_X10_56 ?_
              refine v_iload_1 R dX10_judge_42 ?_
              obtain ⟨hi43, hP⟩ := hP
              refine v_iald R dX10_judge_43 rfl hi43 ?_
              refine v_icmp_eq (tgt := 49) R dX10_judge_44 (by decide) (fun q44 => ?_) (fun q44 => ?_)
              · have hP := hP.1 q44
                refine v_wk R [some (.ref (φ 0)), some (.int a1), none] ⟨rfl, ⟨rfl, trivial⟩⟩ ?_
                exact J49 hP
              · have hP := hP.2 q44
                refine v_iload_1 R dX10_judge_47 ?_
                exact Rt _ _ _ dX10_judge_48 hP
set_option maxRecDepth 100000 in
set_option maxHeartbeats 4000000 in
theorem c_Fe_judge {l : Launch} {D : va_G} {cs : Nat → ClassId} {φ : Nat → Nat} {h : Hp} {P : Int32 → Prop} (hP : wp_Fe_judge h P) : Ct l D cs φ M_Fe_judge [.ref (φ 0)] h (fun rv h2 => ∃ v, rv = some (.int v) ∧ h2 = h ∧ P v) := by
  refine Ct.of (lc := [some (.ref (φ 0)), none, none]) RX10 0 0 rfl (by decide +kernel) rfl (Nat.le_of_ble_eq_true rfl) rfl rfl (fun V R RI RV => ?_)
  have R : Ru l D cs φ RX10 cX10_judge 3 0 0 V := R
  have Rt : ∀ pc lc v, decode cX10_judge pc = .ok (.ireturn, 1) → P v → V pc lc [.int v] h := fun pc lc v hd hp => RI pc lc _ .int h rfl rfl hd ⟨v, rfl, rfl, hp⟩
  unfold wp_Fe_judge at hP
  refine v_iconst R dX10_judge_0 (v := (0 : Int32)) (by decide) ?_
  refine v_istore_1 R dX10_judge_1 (by decide) rfl ?_
  obtain ⟨n2, hP⟩ := hP
  refine L_Fe_judge_2 R ?_ Rt n2 _ hP
  intro  hP
  refine v_iconst R dX10_judge_55 (v := (-1 : Int32)) (by decide) ?_
  exact Rt _ _ _ dX10_judge_56 hP
set_option maxRecDepth 100000 in
set_option maxHeartbeats 4000000 in
theorem c_Fe_seed {l : Launch} {D : va_G} {cs : Nat → ClassId} {φ : Nat → Nat} {p0 : Int32} {h : Hp} {P : Int32 → Hp → Prop} (hP : wp_Fe_seed p0 h P) : Ct l D cs φ M_Fe_seed [.ref (φ 0), .int p0] h (fun rv h2 => ∃ v, rv = some (.int v) ∧ P v h2) := by
  refine Ct.of (lc := [some (.ref (φ 0)), some (.int p0), none]) RX10 0 0 rfl (by decide +kernel) rfl (Nat.le_of_ble_eq_true rfl) rfl rfl (fun V R RI RV => ?_)
  have R : Ru l D cs φ RX10 cX10_seed 3 0 0 V := R
  have Rt : ∀ pc lc v h, decode cX10_seed pc = .ok (.ireturn, 1) → P v h → V pc lc [.int v] h := fun pc lc v h hd hp => RI pc lc _ .int h rfl rfl hd ⟨v, rfl, hp⟩
  unfold wp_Fe_seed at hP
  refine v_iload_1 R dX10_seed_0 ?_
  refine v_if_ge (tgt := 7) R dX10_seed_1 (by decide) (fun q1 => ?_) (fun q1 => ?_)
  · have hP := hP.1 q1
    refine v_aload_0 R dX10_seed_7 ?_
    refine g_Fe_draws R dX10_seed_8 fl_X10_37 ?_
    refine g_Draws_seed R dX10_seed_11 fl_X10_275 ?_
    refine v_istoreL_2 R dX10_seed_14 (by decide) rfl hP (fun x14 hP => ?_)
    refine v_aload_0 R dX10_seed_15 ?_
    refine g_Fe_draws R dX10_seed_16 fl_X10_37 ?_
    refine v_iload_1 R dX10_seed_19 ?_
    refine p_Draws_seed R dX10_seed_20 fl_X10_275 hP (fun h20 hP => ?_)
    refine v_iload_2 R dX10_seed_23 ?_
    exact Rt _ _ _ _ dX10_seed_24 hP
  · have hP := hP.2 q1
    refine v_ldc R dX10_seed_4 ct_X10_89 ?_
    exact Rt _ _ _ _ dX10_seed_6 hP
set_option maxRecDepth 100000 in
set_option maxHeartbeats 4000000 in
theorem c_Fe_keep {l : Launch} {D : va_G} {cs : Nat → ClassId} {φ : Nat → Nat} {p0 : Int32} {h : Hp} {P : Int32 → Hp → Prop} (hP : wp_Fe_keep p0 h P) : Ct l D cs φ M_Fe_keep [.ref (φ 0), .int p0] h (fun rv h2 => ∃ v, rv = some (.int v) ∧ P v h2) := by
  refine Ct.of (lc := [some (.ref (φ 0)), some (.int p0), none]) RX10 1 21 rfl (by decide +kernel) rfl (Nat.le_of_ble_eq_true rfl) rfl rfl (fun V R RI RV => ?_)
  have R : Ru l D cs φ RX10 cX10_keep 3 1 21 V := R
  have Rt : ∀ pc lc v h, decode cX10_keep pc = .ok (.ireturn, 1) → P v h → V pc lc [.int v] h := fun pc lc v h hd hp => RI pc lc _ .int h rfl rfl hd ⟨v, rfl, hp⟩
  unfold wp_Fe_keep at hP
  refine v_iload_1 R dX10_keep_0 ?_
  refine v_if_lt (tgt := 9) R dX10_keep_1 (by decide) (fun q1 => ?_) (fun q1 => ?_)
  · have hP := hP.1 q1
    refine v_ldc R dX10_keep_9 ct_X10_180 ?_
    exact Rt _ _ _ _ dX10_keep_11 hP
  · have hP := hP.2 q1
    refine v_iload_1 R dX10_keep_4 ?_
    refine v_iconst R dX10_keep_5 (v := (2 : Int32)) (by decide) ?_
    refine v_icmp_lt (tgt := 12) R dX10_keep_6 (by decide) (fun q6 => ?_) (fun q6 => ?_)
    · have hP := hP.1 q6
      refine v_aload_0 R dX10_keep_12 ?_
      refine g_Fe_images R dX10_keep_13 fl_X10_43 ?_
      refine v_iload_1 R dX10_keep_16 ?_
      obtain ⟨hi17, hP⟩ := hP
      refine v_aald_65 R dX10_keep_17 hi17 ?_
      refine v_astore_2 R dX10_keep_18 (by decide) rfl ?_
      refine v_aload_2 R dX10_keep_19 ?_
      refine g_Image_state R dX10_keep_20 fl_X10_278 (kd_65 hi17) ?_
      refine v_aload_0 R dX10_keep_23 ?_
      refine g_Fe_now R dX10_keep_24 fl_X10_23 ?_
      refine cV1_vw R dX10_keep_27 (c_State_become (kd_img (kd_65 hi17)) rfl hP) (rc_State (kd_img (kd_65 hi17))) ml_X10_281 mv_State_become (by decide) (Nat.le_of_ble_eq_true rfl) (fun h27 hP => ?_)
      refine v_aload_2 R dX10_keep_30 ?_
      refine v_aload_0 R dX10_keep_31 ?_
      refine g_Fe_draws R dX10_keep_32 fl_X10_37 ?_
      refine g_Draws_seed R dX10_keep_35 fl_X10_275 ?_
      refine p_Image_seed R dX10_keep_38 fl_X10_284 (kd_65 hi17) hP (fun h38 hP => ?_)
      refine v_aload_2 R dX10_keep_41 ?_
      refine v_iconst R dX10_keep_42 (v := (1 : Int32)) (by decide) ?_
      refine p_Image_kept R dX10_keep_43 fl_X10_129 (kd_65 hi17) (Or.inr rfl) hP (fun h43 hP => ?_)
      refine v_aload_0 R dX10_keep_46 ?_
      refine g_Fe_past R dX10_keep_47 fl_X10_30 ?_
      refine cV0_vw R dX10_keep_50 (c_Past_clear hP) rc_Past ml_X10_126 mv_Past_clear (by decide) (Nat.le_of_ble_eq_true rfl) (fun h50 hP => ?_)
      refine v_iconst R dX10_keep_53 (v := (1 : Int32)) (by decide) ?_
      exact Rt _ _ _ _ dX10_keep_54 hP
    · have hP := hP.2 q6
      refine v_ldc R dX10_keep_9 ct_X10_180 ?_
      exact Rt _ _ _ _ dX10_keep_11 hP
set_option maxRecDepth 100000 in
set_option maxHeartbeats 4000000 in
theorem c_Fe_goBack {l : Launch} {D : va_G} {cs : Nat → ClassId} {φ : Nat → Nat} {p0 : Int32} {h : Hp} {P : Int32 → Hp → Prop} (hP : wp_Fe_goBack p0 h P) : Ct l D cs φ M_Fe_goBack [.ref (φ 0), .int p0] h (fun rv h2 => ∃ v, rv = some (.int v) ∧ P v h2) := by
  refine Ct.of (lc := [some (.ref (φ 0)), some (.int p0), none]) RX10 1 21 rfl (by decide +kernel) rfl (Nat.le_of_ble_eq_true rfl) rfl rfl (fun V R RI RV => ?_)
  have R : Ru l D cs φ RX10 cX10_goBack 3 1 21 V := R
  have Rt : ∀ pc lc v h, decode cX10_goBack pc = .ok (.ireturn, 1) → P v h → V pc lc [.int v] h := fun pc lc v h hd hp => RI pc lc _ .int h rfl rfl hd ⟨v, rfl, hp⟩
  unfold wp_Fe_goBack at hP
  refine v_iload_1 R dX10_goBack_0 ?_
  refine v_if_lt (tgt := 9) R dX10_goBack_1 (by decide) (fun q1 => ?_) (fun q1 => ?_)
  · have hP := hP.1 q1
    refine v_ldc R dX10_goBack_9 ct_X10_180 ?_
    exact Rt _ _ _ _ dX10_goBack_11 hP
  · have hP := hP.2 q1
    refine v_iload_1 R dX10_goBack_4 ?_
    refine v_iconst R dX10_goBack_5 (v := (2 : Int32)) (by decide) ?_
    refine v_icmp_lt (tgt := 12) R dX10_goBack_6 (by decide) (fun q6 => ?_) (fun q6 => ?_)
    · have hP := hP.1 q6
      refine v_aload_0 R dX10_goBack_12 ?_
      refine g_Fe_images R dX10_goBack_13 fl_X10_43 ?_
      refine v_iload_1 R dX10_goBack_16 ?_
      obtain ⟨hi17, hP⟩ := hP
      refine v_aald_65 R dX10_goBack_17 hi17 ?_
      refine v_astore_2 R dX10_goBack_18 (by decide) rfl ?_
      refine v_aload_2 R dX10_goBack_19 ?_
      refine g_Image_kept R dX10_goBack_20 fl_X10_129 (kd_65 hi17) ?_
      refine v_if_ne (tgt := 29) R dX10_goBack_23 (by decide) (fun q23 => ?_) (fun q23 => ?_)
      · have hP := hP.1 q23
        refine v_aload_0 R dX10_goBack_29 ?_
        refine g_Fe_now R dX10_goBack_30 fl_X10_23 ?_
        refine v_aload_2 R dX10_goBack_33 ?_
        refine g_Image_state R dX10_goBack_34 fl_X10_278 (kd_65 hi17) ?_
        refine cV1_vw R dX10_goBack_37 (c_State_become rfl (kd_img (kd_65 hi17)) hP) (rc_State rfl) ml_X10_281 mv_State_become (by decide) (Nat.le_of_ble_eq_true rfl) (fun h37 hP => ?_)
        refine v_aload_0 R dX10_goBack_40 ?_
        refine g_Fe_draws R dX10_goBack_41 fl_X10_37 ?_
        refine v_aload_2 R dX10_goBack_44 ?_
        refine g_Image_seed R dX10_goBack_45 fl_X10_284 (kd_65 hi17) ?_
        refine p_Draws_seed R dX10_goBack_48 fl_X10_275 hP (fun h48 hP => ?_)
        refine v_aload_0 R dX10_goBack_51 ?_
        refine g_Fe_past R dX10_goBack_52 fl_X10_30 ?_
        refine cV0_vw R dX10_goBack_55 (c_Past_clear hP) rc_Past ml_X10_126 mv_Past_clear (by decide) (Nat.le_of_ble_eq_true rfl) (fun h55 hP => ?_)
        refine v_iconst R dX10_goBack_58 (v := (1 : Int32)) (by decide) ?_
        exact Rt _ _ _ _ dX10_goBack_59 hP
      · have hP := hP.2 q23
        refine v_ldc R dX10_goBack_26 ct_X10_231 ?_
        exact Rt _ _ _ _ dX10_goBack_28 hP
    · have hP := hP.2 q6
      refine v_ldc R dX10_goBack_9 ct_X10_180 ?_
      exact Rt _ _ _ _ dX10_goBack_11 hP
set_option maxRecDepth 100000 in
set_option maxHeartbeats 4000000 in
theorem c_Md_in {l : Launch} {D : va_G} {cs : Nat → ClassId} {φ : Nat → Nat} {p0 p1 p2 : Int32} {h : Hp} {P : Bool → Prop} (hP : wp_Md_in p0 p1 p2 P) : Ct l D cs φ M_Md_in [.int p0, .int p1, .int p2] h (fun rv h2 => ∃ v, rv = some (.int (bI v)) ∧ h2 = h ∧ P v) := by
  refine Ct.of (lc := [some (.int p0), some (.int p1), some (.int p2)]) RX11 0 0 rfl (by decide +kernel) rfl (Nat.le_of_ble_eq_true rfl) rfl rfl (fun V R RI RV => ?_)
  have R : Ru l D cs φ RX11 cX11_in 3 0 0 V := R
  have Rt : ∀ pc lc v, decode cX11_in pc = .ok (.ireturn, 1) → P v → V pc lc [.int (bI v)] h := fun pc lc v hd hp => RI pc lc _ .boolean h rfl (bI_n v) hd ⟨v, rfl, rfl, hp⟩
  unfold wp_Md_in at hP
  refine v_iload_0 R dX11_in_0 ?_
  refine v_iload_1 R dX11_in_1 ?_
  refine v_icmp_lt (tgt := 14) R dX11_in_2 (by decide) (fun q2 => ?_) (fun q2 => ?_)
  · have hP := hP.1 q2
    refine v_iconst R dX11_in_14 (v := (0 : Int32)) (by decide) ?_
    exact Rt _ _ false dX11_in_15 hP
  · have hP := hP.2 q2
    refine v_iload_0 R dX11_in_5 ?_
    refine v_iload_2 R dX11_in_6 ?_
    refine v_icmp_gt (tgt := 14) R dX11_in_7 (by decide) (fun q7 => ?_) (fun q7 => ?_)
    · have hP := hP.1 q7
      refine v_iconst R dX11_in_14 (v := (0 : Int32)) (by decide) ?_
      exact Rt _ _ false dX11_in_15 hP
    · have hP := hP.2 q7
      refine v_iconst R dX11_in_10 (v := (1 : Int32)) (by decide) ?_
      refine v_goto (tgt := 15) R dX11_in_11 (by decide) ?_
      exact Rt _ _ true dX11_in_15 hP
set_option maxRecDepth 100000 in
set_option maxHeartbeats 4000000 in
theorem c_Md_has {l : Launch} {D : va_G} {cs : Nat → ClassId} {φ : Nat → Nat} {p0 p1 : Int32} {h : Hp} {P : Bool → Prop} (hP : wp_Md_has p0 p1 P) : Ct l D cs φ M_Md_has [.int p0, .int p1] h (fun rv h2 => ∃ v, rv = some (.int (bI v)) ∧ h2 = h ∧ P v) := by
  refine Ct.of (lc := [some (.int p0), some (.int p1)]) RX11 0 0 rfl (by decide +kernel) rfl (Nat.le_of_ble_eq_true rfl) rfl rfl (fun V R RI RV => ?_)
  have R : Ru l D cs φ RX11 cX11_has 2 0 0 V := R
  have Rt : ∀ pc lc v, decode cX11_has pc = .ok (.ireturn, 1) → P v → V pc lc [.int (bI v)] h := fun pc lc v hd hp => RI pc lc _ .boolean h rfl (bI_n v) hd ⟨v, rfl, rfl, hp⟩
  unfold wp_Md_has at hP
  refine v_iload_0 R dX11_has_0 ?_
  refine v_iload_1 R dX11_has_1 ?_
  refine v_ishr R dX11_has_2 ?_
  refine v_iconst R dX11_has_3 (v := (1 : Int32)) (by decide) ?_
  refine v_iand R dX11_has_4 ?_
  refine v_iconst R dX11_has_5 (v := (1 : Int32)) (by decide) ?_
  refine v_icmp_ne (tgt := 13) R dX11_has_6 (by decide) (fun q6 => ?_) (fun q6 => ?_)
  · have hP := hP.1 q6
    refine v_iconst R dX11_has_13 (v := (0 : Int32)) (by decide) ?_
    exact Rt _ _ false dX11_has_14 hP
  · have hP := hP.2 q6
    refine v_iconst R dX11_has_9 (v := (1 : Int32)) (by decide) ?_
    refine v_goto (tgt := 14) R dX11_has_10 (by decide) ?_
    exact Rt _ _ true dX11_has_14 hP
set_option maxRecDepth 100000 in
set_option maxHeartbeats 4000000 in
theorem L_Md_bits_4 {l : Launch} {D : va_G} {cs : Nat → ClassId} {φ : Nat → Nat} {V : Nat → List (Option Value) → List Value → Hp → Prop} {a0 : Int32} {h : Hp} {E : Int32 → Prop} (R : Ru l D cs φ RX11 cX11_bits 3 0 0 V) (hE : ∀ (a1 : Int32), E a1 → V 24 [none, some (.int a1), none] [] h) : ∀ (n : Nat) (a1 : Int32) (a2 : Int32), lp_Md_bits_4 n a0 a1 a2 E → V 4 [some (.int a0), some (.int a1), some (.int a2)] [] h := by
  intro n
  induction n with
  | zero => intro a1 a2 hP; exact hP.elim
  | succ n ih =>
    intro a1 a2 hP
    unfold lp_Md_bits_4 at hP
    refine v_iload_2 R dX11_bits_4 ?_
    refine v_bipush R dX11_bits_5 (v := (11 : Int32)) (by decide) ?_
    refine v_icmp_ge (tgt := 24) R dX11_bits_7 (by decide) (fun q7 => ?_) (fun q7 => ?_)
    · have hP := hP.1 q7
      refine v_wk R [none, some (.int a1), none] ⟨rfl, trivial⟩ ?_
      exact hE a1 hP
    · have hP := hP.2 q7
      refine v_iload_1 R dX11_bits_10 ?_
      refine v_iload_0 R dX11_bits_11 ?_
      refine v_iload_2 R dX11_bits_12 ?_
      refine v_ishr R dX11_bits_13 ?_
      refine v_iconst R dX11_bits_14 (v := (1 : Int32)) (by decide) ?_
      refine v_iand R dX11_bits_15 ?_
      refine v_iadd R dX11_bits_16 ?_
      refine v_istoreL_1 R dX11_bits_17 (by decide) rfl hP (fun x17 hP => ?_)
      refine v_iincL_2 R (1 : Int32) dX11_bits_18 (by decide) rfl (by decide) hP (fun x18 hP => ?_)
      refine v_goto (tgt := 4) R dX11_bits_21 (by decide) ?_
      exact ih x17 x18 hP
set_option maxRecDepth 100000 in
set_option maxHeartbeats 4000000 in
theorem c_Md_bits {l : Launch} {D : va_G} {cs : Nat → ClassId} {φ : Nat → Nat} {p0 : Int32} {h : Hp} {P : Int32 → Prop} (hP : wp_Md_bits p0 P) : Ct l D cs φ M_Md_bits [.int p0] h (fun rv h2 => ∃ v, rv = some (.int v) ∧ h2 = h ∧ P v) := by
  refine Ct.of (lc := [some (.int p0), none, none]) RX11 0 0 rfl (by decide +kernel) rfl (Nat.le_of_ble_eq_true rfl) rfl rfl (fun V R RI RV => ?_)
  have R : Ru l D cs φ RX11 cX11_bits 3 0 0 V := R
  have Rt : ∀ pc lc v, decode cX11_bits pc = .ok (.ireturn, 1) → P v → V pc lc [.int v] h := fun pc lc v hd hp => RI pc lc _ .int h rfl rfl hd ⟨v, rfl, rfl, hp⟩
  unfold wp_Md_bits at hP
  refine v_iconst R dX11_bits_0 (v := (0 : Int32)) (by decide) ?_
  refine v_istore_1 R dX11_bits_1 (by decide) rfl ?_
  refine v_iconst R dX11_bits_2 (v := (0 : Int32)) (by decide) ?_
  refine v_istore_2 R dX11_bits_3 (by decide) rfl ?_
  obtain ⟨n4, hP⟩ := hP
  refine L_Md_bits_4 R ?_ n4 _ _ hP
  intro w4_1 hP
  refine v_iload_1 R dX11_bits_24 ?_
  exact Rt _ _ _ dX11_bits_25 hP
set_option maxRecDepth 100000 in
set_option maxHeartbeats 4000000 in
theorem c_Md_isWire {l : Launch} {D : va_G} {cs : Nat → ClassId} {φ : Nat → Nat} {p0 : Int32} {h : Hp} {P : Bool → Prop} (hP : wp_Md_isWire p0 h P) : Ct l D cs φ M_Md_isWire [.ref (φ 7), .int p0] h (fun rv h2 => ∃ v, rv = some (.int (bI v)) ∧ h2 = h ∧ P v) := by
  refine Ct.of (lc := [some (.ref (φ 7)), some (.int p0)]) RX11 1 22 rfl (by decide +kernel) rfl (Nat.le_of_ble_eq_true rfl) rfl rfl (fun V R RI RV => ?_)
  have R : Ru l D cs φ RX11 cX11_isWire 2 1 22 V := R
  have Rt : ∀ pc lc v, decode cX11_isWire pc = .ok (.ireturn, 1) → P v → V pc lc [.int (bI v)] h := fun pc lc v hd hp => RI pc lc _ .boolean h rfl (bI_n v) hd ⟨v, rfl, rfl, hp⟩
  unfold wp_Md_isWire at hP
  refine v_iload_1 R dX11_isWire_0 ?_
  refine v_iconst R dX11_isWire_1 (v := (0 : Int32)) (by decide) ?_
  refine v_aload_0 R dX11_isWire_2 ?_
  refine g_Md_wires R dX11_isWire_3 fl_X11_81 ?_
  refine v_iconst R dX11_isWire_6 (v := (1 : Int32)) (by decide) ?_
  refine v_isub R dX11_isWire_7 ?_
  refine cS3_br R dX11_isWire_8 (c_Md_in hP) ml_X11_84 mv_Md_in (by decide) (Nat.le_of_ble_eq_true rfl) (fun v8 hP => ?_)
  exact Rt _ _ _ dX11_isWire_11 hP
set_option maxRecDepth 100000 in
set_option maxHeartbeats 4000000 in
theorem c_Md_areEnds {l : Launch} {D : va_G} {cs : Nat → ClassId} {φ : Nat → Nat} {p0 p1 : Int32} {h : Hp} {P : Bool → Prop} (hP : wp_Md_areEnds p0 p1 h P) : Ct l D cs φ M_Md_areEnds [.ref (φ 7), .int p0, .int p1] h (fun rv h2 => ∃ v, rv = some (.int (bI v)) ∧ h2 = h ∧ P v) := by
  refine Ct.of (lc := [some (.ref (φ 7)), some (.int p0), some (.int p1)]) RX11 2 43 rfl (by decide +kernel) rfl (Nat.le_of_ble_eq_true rfl) rfl rfl (fun V R RI RV => ?_)
  have R : Ru l D cs φ RX11 cX11_areEnds 3 2 43 V := R
  have Rt : ∀ pc lc v, decode cX11_areEnds pc = .ok (.ireturn, 1) → P v → V pc lc [.int (bI v)] h := fun pc lc v hd hp => RI pc lc _ .boolean h rfl (bI_n v) hd ⟨v, rfl, rfl, hp⟩
  unfold wp_Md_areEnds at hP
  refine v_aload_0 R dX11_areEnds_0 ?_
  refine v_iload_1 R dX11_areEnds_1 ?_
  refine cV1_br R dX11_areEnds_2 (c_Md_isWire hP) rc_Md ml_X11_88 mv_Md_isWire (by decide) (Nat.le_of_ble_eq_true rfl) (fun v2 hP => ?_)
  refine v_ifb_eq (tgt := 30) R dX11_areEnds_5 (by decide) (fun q5 => ?_) (fun q5 => ?_)
  · have hP := hP.1 q5
    refine v_iconst R dX11_areEnds_30 (v := (0 : Int32)) (by decide) ?_
    exact Rt _ _ false dX11_areEnds_31 hP
  · have hP := hP.2 q5
    refine v_iload_2 R dX11_areEnds_8 ?_
    refine v_iconst R dX11_areEnds_9 (v := (-1 : Int32)) (by decide) ?_
    refine jn_v (fun K => K → V 26 [none, none, none] [] h) ?_ ?_ hP
    · intro hP
      refine v_iconst R dX11_areEnds_26 (v := (1 : Int32)) (by decide) ?_
      refine v_goto (tgt := 31) R dX11_areEnds_27 (by decide) ?_
      exact Rt _ _ true dX11_areEnds_31 hP
    · intro K J26 hP
      refine v_icmp_eq (tgt := 26) R dX11_areEnds_10 (by decide) (fun q10 => ?_) (fun q10 => ?_)
      · have hP := hP.1 q10
        refine v_wk R [none, none, none] trivial ?_
        exact J26 hP
      · have hP := hP.2 q10
        refine v_aload_0 R dX11_areEnds_13 ?_
        refine v_iload_2 R dX11_areEnds_14 ?_
        refine cV1_br R dX11_areEnds_15 (c_Md_isWire hP) rc_Md ml_X11_88 mv_Md_isWire (by decide) (Nat.le_of_ble_eq_true rfl) (fun v15 hP => ?_)
        refine v_ifb_eq (tgt := 30) R dX11_areEnds_18 (by decide) (fun q18 => ?_) (fun q18 => ?_)
        · have hP := hP.1 q18
          refine v_iconst R dX11_areEnds_30 (v := (0 : Int32)) (by decide) ?_
          exact Rt _ _ false dX11_areEnds_31 hP
        · have hP := hP.2 q18
          refine v_iload_1 R dX11_areEnds_21 ?_
          refine v_iload_2 R dX11_areEnds_22 ?_
          refine v_icmp_eq (tgt := 30) R dX11_areEnds_23 (by decide) (fun q23 => ?_) (fun q23 => ?_)
          · have hP := hP.1 q23
            refine v_iconst R dX11_areEnds_30 (v := (0 : Int32)) (by decide) ?_
            exact Rt _ _ false dX11_areEnds_31 hP
          · have hP := hP.2 q23
            refine v_wk R [none, none, none] trivial ?_
            exact J26 hP
set_option maxRecDepth 100000 in
set_option maxHeartbeats 4000000 in
theorem c_Md_pair {l : Launch} {D : va_G} {cs : Nat → ClassId} {φ : Nat → Nat} {p0 p1 : Int32} {h : Hp} {P : Int32 → Prop} (hP : wp_Md_pair p0 p1 P) : Ct l D cs φ M_Md_pair [.int p0, .int p1] h (fun rv h2 => ∃ v, rv = some (.int v) ∧ h2 = h ∧ P v) := by
  refine Ct.of (lc := [some (.int p0), some (.int p1), none, none]) RX11 0 0 rfl (by decide +kernel) rfl (Nat.le_of_ble_eq_true rfl) rfl rfl (fun V R RI RV => ?_)
  have R : Ru l D cs φ RX11 cX11_pair 4 0 0 V := R
  have Rt : ∀ pc lc v, decode cX11_pair pc = .ok (.ireturn, 1) → P v → V pc lc [.int v] h := fun pc lc v hd hp => RI pc lc _ .int h rfl rfl hd ⟨v, rfl, rfl, hp⟩
  unfold wp_Md_pair at hP
  refine v_iload_0 R dX11_pair_0 ?_
  refine v_iload_1 R dX11_pair_1 ?_
  refine jn_v (fun K => ∀ (z10_0 : Int32), K z10_0 → V 10 [some (.int p0), some (.int p1), none, none] [.int z10_0] h) ?_ ?_ hP
  · intro z10_0 hP
    refine v_istore_2 R dX11_pair_10 (by decide) rfl ?_
    refine v_iload_0 R dX11_pair_11 ?_
    refine v_iload_1 R dX11_pair_12 ?_
    refine jn_v (fun K => ∀ (z21_0 : Int32), K z21_0 → V 21 [none, none, some (.int z10_0), none] [.int z21_0] h) ?_ ?_ hP
    · intro z21_0 hP
      refine v_istore_3 R dX11_pair_21 (by decide) rfl ?_
      refine v_iconst R dX11_pair_22 (v := (5 : Int32)) (by decide) ?_
      refine v_iload_2 R dX11_pair_23 ?_
      refine v_imul R dX11_pair_24 ?_
      refine v_iload_3 R dX11_pair_25 ?_
      refine v_iadd R dX11_pair_26 ?_
      exact Rt _ _ _ dX11_pair_27 hP
    · intro K J21 hP
      refine v_icmp_ge (tgt := 20) R dX11_pair_13 (by decide) (fun q13 => ?_) (fun q13 => ?_)
      · have hP := hP.1 q13
        refine v_iload_0 R dX11_pair_20 ?_
        refine v_wk R [none, none, some (.int z10_0), none] ⟨rfl, trivial⟩ ?_
        exact J21 p0 hP
      · have hP := hP.2 q13
        refine v_iload_1 R dX11_pair_16 ?_
        refine v_goto (tgt := 21) R dX11_pair_17 (by decide) ?_
        refine v_wk R [none, none, some (.int z10_0), none] ⟨rfl, trivial⟩ ?_
        exact J21 p1 hP
  · intro K J10 hP
    refine v_icmp_ge (tgt := 9) R dX11_pair_2 (by decide) (fun q2 => ?_) (fun q2 => ?_)
    · have hP := hP.1 q2
      refine v_iload_1 R dX11_pair_9 ?_
      exact J10 p1 hP
    · have hP := hP.2 q2
      refine v_iload_0 R dX11_pair_5 ?_
      refine v_goto (tgt := 10) R dX11_pair_6 (by decide) ?_
      exact J10 p0 hP
set_option maxRecDepth 100000 in
set_option maxHeartbeats 4000000 in
theorem c_Md_doTouch {l : Launch} {D : va_G} {cs : Nat → ClassId} {φ : Nat → Nat} {p0 p1 : Int32} {h : Hp} {P : Bool → Prop} (hP : wp_Md_doTouch p0 p1 h P) : Ct l D cs φ M_Md_doTouch [.ref (φ 7), .int p0, .int p1] h (fun rv h2 => ∃ v, rv = some (.int (bI v)) ∧ h2 = h ∧ P v) := by
  refine Ct.of (lc := [some (.ref (φ 7)), some (.int p0), some (.int p1)]) RX11 1 23 rfl (by decide +kernel) rfl (Nat.le_of_ble_eq_true rfl) rfl rfl (fun V R RI RV => ?_)
  have R : Ru l D cs φ RX11 cX11_doTouch 3 1 23 V := R
  have Rt : ∀ pc lc v, decode cX11_doTouch pc = .ok (.ireturn, 1) → P v → V pc lc [.int (bI v)] h := fun pc lc v hd hp => RI pc lc _ .boolean h rfl (bI_n v) hd ⟨v, rfl, rfl, hp⟩
  unfold wp_Md_doTouch at hP
  refine v_aload_0 R dX11_doTouch_0 ?_
  refine g_Md_touching R dX11_doTouch_1 fl_X11_92 ?_
  refine v_iload_1 R dX11_doTouch_4 ?_
  refine v_iload_2 R dX11_doTouch_5 ?_
  refine cS2_ir R dX11_doTouch_6 (c_Md_pair hP) ml_X11_95 mv_Md_pair (by decide) (Nat.le_of_ble_eq_true rfl) (fun v6 hP => ?_)
  refine cS2_br R dX11_doTouch_9 (c_Md_has hP) ml_X11_99 mv_Md_has (by decide) (Nat.le_of_ble_eq_true rfl) (fun v9 hP => ?_)
  exact Rt _ _ _ dX11_doTouch_12 hP
set_option maxRecDepth 100000 in
set_option maxHeartbeats 4000000 in
theorem L_Md_touchMany_16 {l : Launch} {D : va_G} {cs : Nat → ClassId} {φ : Nat → Nat} {V : Nat → List (Option Value) → List Value → Hp → Prop} {a2 : Int32} {h : Hp} {E : Int32 → Prop} (R : Ru l D cs φ RX11 cX11_touchMany 4 2 45 V) (hE : ∀ (a1 : Int32), E a1 → V 47 [some (.ref (φ 7)), some (.int a1), some (.int a2), none] [] h) : ∀ (n : Nat) (a1 : Int32) (a3 : Int32), lp_Md_touchMany_16 n a2 a1 a3 h E → V 16 [some (.ref (φ 7)), some (.int a1), some (.int a2), some (.int a3)] [] h := by
  intro n
  induction n with
  | zero => intro a1 a3 hP; exact hP.elim
  | succ n ih =>
    intro a1 a3 hP
    unfold lp_Md_touchMany_16 at hP
    refine v_iload_3 R dX11_touchMany_16 ?_
    refine v_aload_0 R dX11_touchMany_17 ?_
    refine g_Md_wires R dX11_touchMany_18 fl_X11_81 ?_
    refine v_icmp_ge (tgt := 47) R dX11_touchMany_21 (by decide) (fun q21 => ?_) (fun q21 => ?_)
    · have hP := hP.1 q21
      refine v_wk R [some (.ref (φ 7)), some (.int a1), some (.int a2), none] ⟨rfl, ⟨rfl, ⟨rfl, trivial⟩⟩⟩ ?_
      exact hE a1 hP
    · have hP := hP.2 q21
      refine v_iload_1 R dX11_touchMany_24 ?_
      refine v_aload_0 R dX11_touchMany_25 ?_
      refine v_iload_2 R dX11_touchMany_26 ?_
      refine v_iload_3 R dX11_touchMany_27 ?_
      refine cV2_br R dX11_touchMany_28 (c_Md_doTouch hP) rc_Md ml_X11_103 mv_Md_doTouch (by decide) (Nat.le_of_ble_eq_true rfl) (fun v28 hP => ?_)
      refine jn_v (fun K => ∀ (z39_1 : Int32), K z39_1 → V 39 [some (.ref (φ 7)), none, some (.int a2), some (.int a3)] [.int z39_1, .int a1] h) ?_ ?_ hP
      · intro z39_1 hP
        refine v_iadd R dX11_touchMany_39 ?_
        refine v_istoreL_1 R dX11_touchMany_40 (by decide) rfl hP (fun x40 hP => ?_)
        refine v_iincL_3 R (1 : Int32) dX11_touchMany_41 (by decide) rfl (by decide) hP (fun x41 hP => ?_)
        refine v_goto (tgt := 16) R dX11_touchMany_44 (by decide) ?_
        exact ih x40 x41 hP
      · intro K J39 hP
        refine v_ifb_eq (tgt := 38) R dX11_touchMany_31 (by decide) (fun q31 => ?_) (fun q31 => ?_)
        · have hP := hP.1 q31
          refine v_iconst R dX11_touchMany_38 (v := (0 : Int32)) (by decide) ?_
          refine v_wk R [some (.ref (φ 7)), none, some (.int a2), some (.int a3)] ⟨rfl, ⟨rfl, ⟨rfl, trivial⟩⟩⟩ ?_
          exact J39 (0 : Int32) hP
        · have hP := hP.2 q31
          refine v_iconst R dX11_touchMany_34 (v := (1 : Int32)) (by decide) ?_
          refine v_goto (tgt := 39) R dX11_touchMany_35 (by decide) ?_
          refine v_wk R [some (.ref (φ 7)), none, some (.int a2), some (.int a3)] ⟨rfl, ⟨rfl, ⟨rfl, trivial⟩⟩⟩ ?_
          exact J39 (1 : Int32) hP
set_option maxRecDepth 100000 in
set_option maxHeartbeats 4000000 in
theorem L_Md_touchMany_4 {l : Launch} {D : va_G} {cs : Nat → ClassId} {φ : Nat → Nat} {V : Nat → List (Option Value) → List Value → Hp → Prop} {h : Hp} {E : Int32 → Prop} (R : Ru l D cs φ RX11 cX11_touchMany 4 2 45 V) (hE : ∀ (a1 : Int32), E a1 → V 53 [none, some (.int a1), none, none] [] h) : ∀ (n : Nat) (a1 : Int32) (a2 : Int32), lp_Md_touchMany_4 n a1 a2 h E → V 4 [some (.ref (φ 7)), some (.int a1), some (.int a2), none] [] h := by
  intro n
  induction n with
  | zero => intro a1 a2 hP; exact hP.elim
  | succ n ih =>
    intro a1 a2 hP
    unfold lp_Md_touchMany_4 at hP
    refine v_iload_2 R dX11_touchMany_4 ?_
    refine v_aload_0 R dX11_touchMany_5 ?_
    refine g_Md_wires R dX11_touchMany_6 fl_X11_81 ?_
    refine v_icmp_ge (tgt := 53) R dX11_touchMany_9 (by decide) (fun q9 => ?_) (fun q9 => ?_)
    · have hP := hP.1 q9
      refine v_wk R [none, some (.int a1), none, none] ⟨rfl, trivial⟩ ?_
      exact hE a1 hP
    · have hP := hP.2 q9
      refine v_iload_2 R dX11_touchMany_12 ?_
      refine v_iconst R dX11_touchMany_13 (v := (1 : Int32)) (by decide) ?_
      refine v_iadd R dX11_touchMany_14 ?_
      refine v_istoreL_3 R dX11_touchMany_15 (by decide) rfl hP (fun x15 hP => ?_)
      obtain ⟨n16, hP⟩ := hP
      refine L_Md_touchMany_16 R ?_ n16 _ _ hP
      intro w16_1 hP
      refine v_iincL_2 R (1 : Int32) dX11_touchMany_47 (by decide) rfl (by decide) hP (fun x47 hP => ?_)
      refine v_goto (tgt := 4) R dX11_touchMany_50 (by decide) ?_
      exact ih w16_1 x47 hP
set_option maxRecDepth 100000 in
set_option maxHeartbeats 4000000 in
theorem c_Md_touchMany {l : Launch} {D : va_G} {cs : Nat → ClassId} {φ : Nat → Nat} {h : Hp} {P : Int32 → Prop} (hP : wp_Md_touchMany h P) : Ct l D cs φ M_Md_touchMany [.ref (φ 7)] h (fun rv h2 => ∃ v, rv = some (.int v) ∧ h2 = h ∧ P v) := by
  refine Ct.of (lc := [some (.ref (φ 7)), none, none, none]) RX11 2 45 rfl (by decide +kernel) rfl (Nat.le_of_ble_eq_true rfl) rfl rfl (fun V R RI RV => ?_)
  have R : Ru l D cs φ RX11 cX11_touchMany 4 2 45 V := R
  have Rt : ∀ pc lc v, decode cX11_touchMany pc = .ok (.ireturn, 1) → P v → V pc lc [.int v] h := fun pc lc v hd hp => RI pc lc _ .int h rfl rfl hd ⟨v, rfl, rfl, hp⟩
  unfold wp_Md_touchMany at hP
  refine v_iconst R dX11_touchMany_0 (v := (0 : Int32)) (by decide) ?_
  refine v_istore_1 R dX11_touchMany_1 (by decide) rfl ?_
  refine v_iconst R dX11_touchMany_2 (v := (0 : Int32)) (by decide) ?_
  refine v_istore_2 R dX11_touchMany_3 (by decide) rfl ?_
  obtain ⟨n4, hP⟩ := hP
  refine L_Md_touchMany_4 R ?_ n4 _ _ hP
  intro w4_1 hP
  refine v_iload_1 R dX11_touchMany_53 ?_
  exact Rt _ _ _ dX11_touchMany_54 hP
set_option maxRecDepth 100000 in
set_option maxHeartbeats 4000000 in
theorem c_Md_feed {l : Launch} {D : va_G} {cs : Nat → ClassId} {φ : Nat → Nat} {p0 : Int32} {h : Hp} {P : Int32 → Hp → Prop} (hP : wp_Md_feed p0 h P) : Ct l D cs φ M_Md_feed [.ref (φ 7), .int p0] h (fun rv h2 => ∃ v, rv = some (.int v) ∧ P v h2) := by
  refine Ct.of (lc := [some (.ref (φ 7)), some (.int p0)]) RX11 1 22 rfl (by decide +kernel) rfl (Nat.le_of_ble_eq_true rfl) rfl rfl (fun V R RI RV => ?_)
  have R : Ru l D cs φ RX11 cX11_feed 2 1 22 V := R
  have Rt : ∀ pc lc v h, decode cX11_feed pc = .ok (.ireturn, 1) → P v h → V pc lc [.int v] h := fun pc lc v h hd hp => RI pc lc _ .int h rfl rfl hd ⟨v, rfl, hp⟩
  unfold wp_Md_feed at hP
  refine v_iload_1 R dX11_feed_0 ?_
  refine v_iconst R dX11_feed_1 (v := (0 : Int32)) (by decide) ?_
  refine v_sipush R dX11_feed_2 (v := (255 : Int32)) (by decide) ?_
  refine cS3_br R dX11_feed_5 (c_Md_in hP) ml_X11_84 mv_Md_in (by decide) (Nat.le_of_ble_eq_true rfl) (fun v5 hP => ?_)
  refine v_ifb_ne (tgt := 14) R dX11_feed_8 (by decide) (fun q8 => ?_) (fun q8 => ?_)
  · have hP := hP.1 q8
    refine v_aload_0 R dX11_feed_14 ?_
    refine g_Md_size R dX11_feed_15 fl_X11_107 ?_
    refine v_sipush R dX11_feed_18 (v := (240 : Int32)) (by decide) ?_
    refine v_icmp_ne (tgt := 27) R dX11_feed_21 (by decide) (fun q21 => ?_) (fun q21 => ?_)
    · have hP := hP.1 q21
      refine v_aload_0 R dX11_feed_27 ?_
      refine g_Md_text R dX11_feed_28 fl_X11_31 ?_
      refine v_aload_0 R dX11_feed_31 ?_
      refine g_Md_size R dX11_feed_32 fl_X11_107 ?_
      refine v_iload_1 R dX11_feed_35 ?_
      obtain ⟨hi36, hP⟩ := hP
      refine v_iastL R dX11_feed_36 rfl hi36 hP (fun h36 hP => ?_)
      refine v_aload_0 R dX11_feed_37 ?_
      refine v_dup R dX11_feed_38 rfl ?_
      refine g_Md_size R dX11_feed_39 fl_X11_107 ?_
      refine v_iconst R dX11_feed_42 (v := (1 : Int32)) (by decide) ?_
      refine v_iadd R dX11_feed_43 ?_
      refine p_Md_size R dX11_feed_44 fl_X11_107 hP (fun h44 hP => ?_)
      refine v_aload_0 R dX11_feed_47 ?_
      refine g_Md_size R dX11_feed_48 fl_X11_107 ?_
      exact Rt _ _ _ _ dX11_feed_51 hP
    · have hP := hP.2 q21
      refine v_ldc R dX11_feed_24 ct_X11_110 ?_
      exact Rt _ _ _ _ dX11_feed_26 hP
  · have hP := hP.2 q8
    refine v_ldc R dX11_feed_11 ct_X11_106 ?_
    exact Rt _ _ _ _ dX11_feed_13 hP
set_option maxRecDepth 100000 in
set_option maxHeartbeats 4000000 in
theorem L_Md_skip_0 {l : Launch} {D : va_G} {cs : Nat → ClassId} {φ : Nat → Nat} {V : Nat → List (Option Value) → List Value → Hp → Prop} {E : Hp → Prop} (R : Ru l D cs φ RX11 cX11_skip 1 0 0 V) (hE : ∀ (h : Hp), E h → V 38 [none] [] h) : ∀ (n : Nat)  (h : Hp), lp_Md_skip_0 n h E → V 0 [some (.ref (φ 7))] [] h := by
  intro n
  induction n with
  | zero => intro h hP; exact hP.elim
  | succ n ih =>
    intro h hP
    unfold lp_Md_skip_0 at hP
    refine v_aload_0 R dX11_skip_0 ?_
    refine g_Md_readAt R dX11_skip_1 fl_X11_111 ?_
    refine v_aload_0 R dX11_skip_4 ?_
    refine g_Md_size R dX11_skip_5 fl_X11_107 ?_
    refine v_icmp_ge (tgt := 38) R dX11_skip_8 (by decide) (fun q8 => ?_) (fun q8 => ?_)
    · have hP := hP.1 q8
      refine v_wk R [none] trivial ?_
      exact hE h hP
    · have hP := hP.2 q8
      refine v_aload_0 R dX11_skip_11 ?_
      refine g_Md_text R dX11_skip_12 fl_X11_31 ?_
      refine v_aload_0 R dX11_skip_15 ?_
      refine g_Md_readAt R dX11_skip_16 fl_X11_111 ?_
      obtain ⟨hi19, hP⟩ := hP
      refine v_iald R dX11_skip_19 rfl hi19 ?_
      refine v_bipush R dX11_skip_20 (v := (32 : Int32)) (by decide) ?_
      refine v_icmp_ne (tgt := 38) R dX11_skip_22 (by decide) (fun q22 => ?_) (fun q22 => ?_)
      · have hP := hP.1 q22
        refine v_wk R [none] trivial ?_
        exact hE h hP
      · have hP := hP.2 q22
        refine v_aload_0 R dX11_skip_25 ?_
        refine v_dup R dX11_skip_26 rfl ?_
        refine g_Md_readAt R dX11_skip_27 fl_X11_111 ?_
        refine v_iconst R dX11_skip_30 (v := (1 : Int32)) (by decide) ?_
        refine v_iadd R dX11_skip_31 ?_
        refine p_Md_readAt R dX11_skip_32 fl_X11_111 hP (fun h32 hP => ?_)
        refine v_goto (tgt := 0) R dX11_skip_35 (by decide) ?_
        exact ih h32 hP
set_option maxRecDepth 100000 in
set_option maxHeartbeats 4000000 in
theorem c_Md_skip {l : Launch} {D : va_G} {cs : Nat → ClassId} {φ : Nat → Nat} {h : Hp} {P : Hp → Prop} (hP : wp_Md_skip h P) : Ct l D cs φ M_Md_skip [.ref (φ 7)] h (fun rv h2 => rv = none ∧ P h2) := by
  refine Ct.of (lc := [some (.ref (φ 7))]) RX11 0 0 rfl (by decide +kernel) rfl (Nat.le_of_ble_eq_true rfl) rfl rfl (fun V R RI RV => ?_)
  have R : Ru l D cs φ RX11 cX11_skip 1 0 0 V := R
  have Rt : ∀ pc lc h, decode cX11_skip pc = .ok (.return_, 1) → P h → V pc lc [] h := fun pc lc h hd hp => RV pc lc h rfl hd ⟨rfl, hp⟩
  unfold wp_Md_skip at hP
  obtain ⟨n0, hP⟩ := hP
  refine L_Md_skip_0 R ?_ n0 _ hP
  intro h0x hP
  exact Rt _ _ _ dX11_skip_38 hP
set_option maxRecDepth 100000 in
set_option maxHeartbeats 4000000 in
theorem c_Md_here {l : Launch} {D : va_G} {cs : Nat → ClassId} {φ : Nat → Nat} {h : Hp} {P : Int32 → Prop} (hP : wp_Md_here h P) : Ct l D cs φ M_Md_here [.ref (φ 7)] h (fun rv h2 => ∃ v, rv = some (.int v) ∧ h2 = h ∧ P v) := by
  refine Ct.of (lc := [some (.ref (φ 7))]) RX11 0 0 rfl (by decide +kernel) rfl (Nat.le_of_ble_eq_true rfl) rfl rfl (fun V R RI RV => ?_)
  have R : Ru l D cs φ RX11 cX11_here 1 0 0 V := R
  have Rt : ∀ pc lc v, decode cX11_here pc = .ok (.ireturn, 1) → P v → V pc lc [.int v] h := fun pc lc v hd hp => RI pc lc _ .int h rfl rfl hd ⟨v, rfl, rfl, hp⟩
  unfold wp_Md_here at hP
  refine v_aload_0 R dX11_here_0 ?_
  refine g_Md_readAt R dX11_here_1 fl_X11_111 ?_
  refine v_aload_0 R dX11_here_4 ?_
  refine g_Md_size R dX11_here_5 fl_X11_107 ?_
  refine v_icmp_ge (tgt := 23) R dX11_here_8 (by decide) (fun q8 => ?_) (fun q8 => ?_)
  · have hP := hP.1 q8
    refine v_iconst R dX11_here_23 (v := (-1 : Int32)) (by decide) ?_
    exact Rt _ _ _ dX11_here_24 hP
  · have hP := hP.2 q8
    refine v_aload_0 R dX11_here_11 ?_
    refine g_Md_text R dX11_here_12 fl_X11_31 ?_
    refine v_aload_0 R dX11_here_15 ?_
    refine g_Md_readAt R dX11_here_16 fl_X11_111 ?_
    obtain ⟨hi19, hP⟩ := hP
    refine v_iald R dX11_here_19 rfl hi19 ?_
    refine v_goto (tgt := 24) R dX11_here_20 (by decide) ?_
    exact Rt _ _ _ dX11_here_24 hP
set_option maxRecDepth 100000 in
set_option maxHeartbeats 4000000 in
theorem c_Md_fails {l : Launch} {D : va_G} {cs : Nat → ClassId} {φ : Nat → Nat} {p0 p1 : Int32} {h : Hp} {P : Bool → Hp → Prop} (hP : wp_Md_fails p0 p1 h P) : Ct l D cs φ M_Md_fails [.ref (φ 7), .int p0, .int p1] h (fun rv h2 => ∃ v, rv = some (.int (bI v)) ∧ P v h2) := by
  refine Ct.of (lc := [some (.ref (φ 7)), some (.int p0), some (.int p1)]) RX11 0 0 rfl (by decide +kernel) rfl (Nat.le_of_ble_eq_true rfl) rfl rfl (fun V R RI RV => ?_)
  have R : Ru l D cs φ RX11 cX11_fails 3 0 0 V := R
  have Rt : ∀ pc lc v h, decode cX11_fails pc = .ok (.ireturn, 1) → P v h → V pc lc [.int (bI v)] h := fun pc lc v h hd hp => RI pc lc _ .boolean h rfl (bI_n v) hd ⟨v, rfl, hp⟩
  unfold wp_Md_fails at hP
  refine v_aload_0 R dX11_fails_0 ?_
  refine v_iload_1 R dX11_fails_1 ?_
  refine p_Md_readFault R dX11_fails_2 fl_X11_114 hP (fun h2 hP => ?_)
  refine v_aload_0 R dX11_fails_5 ?_
  refine v_iload_2 R dX11_fails_6 ?_
  refine p_Md_readAt R dX11_fails_7 fl_X11_111 hP (fun h7 hP => ?_)
  refine v_iconst R dX11_fails_10 (v := (0 : Int32)) (by decide) ?_
  exact Rt _ _ false _ dX11_fails_11 hP
set_option maxRecDepth 100000 in
set_option maxHeartbeats 4000000 in
theorem L_Md_number_17 {l : Launch} {D : va_G} {cs : Nat → ClassId} {φ : Nat → Nat} {V : Nat → List (Option Value) → List Value → Hp → Prop} {a1 a2 : Int32} {E : Int32 → Int32 → Hp → Prop} (R : Ru l D cs φ RX11 cX11_number 5 1 22 V) (hE : ∀ (a3 : Int32) (a4 : Int32) (h : Hp), E a3 a4 h → V 70 [some (.ref (φ 7)), some (.int a1), some (.int a2), some (.int a3), some (.int a4)] [] h) : ∀ (n : Nat) (a3 : Int32) (a4 : Int32) (h : Hp), lp_Md_number_17 n a1 a2 a3 a4 h E → V 17 [some (.ref (φ 7)), some (.int a1), some (.int a2), some (.int a3), some (.int a4)] [] h := by
  intro n
  induction n with
  | zero => intro a3 a4 h hP; exact hP.elim
  | succ n ih =>
    intro a3 a4 h hP
    unfold lp_Md_number_17 at hP
    refine v_aload_0 R dX11_number_17 ?_
    refine cV0_ir R dX11_number_18 (c_Md_here hP) rc_Md ml_X11_123 mv_Md_here (by decide) (Nat.le_of_ble_eq_true rfl) (fun v18 hP => ?_)
    refine v_bipush R dX11_number_21 (v := (48 : Int32)) (by decide) ?_
    refine v_bipush R dX11_number_23 (v := (57 : Int32)) (by decide) ?_
    refine cS3_br R dX11_number_25 (c_Md_in hP) ml_X11_84 mv_Md_in (by decide) (Nat.le_of_ble_eq_true rfl) (fun v25 hP => ?_)
    refine v_ifb_eq (tgt := 70) R dX11_number_28 (by decide) (fun q28 => ?_) (fun q28 => ?_)
    · have hP := hP.1 q28
      exact hE a3 a4 h hP
    · have hP := hP.2 q28
      refine v_iload_4 R dX11_number_31 ?_
      refine v_iconst R dX11_number_33 (v := (3 : Int32)) (by decide) ?_
      refine jn_v (fun K => ∀ (z53_0 : Int32), K z53_0 → V 53 [some (.ref (φ 7)), some (.int a1), some (.int a2), none, some (.int a4)] [.int z53_0] h) ?_ ?_ hP
      · intro z53_0 hP
        refine v_istore_3 R dX11_number_53 (by decide) rfl ?_
        refine v_iincL_4 R (1 : Int32) dX11_number_54 (by decide) rfl (by decide) hP (fun x54 hP => ?_)
        refine v_aload_0 R dX11_number_57 ?_
        refine v_dup R dX11_number_58 rfl ?_
        refine g_Md_readAt R dX11_number_59 fl_X11_111 ?_
        refine v_iconst R dX11_number_62 (v := (1 : Int32)) (by decide) ?_
        refine v_iadd R dX11_number_63 ?_
        refine p_Md_readAt R dX11_number_64 fl_X11_111 hP (fun h64 hP => ?_)
        refine v_goto (tgt := 17) R dX11_number_67 (by decide) ?_
        exact ih z53_0 x54 h64 hP
      · intro K J53 hP
        refine v_icmp_ge (tgt := 52) R dX11_number_34 (by decide) (fun q34 => ?_) (fun q34 => ?_)
        · have hP := hP.1 q34
          refine v_iload_3 R dX11_number_52 ?_
          refine v_wk R [some (.ref (φ 7)), some (.int a1), some (.int a2), none, some (.int a4)] ⟨rfl, ⟨rfl, ⟨rfl, ⟨rfl, trivial⟩⟩⟩⟩ ?_
          exact J53 a3 hP
        · have hP := hP.2 q34
          refine v_bipush R dX11_number_37 (v := (10 : Int32)) (by decide) ?_
          refine v_iload_3 R dX11_number_39 ?_
          refine v_imul R dX11_number_40 ?_
          refine v_aload_0 R dX11_number_41 ?_
          refine cV0_ir R dX11_number_42 (c_Md_here hP) rc_Md ml_X11_123 mv_Md_here (by decide) (Nat.le_of_ble_eq_true rfl) (fun v42 hP => ?_)
          refine v_iadd R dX11_number_45 ?_
          refine v_bipush R dX11_number_46 (v := (48 : Int32)) (by decide) ?_
          refine v_isub R dX11_number_48 ?_
          refine v_goto (tgt := 53) R dX11_number_49 (by decide) ?_
          refine v_wk R [some (.ref (φ 7)), some (.int a1), some (.int a2), none, some (.int a4)] ⟨rfl, ⟨rfl, ⟨rfl, ⟨rfl, trivial⟩⟩⟩⟩ ?_
          exact J53 ((((10 : Int32) * a3) + v42) - (48 : Int32)) hP
set_option maxRecDepth 100000 in
set_option maxHeartbeats 4000000 in
theorem c_Md_number {l : Launch} {D : va_G} {cs : Nat → ClassId} {φ : Nat → Nat} {p0 p1 : Int32} {h : Hp} {P : Bool → Hp → Prop} (hP : wp_Md_number p0 p1 h P) : Ct l D cs φ M_Md_number [.ref (φ 7), .int p0, .int p1] h (fun rv h2 => ∃ v, rv = some (.int (bI v)) ∧ P v h2) := by
  refine Ct.of (lc := [some (.ref (φ 7)), some (.int p0), some (.int p1), none, none]) RX11 1 22 rfl (by decide +kernel) rfl (Nat.le_of_ble_eq_true rfl) rfl rfl (fun V R RI RV => ?_)
  have R : Ru l D cs φ RX11 cX11_number 5 1 22 V := R
  have Rt : ∀ pc lc v h, decode cX11_number pc = .ok (.ireturn, 1) → P v h → V pc lc [.int (bI v)] h := fun pc lc v h hd hp => RI pc lc _ .boolean h rfl (bI_n v) hd ⟨v, rfl, hp⟩
  unfold wp_Md_number at hP
  refine v_aload_0 R dX11_number_0 ?_
  refine cV0_vw R dX11_number_1 (c_Md_skip hP) rc_Md ml_X11_117 mv_Md_skip (by decide) (Nat.le_of_ble_eq_true rfl) (fun h1 hP => ?_)
  refine v_aload_0 R dX11_number_4 ?_
  refine v_aload_0 R dX11_number_5 ?_
  refine g_Md_readAt R dX11_number_6 fl_X11_111 ?_
  refine p_Md_numberAt R dX11_number_9 fl_X11_120 hP (fun h9 hP => ?_)
  refine v_iconst R dX11_number_12 (v := (0 : Int32)) (by decide) ?_
  refine v_istore_3 R dX11_number_13 (by decide) rfl ?_
  refine v_iconst R dX11_number_14 (v := (0 : Int32)) (by decide) ?_
  refine v_istore_4 R dX11_number_15 (by decide) rfl ?_
  obtain ⟨n17, hP⟩ := hP
  refine L_Md_number_17 R ?_ n17 _ _ _ hP
  intro w17_3 w17_4 h17x hP
  refine v_iload_4 R dX11_number_70 ?_
  refine v_if_ne (tgt := 85) R dX11_number_72 (by decide) (fun q72 => ?_) (fun q72 => ?_)
  · have hP := hP.1 q72
    refine v_aload_0 R dX11_number_85 ?_
    refine v_iload_3 R dX11_number_86 ?_
    refine p_Md_readNumber R dX11_number_87 fl_X11_130 hP (fun h87 hP => ?_)
    refine v_iload_4 R dX11_number_90 ?_
    refine v_iconst R dX11_number_92 (v := (3 : Int32)) (by decide) ?_
    refine jn_v (fun K => ∀ (h117 : Hp), K h117 → V 117 [none, none, none, none, none] [] h117) ?_ ?_ hP
    · intro h117 hP
      refine v_iconst R dX11_number_117 (v := (1 : Int32)) (by decide) ?_
      refine v_goto (tgt := 122) R dX11_number_118 (by decide) ?_
      exact Rt _ _ true _ dX11_number_122 hP
    · intro K J117 hP
      refine jn_v (fun K => K → V 105 [some (.ref (φ 7)), none, none, none, none] [] h87) ?_ ?_ hP
      · intro hP
        refine v_aload_0 R dX11_number_105 ?_
        refine v_iconst R dX11_number_106 (v := (2 : Int32)) (by decide) ?_
        refine v_aload_0 R dX11_number_107 ?_
        refine g_Md_numberAt R dX11_number_108 fl_X11_120 ?_
        refine cV2_bw R dX11_number_111 (c_Md_fails hP) rc_Md ml_X11_127 mv_Md_fails (by decide) (Nat.le_of_ble_eq_true rfl) (fun v111 h111 hP => ?_)
        refine v_ifb_eq (tgt := 121) R dX11_number_114 (by decide) (fun q114 => ?_) (fun q114 => ?_)
        · have hP := hP.1 q114
          refine v_iconst R dX11_number_121 (v := (0 : Int32)) (by decide) ?_
          exact Rt _ _ false _ dX11_number_122 hP
        · have hP := hP.2 q114
          refine v_wk R [none, none, none, none, none] trivial ?_
          exact J117 h111 hP
      · intro K J105 hP
        refine v_icmp_gt (tgt := 105) R dX11_number_93 (by decide) (fun q93 => ?_) (fun q93 => ?_)
        · have hP := hP.1 q93
          refine v_wk R [some (.ref (φ 7)), none, none, none, none] ⟨rfl, trivial⟩ ?_
          exact J105 hP
        · have hP := hP.2 q93
          refine v_iload_3 R dX11_number_96 ?_
          refine v_iload_1 R dX11_number_97 ?_
          refine v_iload_2 R dX11_number_98 ?_
          refine cS3_br R dX11_number_99 (c_Md_in hP) ml_X11_84 mv_Md_in (by decide) (Nat.le_of_ble_eq_true rfl) (fun v99 hP => ?_)
          refine v_ifb_ne (tgt := 117) R dX11_number_102 (by decide) (fun q102 => ?_) (fun q102 => ?_)
          · have hP := hP.1 q102
            refine v_wk R [none, none, none, none, none] trivial ?_
            exact J117 h87 hP
          · have hP := hP.2 q102
            refine v_wk R [some (.ref (φ 7)), none, none, none, none] ⟨rfl, trivial⟩ ?_
            exact J105 hP
  · have hP := hP.2 q72
    refine v_aload_0 R dX11_number_75 ?_
    refine v_iconst R dX11_number_76 (v := (1 : Int32)) (by decide) ?_
    refine v_aload_0 R dX11_number_77 ?_
    refine g_Md_numberAt R dX11_number_78 fl_X11_120 ?_
    refine cV2_bw R dX11_number_81 (c_Md_fails hP) rc_Md ml_X11_127 mv_Md_fails (by decide) (Nat.le_of_ble_eq_true rfl) (fun v81 h81 hP => ?_)
    exact Rt _ _ _ _ dX11_number_84 hP
set_option maxRecDepth 100000 in
set_option maxHeartbeats 4000000 in
theorem c_Md_ends {l : Launch} {D : va_G} {cs : Nat → ClassId} {φ : Nat → Nat} {h : Hp} {P : Bool → Hp → Prop} (hP : wp_Md_ends h P) : Ct l D cs φ M_Md_ends [.ref (φ 7)] h (fun rv h2 => ∃ v, rv = some (.int (bI v)) ∧ P v h2) := by
  refine Ct.of (lc := [some (.ref (φ 7))]) RX11 1 22 rfl (by decide +kernel) rfl (Nat.le_of_ble_eq_true rfl) rfl rfl (fun V R RI RV => ?_)
  have R : Ru l D cs φ RX11 cX11_ends 1 1 22 V := R
  have Rt : ∀ pc lc v h, decode cX11_ends pc = .ok (.ireturn, 1) → P v h → V pc lc [.int (bI v)] h := fun pc lc v h hd hp => RI pc lc _ .boolean h rfl (bI_n v) hd ⟨v, rfl, hp⟩
  unfold wp_Md_ends at hP
  refine v_aload_0 R dX11_ends_0 ?_
  refine cV0_vw R dX11_ends_1 (c_Md_skip hP) rc_Md ml_X11_117 mv_Md_skip (by decide) (Nat.le_of_ble_eq_true rfl) (fun h1 hP => ?_)
  refine v_aload_0 R dX11_ends_4 ?_
  refine cV0_ir R dX11_ends_5 (c_Md_here hP) rc_Md ml_X11_123 mv_Md_here (by decide) (Nat.le_of_ble_eq_true rfl) (fun v5 hP => ?_)
  refine v_bipush R dX11_ends_8 (v := (59 : Int32)) (by decide) ?_
  refine v_icmp_eq (tgt := 23) R dX11_ends_10 (by decide) (fun q10 => ?_) (fun q10 => ?_)
  · have hP := hP.1 q10
    refine v_aload_0 R dX11_ends_23 ?_
    refine v_dup R dX11_ends_24 rfl ?_
    refine g_Md_readAt R dX11_ends_25 fl_X11_111 ?_
    refine v_iconst R dX11_ends_28 (v := (1 : Int32)) (by decide) ?_
    refine v_iadd R dX11_ends_29 ?_
    refine p_Md_readAt R dX11_ends_30 fl_X11_111 hP (fun h30 hP => ?_)
    refine v_iconst R dX11_ends_33 (v := (1 : Int32)) (by decide) ?_
    exact Rt _ _ true _ dX11_ends_34 hP
  · have hP := hP.2 q10
    refine v_aload_0 R dX11_ends_13 ?_
    refine v_iconst R dX11_ends_14 (v := (1 : Int32)) (by decide) ?_
    refine v_aload_0 R dX11_ends_15 ?_
    refine g_Md_readAt R dX11_ends_16 fl_X11_111 ?_
    refine cV2_bw R dX11_ends_19 (c_Md_fails hP) rc_Md ml_X11_127 mv_Md_fails (by decide) (Nat.le_of_ble_eq_true rfl) (fun v19 h19 hP => ?_)
    exact Rt _ _ _ _ dX11_ends_22 hP
set_option maxRecDepth 100000 in
set_option maxHeartbeats 4000000 in
theorem L_Md_isRead_4 {l : Launch} {D : va_G} {cs : Nat → ClassId} {φ : Nat → Nat} {V : Nat → List (Option Value) → List Value → Hp → Prop} {a1 : Int32} {h : Hp} {E : Int32 → Prop} (R : Ru l D cs φ RX11 cX11_isRead 4 0 0 V) (hE : ∀ (a2 : Int32), E a2 → V 38 [none, none, some (.int a2), none] [] h) : ∀ (n : Nat) (a2 : Int32) (a3 : Int32), lp_Md_isRead_4 n a1 a2 a3 h E → V 4 [some (.ref (φ 7)), some (.int a1), some (.int a2), some (.int a3)] [] h := by
  intro n
  induction n with
  | zero => intro a2 a3 hP; exact hP.elim
  | succ n ih =>
    intro a2 a3 hP
    unfold lp_Md_isRead_4 at hP
    refine v_iload_3 R dX11_isRead_4 ?_
    refine v_aload_0 R dX11_isRead_5 ?_
    refine g_Md_readWires R dX11_isRead_6 fl_X11_133 ?_
    refine v_icmp_ge (tgt := 38) R dX11_isRead_9 (by decide) (fun q9 => ?_) (fun q9 => ?_)
    · have hP := hP.1 q9
      refine v_wk R [none, none, some (.int a2), none] ⟨rfl, trivial⟩ ?_
      exact hE a2 hP
    · have hP := hP.2 q9
      refine v_iload_2 R dX11_isRead_12 ?_
      refine jn_v (fun K => ∀ (z31_0 : Int32), K z31_0 → V 31 [some (.ref (φ 7)), some (.int a1), none, some (.int a3)] [.int z31_0] h) ?_ ?_ hP
      · intro z31_0 hP
        refine v_istore_2 R dX11_isRead_31 (by decide) rfl ?_
        refine v_iincL_3 R (1 : Int32) dX11_isRead_32 (by decide) rfl (by decide) hP (fun x32 hP => ?_)
        refine v_goto (tgt := 4) R dX11_isRead_35 (by decide) ?_
        exact ih z31_0 x32 hP
      · intro K J31 hP
        refine jn_v (fun K => K → V 26 [some (.ref (φ 7)), some (.int a1), none, some (.int a3)] [] h) ?_ ?_ hP
        · intro hP
          refine v_iconst R dX11_isRead_26 (v := (1 : Int32)) (by decide) ?_
          refine v_goto (tgt := 31) R dX11_isRead_27 (by decide) ?_
          exact J31 (1 : Int32) hP
        · intro K J26 hP
          refine v_if_ne (tgt := 26) R dX11_isRead_13 (by decide) (fun q13 => ?_) (fun q13 => ?_)
          · have hP := hP.1 q13
            refine v_wk R [some (.ref (φ 7)), some (.int a1), none, some (.int a3)] ⟨rfl, ⟨rfl, ⟨rfl, trivial⟩⟩⟩ ?_
            exact J26 hP
          · have hP := hP.2 q13
            refine v_aload_0 R dX11_isRead_16 ?_
            refine g_Md_readTruly R dX11_isRead_17 fl_X11_38 ?_
            refine v_iload_3 R dX11_isRead_20 ?_
            obtain ⟨hi21, hP⟩ := hP
            refine v_iald R dX11_isRead_21 rfl hi21 ?_
            refine v_iload_1 R dX11_isRead_22 ?_
            refine v_icmp_ne (tgt := 30) R dX11_isRead_23 (by decide) (fun q23 => ?_) (fun q23 => ?_)
            · have hP := hP.1 q23
              refine v_iconst R dX11_isRead_30 (v := (0 : Int32)) (by decide) ?_
              refine v_wk R [some (.ref (φ 7)), some (.int a1), none, some (.int a3)] ⟨rfl, ⟨rfl, ⟨rfl, trivial⟩⟩⟩ ?_
              exact J31 (0 : Int32) hP
            · have hP := hP.2 q23
              refine v_wk R [some (.ref (φ 7)), some (.int a1), none, some (.int a3)] ⟨rfl, ⟨rfl, ⟨rfl, trivial⟩⟩⟩ ?_
              exact J26 hP
set_option maxRecDepth 100000 in
set_option maxHeartbeats 4000000 in
theorem c_Md_isRead {l : Launch} {D : va_G} {cs : Nat → ClassId} {φ : Nat → Nat} {p0 : Int32} {h : Hp} {P : Bool → Prop} (hP : wp_Md_isRead p0 h P) : Ct l D cs φ M_Md_isRead [.ref (φ 7), .int p0] h (fun rv h2 => ∃ v, rv = some (.int (bI v)) ∧ h2 = h ∧ P v) := by
  refine Ct.of (lc := [some (.ref (φ 7)), some (.int p0), none, none]) RX11 0 0 rfl (by decide +kernel) rfl (Nat.le_of_ble_eq_true rfl) rfl rfl (fun V R RI RV => ?_)
  have R : Ru l D cs φ RX11 cX11_isRead 4 0 0 V := R
  have Rt : ∀ pc lc v, decode cX11_isRead pc = .ok (.ireturn, 1) → P v → V pc lc [.int (bI v)] h := fun pc lc v hd hp => RI pc lc _ .boolean h rfl (bI_n v) hd ⟨v, rfl, rfl, hp⟩
  unfold wp_Md_isRead at hP
  refine v_iconst R dX11_isRead_0 (v := (0 : Int32)) (by decide) ?_
  refine v_istore_2 R dX11_isRead_1 (by decide) rfl ?_
  refine v_iconst R dX11_isRead_2 (v := (0 : Int32)) (by decide) ?_
  refine v_istore_3 R dX11_isRead_3 (by decide) rfl ?_
  obtain ⟨n4, hP⟩ := hP
  refine L_Md_isRead_4 R ?_ n4 _ _ hP
  intro w4_2 hP
  refine v_iload_2 R dX11_isRead_38 ?_
  exact v_bz hP.1 (Rt _ _ _ dX11_isRead_39 hP.2)
set_option maxRecDepth 100000 in
set_option maxHeartbeats 4000000 in
theorem L_Md_isWhole_16 {l : Launch} {D : va_G} {cs : Nat → ClassId} {φ : Nat → Nat} {V : Nat → List (Option Value) → List Value → Hp → Prop} {h : Hp} {E : Int32 → Prop} (R : Ru l D cs φ RX11 cX11_isWhole 3 1 23 V) (hE : ∀ (a1 : Int32), E a1 → V 48 [none, some (.int a1), none] [] h) : ∀ (n : Nat) (a1 : Int32) (a2 : Int32), lp_Md_isWhole_16 n a1 a2 h E → V 16 [some (.ref (φ 7)), some (.int a1), some (.int a2)] [] h := by
  intro n
  induction n with
  | zero => intro a1 a2 hP; exact hP.elim
  | succ n ih =>
    intro a1 a2 hP
    unfold lp_Md_isWhole_16 at hP
    refine v_iload_2 R dX11_isWhole_16 ?_
    refine v_aload_0 R dX11_isWhole_17 ?_
    refine g_Md_readWires R dX11_isWhole_18 fl_X11_133 ?_
    refine v_icmp_ge (tgt := 48) R dX11_isWhole_21 (by decide) (fun q21 => ?_) (fun q21 => ?_)
    · have hP := hP.1 q21
      refine v_wk R [none, some (.int a1), none] ⟨rfl, trivial⟩ ?_
      exact hE a1 hP
    · have hP := hP.2 q21
      refine v_iload_1 R dX11_isWhole_24 ?_
      refine jn_v (fun K => ∀ (z41_0 : Int32), K z41_0 → V 41 [some (.ref (φ 7)), none, some (.int a2)] [.int z41_0] h) ?_ ?_ hP
      · intro z41_0 hP
        refine v_istore_1 R dX11_isWhole_41 (by decide) rfl ?_
        refine v_iincL_2 R (1 : Int32) dX11_isWhole_42 (by decide) rfl (by decide) hP (fun x42 hP => ?_)
        refine v_goto (tgt := 16) R dX11_isWhole_45 (by decide) ?_
        exact ih z41_0 x42 hP
      · intro K J41 hP
        refine jn_v (fun K => K → V 40 [some (.ref (φ 7)), none, some (.int a2)] [] h) ?_ ?_ hP
        · intro hP
          refine v_iconst R dX11_isWhole_40 (v := (0 : Int32)) (by decide) ?_
          exact J41 (0 : Int32) hP
        · intro K J40 hP
          refine v_if_eq (tgt := 40) R dX11_isWhole_25 (by decide) (fun q25 => ?_) (fun q25 => ?_)
          · have hP := hP.1 q25
            refine v_wk R [some (.ref (φ 7)), none, some (.int a2)] ⟨rfl, ⟨rfl, trivial⟩⟩ ?_
            exact J40 hP
          · have hP := hP.2 q25
            refine v_aload_0 R dX11_isWhole_28 ?_
            refine v_iload_2 R dX11_isWhole_29 ?_
            refine cV1_br R dX11_isWhole_30 (c_Md_isRead hP) rc_Md ml_X11_136 mv_Md_isRead (by decide) (Nat.le_of_ble_eq_true rfl) (fun v30 hP => ?_)
            refine v_ifb_eq (tgt := 40) R dX11_isWhole_33 (by decide) (fun q33 => ?_) (fun q33 => ?_)
            · have hP := hP.1 q33
              refine v_wk R [some (.ref (φ 7)), none, some (.int a2)] ⟨rfl, ⟨rfl, trivial⟩⟩ ?_
              exact J40 hP
            · have hP := hP.2 q33
              refine v_iconst R dX11_isWhole_36 (v := (1 : Int32)) (by decide) ?_
              refine v_goto (tgt := 41) R dX11_isWhole_37 (by decide) ?_
              refine v_wk R [some (.ref (φ 7)), none, some (.int a2)] ⟨rfl, ⟨rfl, trivial⟩⟩ ?_
              exact J41 (1 : Int32) hP
set_option maxRecDepth 100000 in
set_option maxHeartbeats 4000000 in
theorem c_Md_isWhole {l : Launch} {D : va_G} {cs : Nat → ClassId} {φ : Nat → Nat} {h : Hp} {P : Bool → Prop} (hP : wp_Md_isWhole h P) : Ct l D cs φ M_Md_isWhole [.ref (φ 7)] h (fun rv h2 => ∃ v, rv = some (.int (bI v)) ∧ h2 = h ∧ P v) := by
  refine Ct.of (lc := [some (.ref (φ 7)), none, none]) RX11 1 23 rfl (by decide +kernel) rfl (Nat.le_of_ble_eq_true rfl) rfl rfl (fun V R RI RV => ?_)
  have R : Ru l D cs φ RX11 cX11_isWhole 3 1 23 V := R
  have Rt : ∀ pc lc v, decode cX11_isWhole pc = .ok (.ireturn, 1) → P v → V pc lc [.int (bI v)] h := fun pc lc v hd hp => RI pc lc _ .boolean h rfl (bI_n v) hd ⟨v, rfl, rfl, hp⟩
  unfold wp_Md_isWhole at hP
  refine v_aload_0 R dX11_isWhole_0 ?_
  refine g_Md_readWires R dX11_isWhole_1 fl_X11_133 ?_
  refine v_iconst R dX11_isWhole_4 (v := (1 : Int32)) (by decide) ?_
  refine jn_v (fun K => ∀ (z13_0 : Int32), K z13_0 → V 13 [some (.ref (φ 7)), none, none] [.int z13_0] h) ?_ ?_ hP
  · intro z13_0 hP
    refine v_istore_1 R dX11_isWhole_13 (by decide) rfl ?_
    refine v_iconst R dX11_isWhole_14 (v := (0 : Int32)) (by decide) ?_
    refine v_istore_2 R dX11_isWhole_15 (by decide) rfl ?_
    obtain ⟨n16, hP⟩ := hP
    refine L_Md_isWhole_16 R ?_ n16 _ _ hP
    intro w16_1 hP
    refine v_iload_1 R dX11_isWhole_48 ?_
    exact v_bz hP.1 (Rt _ _ _ dX11_isWhole_49 hP.2)
  · intro K J13 hP
    refine v_icmp_le (tgt := 12) R dX11_isWhole_5 (by decide) (fun q5 => ?_) (fun q5 => ?_)
    · have hP := hP.1 q5
      refine v_iconst R dX11_isWhole_12 (v := (0 : Int32)) (by decide) ?_
      exact J13 (0 : Int32) hP
    · have hP := hP.2 q5
      refine v_iconst R dX11_isWhole_8 (v := (1 : Int32)) (by decide) ?_
      refine v_goto (tgt := 13) R dX11_isWhole_9 (by decide) ?_
      exact J13 (1 : Int32) hP
set_option maxRecDepth 100000 in
set_option maxHeartbeats 4000000 in
theorem c_Md_readsOne {l : Launch} {D : va_G} {cs : Nat → ClassId} {φ : Nat → Nat} {h : Hp} {P : Bool → Hp → Prop} (hP : wp_Md_readsOne h P) : Ct l D cs φ M_Md_readsOne [.ref (φ 7)] h (fun rv h2 => ∃ v, rv = some (.int (bI v)) ∧ P v h2) := by
  refine Ct.of (lc := [some (.ref (φ 7))]) RX11 2 46 rfl (by decide +kernel) rfl (Nat.le_of_ble_eq_true rfl) rfl rfl (fun V R RI RV => ?_)
  have R : Ru l D cs φ RX11 cX11_readsOne 1 2 46 V := R
  have Rt : ∀ pc lc v h, decode cX11_readsOne pc = .ok (.ireturn, 1) → P v h → V pc lc [.int (bI v)] h := fun pc lc v h hd hp => RI pc lc _ .boolean h rfl (bI_n v) hd ⟨v, rfl, hp⟩
  unfold wp_Md_readsOne at hP
  refine v_aload_0 R dX11_readsOne_0 ?_
  refine v_iconst R dX11_readsOne_1 (v := (0 : Int32)) (by decide) ?_
  refine v_iconst R dX11_readsOne_2 (v := (4 : Int32)) (by decide) ?_
  refine cV2_bw R dX11_readsOne_3 (c_Md_number hP) rc_Md ml_X11_139 mv_Md_number (by decide) (Nat.le_of_ble_eq_true rfl) (fun v3 h3 hP => ?_)
  refine v_ifb_ne (tgt := 11) R dX11_readsOne_6 (by decide) (fun q6 => ?_) (fun q6 => ?_)
  · have hP := hP.1 q6
    refine v_aload_0 R dX11_readsOne_11 ?_
    refine v_aload_0 R dX11_readsOne_12 ?_
    refine g_Md_readNumber R dX11_readsOne_13 fl_X11_130 ?_
    refine cV1_br R dX11_readsOne_16 (c_Md_isRead hP) rc_Md ml_X11_136 mv_Md_isRead (by decide) (Nat.le_of_ble_eq_true rfl) (fun v16 hP => ?_)
    refine v_ifb_eq (tgt := 32) R dX11_readsOne_19 (by decide) (fun q19 => ?_) (fun q19 => ?_)
    · have hP := hP.1 q19
      refine v_aload_0 R dX11_readsOne_32 ?_
      refine g_Md_readTruly R dX11_readsOne_33 fl_X11_38 ?_
      refine v_aload_0 R dX11_readsOne_36 ?_
      refine g_Md_readWires R dX11_readsOne_37 fl_X11_133 ?_
      refine v_aload_0 R dX11_readsOne_40 ?_
      refine g_Md_readNumber R dX11_readsOne_41 fl_X11_130 ?_
      obtain ⟨hi44, hP⟩ := hP
      refine v_iastL R dX11_readsOne_44 rfl hi44 hP (fun h44 hP => ?_)
      refine v_aload_0 R dX11_readsOne_45 ?_
      refine v_dup R dX11_readsOne_46 rfl ?_
      refine g_Md_readWires R dX11_readsOne_47 fl_X11_133 ?_
      refine v_iconst R dX11_readsOne_50 (v := (1 : Int32)) (by decide) ?_
      refine v_iadd R dX11_readsOne_51 ?_
      refine p_Md_readWires R dX11_readsOne_52 fl_X11_133 hP (fun h52 hP => ?_)
      refine v_aload_0 R dX11_readsOne_55 ?_
      refine cV0_vw R dX11_readsOne_56 (c_Md_skip hP) rc_Md ml_X11_117 mv_Md_skip (by decide) (Nat.le_of_ble_eq_true rfl) (fun h56 hP => ?_)
      refine v_iconst R dX11_readsOne_59 (v := (1 : Int32)) (by decide) ?_
      exact Rt _ _ true _ dX11_readsOne_60 hP
    · have hP := hP.2 q19
      refine v_aload_0 R dX11_readsOne_22 ?_
      refine v_iconst R dX11_readsOne_23 (v := (4 : Int32)) (by decide) ?_
      refine v_aload_0 R dX11_readsOne_24 ?_
      refine g_Md_numberAt R dX11_readsOne_25 fl_X11_120 ?_
      refine cV2_bw R dX11_readsOne_28 (c_Md_fails hP) rc_Md ml_X11_127 mv_Md_fails (by decide) (Nat.le_of_ble_eq_true rfl) (fun v28 h28 hP => ?_)
      exact Rt _ _ _ _ dX11_readsOne_31 hP
  · have hP := hP.2 q6
    refine v_iconst R dX11_readsOne_9 (v := (0 : Int32)) (by decide) ?_
    exact Rt _ _ false _ dX11_readsOne_10 hP
set_option maxRecDepth 100000 in
set_option maxHeartbeats 4000000 in
theorem L_Md_readsCable_9 {l : Launch} {D : va_G} {cs : Nat → ClassId} {φ : Nat → Nat} {V : Nat → List (Option Value) → List Value → Hp → Prop} {E : Hp → Prop} {P : Bool → Hp → Prop} (R : Ru l D cs φ RX11 cX11_readsCable 1 3 66 V) (hE : ∀ (h : Hp), E h → V 45 [some (.ref (φ 7))] [] h) (Rt : ∀ pc lc v h, decode cX11_readsCable pc = .ok (.ireturn, 1) → P v h → V pc lc [.int (bI v)] h) : ∀ (n : Nat)  (h : Hp), lp_Md_readsCable_9 n h E P → V 9 [some (.ref (φ 7))] [] h := by
  intro n
  induction n with
  | zero => intro h hP; exact hP.elim
  | succ n ih =>
    intro h hP
    unfold lp_Md_readsCable_9 at hP
    refine v_aload_0 R dX11_readsCable_9 ?_
    refine cV0_ir R dX11_readsCable_10 (c_Md_here hP) rc_Md ml_X11_123 mv_Md_here (by decide) (Nat.le_of_ble_eq_true rfl) (fun v10 hP => ?_)
    refine v_bipush R dX11_readsCable_13 (v := (44 : Int32)) (by decide) ?_
    refine v_icmp_ne (tgt := 45) R dX11_readsCable_15 (by decide) (fun q15 => ?_) (fun q15 => ?_)
    · have hP := hP.1 q15
      exact hE h hP
    · have hP := hP.2 q15
      refine v_aload_0 R dX11_readsCable_18 ?_
      refine g_Md_readWires R dX11_readsCable_19 fl_X11_133 ?_
      refine v_iconst R dX11_readsCable_22 (v := (5 : Int32)) (by decide) ?_
      refine v_icmp_ge (tgt := 45) R dX11_readsCable_23 (by decide) (fun q23 => ?_) (fun q23 => ?_)
      · have hP := hP.1 q23
        exact hE h hP
      · have hP := hP.2 q23
        refine v_aload_0 R dX11_readsCable_26 ?_
        refine v_dup R dX11_readsCable_27 rfl ?_
        refine g_Md_readAt R dX11_readsCable_28 fl_X11_111 ?_
        refine v_iconst R dX11_readsCable_31 (v := (1 : Int32)) (by decide) ?_
        refine v_iadd R dX11_readsCable_32 ?_
        refine p_Md_readAt R dX11_readsCable_33 fl_X11_111 hP (fun h33 hP => ?_)
        refine v_aload_0 R dX11_readsCable_36 ?_
        refine cV0_bw R dX11_readsCable_37 (c_Md_readsOne hP) rc_Md ml_X11_142 mv_Md_readsOne (by decide) (Nat.le_of_ble_eq_true rfl) (fun v37 h37 hP => ?_)
        refine v_ifb_ne (tgt := 9) R dX11_readsCable_40 (by decide) (fun q40 => ?_) (fun q40 => ?_)
        · have hP := hP.1 q40
          exact ih h37 hP
        · have hP := hP.2 q40
          refine v_iconst R dX11_readsCable_43 (v := (0 : Int32)) (by decide) ?_
          exact Rt _ _ false _ dX11_readsCable_44 hP
set_option maxRecDepth 100000 in
set_option maxHeartbeats 4000000 in
theorem c_Md_readsCable {l : Launch} {D : va_G} {cs : Nat → ClassId} {φ : Nat → Nat} {h : Hp} {P : Bool → Hp → Prop} (hP : wp_Md_readsCable h P) : Ct l D cs φ M_Md_readsCable [.ref (φ 7)] h (fun rv h2 => ∃ v, rv = some (.int (bI v)) ∧ P v h2) := by
  refine Ct.of (lc := [some (.ref (φ 7))]) RX11 3 66 rfl (by decide +kernel) rfl (Nat.le_of_ble_eq_true rfl) rfl rfl (fun V R RI RV => ?_)
  have R : Ru l D cs φ RX11 cX11_readsCable 1 3 66 V := R
  have Rt : ∀ pc lc v h, decode cX11_readsCable pc = .ok (.ireturn, 1) → P v h → V pc lc [.int (bI v)] h := fun pc lc v h hd hp => RI pc lc _ .boolean h rfl (bI_n v) hd ⟨v, rfl, hp⟩
  unfold wp_Md_readsCable at hP
  refine v_aload_0 R dX11_readsCable_0 ?_
  refine cV0_bw R dX11_readsCable_1 (c_Md_readsOne hP) rc_Md ml_X11_142 mv_Md_readsOne (by decide) (Nat.le_of_ble_eq_true rfl) (fun v1 h1 hP => ?_)
  refine v_ifb_ne (tgt := 9) R dX11_readsCable_4 (by decide) (fun q4 => ?_) (fun q4 => ?_)
  · have hP := hP.1 q4
    obtain ⟨n9, hP⟩ := hP
    refine L_Md_readsCable_9 R ?_ Rt n9 _ hP
    intro h9x hP
    refine v_aload_0 R dX11_readsCable_45 ?_
    refine cV0_br R dX11_readsCable_46 (c_Md_isWhole hP) rc_Md ml_X11_146 mv_Md_isWhole (by decide) (Nat.le_of_ble_eq_true rfl) (fun v46 hP => ?_)
    refine v_ifb_eq (tgt := 59) R dX11_readsCable_49 (by decide) (fun q49 => ?_) (fun q49 => ?_)
    · have hP := hP.1 q49
      refine v_aload_0 R dX11_readsCable_59 ?_
      refine v_iconst R dX11_readsCable_60 (v := (1 : Int32)) (by decide) ?_
      refine v_aload_0 R dX11_readsCable_61 ?_
      refine g_Md_readAt R dX11_readsCable_62 fl_X11_111 ?_
      refine cV2_bw R dX11_readsCable_65 (c_Md_fails hP) rc_Md ml_X11_127 mv_Md_fails (by decide) (Nat.le_of_ble_eq_true rfl) (fun v65 h65 hP => ?_)
      exact Rt _ _ _ _ dX11_readsCable_68 hP
    · have hP := hP.2 q49
      refine v_aload_0 R dX11_readsCable_52 ?_
      refine cV0_bw R dX11_readsCable_53 (c_Md_ends hP) rc_Md ml_X11_149 mv_Md_ends (by decide) (Nat.le_of_ble_eq_true rfl) (fun v53 h53 hP => ?_)
      refine v_goto (tgt := 68) R dX11_readsCable_56 (by decide) ?_
      exact Rt _ _ _ _ dX11_readsCable_68 hP
  · have hP := hP.2 q4
    refine v_iconst R dX11_readsCable_7 (v := (0 : Int32)) (by decide) ?_
    exact Rt _ _ false _ dX11_readsCable_8 hP
set_option maxRecDepth 100000 in
set_option maxHeartbeats 4000000 in
theorem c_Md_readsKind {l : Launch} {D : va_G} {cs : Nat → ClassId} {φ : Nat → Nat} {h : Hp} {P : Bool → Hp → Prop} (hP : wp_Md_readsKind h P) : Ct l D cs φ M_Md_readsKind [.ref (φ 7)] h (fun rv h2 => ∃ v, rv = some (.int (bI v)) ∧ P v h2) := by
  refine Ct.of (lc := [some (.ref (φ 7)), none]) RX11 2 46 rfl (by decide +kernel) rfl (Nat.le_of_ble_eq_true rfl) rfl rfl (fun V R RI RV => ?_)
  have R : Ru l D cs φ RX11 cX11_readsKind 2 2 46 V := R
  have Rt : ∀ pc lc v h, decode cX11_readsKind pc = .ok (.ireturn, 1) → P v h → V pc lc [.int (bI v)] h := fun pc lc v h hd hp => RI pc lc _ .boolean h rfl (bI_n v) hd ⟨v, rfl, hp⟩
  unfold wp_Md_readsKind at hP
  refine v_aload_0 R dX11_readsKind_0 ?_
  refine v_iconst R dX11_readsKind_1 (v := (0 : Int32)) (by decide) ?_
  refine v_aload_0 R dX11_readsKind_2 ?_
  refine g_Md_readWires R dX11_readsKind_3 fl_X11_133 ?_
  refine v_iconst R dX11_readsKind_6 (v := (1 : Int32)) (by decide) ?_
  refine v_isub R dX11_readsKind_7 ?_
  refine cV2_bw R dX11_readsKind_8 (c_Md_number hP) rc_Md ml_X11_139 mv_Md_number (by decide) (Nat.le_of_ble_eq_true rfl) (fun v8 h8 hP => ?_)
  refine v_ifb_ne (tgt := 16) R dX11_readsKind_11 (by decide) (fun q11 => ?_) (fun q11 => ?_)
  · have hP := hP.1 q11
    refine v_aload_0 R dX11_readsKind_16 ?_
    refine g_Md_readNumber R dX11_readsKind_17 fl_X11_130 ?_
    refine v_istoreL_1 R dX11_readsKind_20 (by decide) rfl hP (fun x20 hP => ?_)
    refine v_aload_0 R dX11_readsKind_21 ?_
    refine g_Md_readKind R dX11_readsKind_22 fl_X11_41 ?_
    refine v_iload_1 R dX11_readsKind_25 ?_
    obtain ⟨hi26, hP⟩ := hP
    refine v_iald R dX11_readsKind_26 rfl hi26 ?_
    refine v_if_eq (tgt := 40) R dX11_readsKind_27 (by decide) (fun q27 => ?_) (fun q27 => ?_)
    · have hP := hP.1 q27
      refine v_aload_0 R dX11_readsKind_40 ?_
      refine v_iconst R dX11_readsKind_41 (v := (1 : Int32)) (by decide) ?_
      refine v_iconst R dX11_readsKind_42 (v := (3 : Int32)) (by decide) ?_
      refine cV2_bw R dX11_readsKind_43 (c_Md_number hP) rc_Md ml_X11_139 mv_Md_number (by decide) (Nat.le_of_ble_eq_true rfl) (fun v43 h43 hP => ?_)
      refine v_ifb_ne (tgt := 51) R dX11_readsKind_46 (by decide) (fun q46 => ?_) (fun q46 => ?_)
      · have hP := hP.1 q46
        refine v_aload_0 R dX11_readsKind_51 ?_
        refine g_Md_readKind R dX11_readsKind_52 fl_X11_41 ?_
        refine v_iload_1 R dX11_readsKind_55 ?_
        refine v_aload_0 R dX11_readsKind_56 ?_
        refine g_Md_readNumber R dX11_readsKind_57 fl_X11_130 ?_
        obtain ⟨hi60, hP⟩ := hP
        refine v_iastL R dX11_readsKind_60 rfl hi60 hP (fun h60 hP => ?_)
        refine v_aload_0 R dX11_readsKind_61 ?_
        refine cV0_bw R dX11_readsKind_62 (c_Md_ends hP) rc_Md ml_X11_149 mv_Md_ends (by decide) (Nat.le_of_ble_eq_true rfl) (fun v62 h62 hP => ?_)
        exact Rt _ _ _ _ dX11_readsKind_65 hP
      · have hP := hP.2 q46
        refine v_iconst R dX11_readsKind_49 (v := (0 : Int32)) (by decide) ?_
        exact Rt _ _ false _ dX11_readsKind_50 hP
    · have hP := hP.2 q27
      refine v_aload_0 R dX11_readsKind_30 ?_
      refine v_iconst R dX11_readsKind_31 (v := (4 : Int32)) (by decide) ?_
      refine v_aload_0 R dX11_readsKind_32 ?_
      refine g_Md_numberAt R dX11_readsKind_33 fl_X11_120 ?_
      refine cV2_bw R dX11_readsKind_36 (c_Md_fails hP) rc_Md ml_X11_127 mv_Md_fails (by decide) (Nat.le_of_ble_eq_true rfl) (fun v36 h36 hP => ?_)
      exact Rt _ _ _ _ dX11_readsKind_39 hP
  · have hP := hP.2 q11
    refine v_iconst R dX11_readsKind_14 (v := (0 : Int32)) (by decide) ?_
    exact Rt _ _ false _ dX11_readsKind_15 hP
set_option maxRecDepth 100000 in
set_option maxHeartbeats 4000000 in
theorem c_Md_readsTouch {l : Launch} {D : va_G} {cs : Nat → ClassId} {φ : Nat → Nat} {h : Hp} {P : Bool → Hp → Prop} (hP : wp_Md_readsTouch h P) : Ct l D cs φ M_Md_readsTouch [.ref (φ 7)] h (fun rv h2 => ∃ v, rv = some (.int (bI v)) ∧ P v h2) := by
  refine Ct.of (lc := [some (.ref (φ 7)), none]) RX11 2 46 rfl (by decide +kernel) rfl (Nat.le_of_ble_eq_true rfl) rfl rfl (fun V R RI RV => ?_)
  have R : Ru l D cs φ RX11 cX11_readsTouch 2 2 46 V := R
  have Rt : ∀ pc lc v h, decode cX11_readsTouch pc = .ok (.ireturn, 1) → P v h → V pc lc [.int (bI v)] h := fun pc lc v h hd hp => RI pc lc _ .boolean h rfl (bI_n v) hd ⟨v, rfl, hp⟩
  unfold wp_Md_readsTouch at hP
  refine v_aload_0 R dX11_readsTouch_0 ?_
  refine v_iconst R dX11_readsTouch_1 (v := (0 : Int32)) (by decide) ?_
  refine v_aload_0 R dX11_readsTouch_2 ?_
  refine g_Md_readWires R dX11_readsTouch_3 fl_X11_133 ?_
  refine v_iconst R dX11_readsTouch_6 (v := (1 : Int32)) (by decide) ?_
  refine v_isub R dX11_readsTouch_7 ?_
  refine cV2_bw R dX11_readsTouch_8 (c_Md_number hP) rc_Md ml_X11_139 mv_Md_number (by decide) (Nat.le_of_ble_eq_true rfl) (fun v8 h8 hP => ?_)
  refine v_ifb_ne (tgt := 16) R dX11_readsTouch_11 (by decide) (fun q11 => ?_) (fun q11 => ?_)
  · have hP := hP.1 q11
    refine v_aload_0 R dX11_readsTouch_16 ?_
    refine g_Md_readNumber R dX11_readsTouch_17 fl_X11_130 ?_
    refine v_istoreL_1 R dX11_readsTouch_20 (by decide) rfl hP (fun x20 hP => ?_)
    refine v_aload_0 R dX11_readsTouch_21 ?_
    refine v_iconst R dX11_readsTouch_22 (v := (0 : Int32)) (by decide) ?_
    refine v_aload_0 R dX11_readsTouch_23 ?_
    refine g_Md_readWires R dX11_readsTouch_24 fl_X11_133 ?_
    refine v_iconst R dX11_readsTouch_27 (v := (1 : Int32)) (by decide) ?_
    refine v_isub R dX11_readsTouch_28 ?_
    refine cV2_bw R dX11_readsTouch_29 (c_Md_number hP) rc_Md ml_X11_139 mv_Md_number (by decide) (Nat.le_of_ble_eq_true rfl) (fun v29 h29 hP => ?_)
    refine v_ifb_ne (tgt := 37) R dX11_readsTouch_32 (by decide) (fun q32 => ?_) (fun q32 => ?_)
    · have hP := hP.1 q32
      refine v_iload_1 R dX11_readsTouch_37 ?_
      refine v_aload_0 R dX11_readsTouch_38 ?_
      refine g_Md_readNumber R dX11_readsTouch_39 fl_X11_130 ?_
      refine jn_v (fun K => K → V 63 [some (.ref (φ 7)), none] [] h29) ?_ ?_ hP
      · intro hP
        refine v_aload_0 R dX11_readsTouch_63 ?_
        refine v_iconst R dX11_readsTouch_64 (v := (4 : Int32)) (by decide) ?_
        refine v_aload_0 R dX11_readsTouch_65 ?_
        refine g_Md_numberAt R dX11_readsTouch_66 fl_X11_120 ?_
        refine cV2_bw R dX11_readsTouch_69 (c_Md_fails hP) rc_Md ml_X11_127 mv_Md_fails (by decide) (Nat.le_of_ble_eq_true rfl) (fun v69 h69 hP => ?_)
        exact Rt _ _ _ _ dX11_readsTouch_72 hP
      · intro K J63 hP
        refine v_icmp_eq (tgt := 63) R dX11_readsTouch_42 (by decide) (fun q42 => ?_) (fun q42 => ?_)
        · have hP := hP.1 q42
          refine v_wk R [some (.ref (φ 7)), none] ⟨rfl, trivial⟩ ?_
          exact J63 hP
        · have hP := hP.2 q42
          refine v_aload_0 R dX11_readsTouch_45 ?_
          refine g_Md_readTouch R dX11_readsTouch_46 fl_X11_152 ?_
          refine v_iload_1 R dX11_readsTouch_49 ?_
          refine v_aload_0 R dX11_readsTouch_50 ?_
          refine g_Md_readNumber R dX11_readsTouch_51 fl_X11_130 ?_
          refine cS2_ir R dX11_readsTouch_54 (c_Md_pair hP) ml_X11_95 mv_Md_pair (by decide) (Nat.le_of_ble_eq_true rfl) (fun v54 hP => ?_)
          refine cS2_br R dX11_readsTouch_57 (c_Md_has hP) ml_X11_99 mv_Md_has (by decide) (Nat.le_of_ble_eq_true rfl) (fun v57 hP => ?_)
          refine v_ifb_eq (tgt := 73) R dX11_readsTouch_60 (by decide) (fun q60 => ?_) (fun q60 => ?_)
          · have hP := hP.1 q60
            refine v_aload_0 R dX11_readsTouch_73 ?_
            refine v_dup R dX11_readsTouch_74 rfl ?_
            refine g_Md_readTouch R dX11_readsTouch_75 fl_X11_152 ?_
            refine v_iconst R dX11_readsTouch_78 (v := (1 : Int32)) (by decide) ?_
            refine v_iload_1 R dX11_readsTouch_79 ?_
            refine v_aload_0 R dX11_readsTouch_80 ?_
            refine g_Md_readNumber R dX11_readsTouch_81 fl_X11_130 ?_
            refine cS2_ir R dX11_readsTouch_84 (c_Md_pair hP) ml_X11_95 mv_Md_pair (by decide) (Nat.le_of_ble_eq_true rfl) (fun v84 hP => ?_)
            refine v_ishl R dX11_readsTouch_87 ?_
            refine v_ior R dX11_readsTouch_88 ?_
            refine p_Md_readTouch R dX11_readsTouch_89 fl_X11_152 hP (fun h89 hP => ?_)
            refine v_aload_0 R dX11_readsTouch_92 ?_
            refine cV0_bw R dX11_readsTouch_93 (c_Md_ends hP) rc_Md ml_X11_149 mv_Md_ends (by decide) (Nat.le_of_ble_eq_true rfl) (fun v93 h93 hP => ?_)
            exact Rt _ _ _ _ dX11_readsTouch_96 hP
          · have hP := hP.2 q60
            refine v_wk R [some (.ref (φ 7)), none] ⟨rfl, trivial⟩ ?_
            exact J63 hP
    · have hP := hP.2 q32
      refine v_iconst R dX11_readsTouch_35 (v := (0 : Int32)) (by decide) ?_
      exact Rt _ _ false _ dX11_readsTouch_36 hP
  · have hP := hP.2 q11
    refine v_iconst R dX11_readsTouch_14 (v := (0 : Int32)) (by decide) ?_
    exact Rt _ _ false _ dX11_readsTouch_15 hP
set_option maxRecDepth 100000 in
set_option maxHeartbeats 4000000 in
theorem c_Md_readsClause {l : Launch} {D : va_G} {cs : Nat → ClassId} {φ : Nat → Nat} {h : Hp} {P : Bool → Hp → Prop} (hP : wp_Md_readsClause h P) : Ct l D cs φ M_Md_readsClause [.ref (φ 7)] h (fun rv h2 => ∃ v, rv = some (.int (bI v)) ∧ P v h2) := by
  refine Ct.of (lc := [some (.ref (φ 7)), none, none]) RX11 4 86 rfl (by decide +kernel) rfl (Nat.le_of_ble_eq_true rfl) rfl rfl (fun V R RI RV => ?_)
  have R : Ru l D cs φ RX11 cX11_readsClause 3 4 86 V := R
  have Rt : ∀ pc lc v h, decode cX11_readsClause pc = .ok (.ireturn, 1) → P v h → V pc lc [.int (bI v)] h := fun pc lc v h hd hp => RI pc lc _ .boolean h rfl (bI_n v) hd ⟨v, rfl, hp⟩
  unfold wp_Md_readsClause at hP
  refine v_aload_0 R dX11_readsClause_0 ?_
  refine cV0_ir R dX11_readsClause_1 (c_Md_here hP) rc_Md ml_X11_123 mv_Md_here (by decide) (Nat.le_of_ble_eq_true rfl) (fun v1 hP => ?_)
  refine v_istore_1 R dX11_readsClause_4 (by decide) rfl ?_
  refine v_aload_0 R dX11_readsClause_5 ?_
  refine g_Md_readAt R dX11_readsClause_6 fl_X11_111 ?_
  refine v_istoreL_2 R dX11_readsClause_9 (by decide) rfl hP (fun x9 hP => ?_)
  refine v_aload_0 R dX11_readsClause_10 ?_
  refine v_dup R dX11_readsClause_11 rfl ?_
  refine g_Md_readAt R dX11_readsClause_12 fl_X11_111 ?_
  refine v_iconst R dX11_readsClause_15 (v := (1 : Int32)) (by decide) ?_
  refine v_iadd R dX11_readsClause_16 ?_
  refine p_Md_readAt R dX11_readsClause_17 fl_X11_111 hP (fun h17 hP => ?_)
  refine v_aload_0 R dX11_readsClause_20 ?_
  refine g_Md_readWires R dX11_readsClause_21 fl_X11_133 ?_
  refine v_if_ne (tgt := 47) R dX11_readsClause_24 (by decide) (fun q24 => ?_) (fun q24 => ?_)
  · have hP := hP.1 q24
    refine v_iload_1 R dX11_readsClause_47 ?_
    refine v_bipush R dX11_readsClause_48 (v := (107 : Int32)) (by decide) ?_
    refine v_icmp_ne (tgt := 58) R dX11_readsClause_50 (by decide) (fun q50 => ?_) (fun q50 => ?_)
    · have hP := hP.1 q50
      refine v_iload_1 R dX11_readsClause_58 ?_
      refine v_bipush R dX11_readsClause_59 (v := (115 : Int32)) (by decide) ?_
      refine v_icmp_ne (tgt := 69) R dX11_readsClause_61 (by decide) (fun q61 => ?_) (fun q61 => ?_)
      · have hP := hP.1 q61
        refine v_aload_0 R dX11_readsClause_69 ?_
        refine v_iload_1 R dX11_readsClause_70 ?_
        refine v_bipush R dX11_readsClause_71 (v := (99 : Int32)) (by decide) ?_
        refine jn_v (fun K => ∀ (z81_1 : Int32), K z81_1 → V 81 [none, none, some (.int x9)] [.int z81_1, .ref (φ 7)] h17) ?_ ?_ hP
        · intro z81_1 hP
          refine v_iload_2 R dX11_readsClause_81 ?_
          refine cV2_bw R dX11_readsClause_82 (c_Md_fails hP) rc_Md ml_X11_127 mv_Md_fails (by decide) (Nat.le_of_ble_eq_true rfl) (fun v82 h82 hP => ?_)
          exact Rt _ _ _ _ dX11_readsClause_85 hP
        · intro K J81 hP
          refine v_icmp_ne (tgt := 80) R dX11_readsClause_73 (by decide) (fun q73 => ?_) (fun q73 => ?_)
          · have hP := hP.1 q73
            refine v_iconst R dX11_readsClause_80 (v := (1 : Int32)) (by decide) ?_
            refine v_wk R [none, none, some (.int x9)] ⟨rfl, trivial⟩ ?_
            exact J81 (1 : Int32) hP
          · have hP := hP.2 q73
            refine v_iconst R dX11_readsClause_76 (v := (3 : Int32)) (by decide) ?_
            refine v_goto (tgt := 81) R dX11_readsClause_77 (by decide) ?_
            refine v_wk R [none, none, some (.int x9)] ⟨rfl, trivial⟩ ?_
            exact J81 (3 : Int32) hP
      · have hP := hP.2 q61
        refine v_aload_0 R dX11_readsClause_64 ?_
        refine cV0_bw R dX11_readsClause_65 (c_Md_readsTouch hP) rc_Md ml_X11_161 mv_Md_readsTouch (by decide) (Nat.le_of_ble_eq_true rfl) (fun v65 h65 hP => ?_)
        exact Rt _ _ _ _ dX11_readsClause_68 hP
    · have hP := hP.2 q50
      refine v_aload_0 R dX11_readsClause_53 ?_
      refine cV0_bw R dX11_readsClause_54 (c_Md_readsKind hP) rc_Md ml_X11_158 mv_Md_readsKind (by decide) (Nat.le_of_ble_eq_true rfl) (fun v54 h54 hP => ?_)
      exact Rt _ _ _ _ dX11_readsClause_57 hP
  · have hP := hP.2 q24
    refine v_iload_1 R dX11_readsClause_27 ?_
    refine v_bipush R dX11_readsClause_28 (v := (99 : Int32)) (by decide) ?_
    refine v_icmp_ne (tgt := 40) R dX11_readsClause_30 (by decide) (fun q30 => ?_) (fun q30 => ?_)
    · have hP := hP.1 q30
      refine v_aload_0 R dX11_readsClause_40 ?_
      refine v_iconst R dX11_readsClause_41 (v := (1 : Int32)) (by decide) ?_
      refine v_iload_2 R dX11_readsClause_42 ?_
      refine cV2_bw R dX11_readsClause_43 (c_Md_fails hP) rc_Md ml_X11_127 mv_Md_fails (by decide) (Nat.le_of_ble_eq_true rfl) (fun v43 h43 hP => ?_)
      exact Rt _ _ _ _ dX11_readsClause_46 hP
    · have hP := hP.2 q30
      refine v_aload_0 R dX11_readsClause_33 ?_
      refine cV0_bw R dX11_readsClause_34 (c_Md_readsCable hP) rc_Md ml_X11_155 mv_Md_readsCable (by decide) (Nat.le_of_ble_eq_true rfl) (fun v34 h34 hP => ?_)
      refine v_goto (tgt := 46) R dX11_readsClause_37 (by decide) ?_
      exact Rt _ _ _ _ dX11_readsClause_46 hP
set_option maxRecDepth 100000 in
set_option maxHeartbeats 4000000 in
theorem L_Md_readsAll_17 {l : Launch} {D : va_G} {cs : Nat → ClassId} {φ : Nat → Nat} {V : Nat → List (Option Value) → List Value → Hp → Prop} {E : Hp → Prop} (R : Ru l D cs φ RX11 cX11_readsAll 2 5 108 V) (hE : ∀ (h : Hp), E h → V 35 [some (.ref (φ 7)), none] [] h) : ∀ (n : Nat) (a1 : Int32) (h : Hp), lp_Md_readsAll_17 n a1 h E → V 17 [some (.ref (φ 7)), some (.int a1)] [] h := by
  intro n
  induction n with
  | zero => intro a1 h hP; exact hP.elim
  | succ n ih =>
    intro a1 h hP
    unfold lp_Md_readsAll_17 at hP
    refine v_iload_1 R dX11_readsAll_17 ?_
    refine v_iconst R dX11_readsAll_18 (v := (5 : Int32)) (by decide) ?_
    refine v_icmp_ge (tgt := 35) R dX11_readsAll_19 (by decide) (fun q19 => ?_) (fun q19 => ?_)
    · have hP := hP.1 q19
      refine v_wk R [some (.ref (φ 7)), none] ⟨rfl, trivial⟩ ?_
      exact hE h hP
    · have hP := hP.2 q19
      refine v_aload_0 R dX11_readsAll_22 ?_
      refine g_Md_readKind R dX11_readsAll_23 fl_X11_41 ?_
      refine v_iload_1 R dX11_readsAll_26 ?_
      refine v_iconst R dX11_readsAll_27 (v := (0 : Int32)) (by decide) ?_
      obtain ⟨hi28, hP⟩ := hP
      refine v_iastL R dX11_readsAll_28 rfl hi28 hP (fun h28 hP => ?_)
      refine v_iincL_1 R (1 : Int32) dX11_readsAll_29 (by decide) rfl (by decide) hP (fun x29 hP => ?_)
      refine v_goto (tgt := 17) R dX11_readsAll_32 (by decide) ?_
      exact ih x29 h28 hP
set_option maxRecDepth 100000 in
set_option maxHeartbeats 4000000 in
theorem L_Md_readsAll_39 {l : Launch} {D : va_G} {cs : Nat → ClassId} {φ : Nat → Nat} {V : Nat → List (Option Value) → List Value → Hp → Prop} {E : Hp → Prop} {P : Bool → Hp → Prop} (R : Ru l D cs φ RX11 cX11_readsAll 2 5 108 V) (hE : ∀ (h : Hp), E h → V 66 [none, none] [] h) (Rt : ∀ pc lc v h, decode cX11_readsAll pc = .ok (.ireturn, 1) → P v h → V pc lc [.int (bI v)] h) : ∀ (n : Nat)  (h : Hp), lp_Md_readsAll_39 n h E P → V 39 [some (.ref (φ 7)), none] [] h := by
  intro n
  induction n with
  | zero => intro h hP; exact hP.elim
  | succ n ih =>
    intro h hP
    unfold lp_Md_readsAll_39 at hP
    refine v_aload_0 R dX11_readsAll_39 ?_
    refine g_Md_readAt R dX11_readsAll_40 fl_X11_111 ?_
    refine v_aload_0 R dX11_readsAll_43 ?_
    refine g_Md_size R dX11_readsAll_44 fl_X11_107 ?_
    refine v_icmp_ge (tgt := 66) R dX11_readsAll_47 (by decide) (fun q47 => ?_) (fun q47 => ?_)
    · have hP := hP.1 q47
      refine v_wk R [none, none] trivial ?_
      exact hE h hP
    · have hP := hP.2 q47
      refine v_aload_0 R dX11_readsAll_50 ?_
      refine cV0_bw R dX11_readsAll_51 (c_Md_readsClause hP) rc_Md ml_X11_164 mv_Md_readsClause (by decide) (Nat.le_of_ble_eq_true rfl) (fun v51 h51 hP => ?_)
      refine v_ifb_ne (tgt := 59) R dX11_readsAll_54 (by decide) (fun q54 => ?_) (fun q54 => ?_)
      · have hP := hP.1 q54
        refine v_aload_0 R dX11_readsAll_59 ?_
        refine cV0_vw R dX11_readsAll_60 (c_Md_skip hP) rc_Md ml_X11_117 mv_Md_skip (by decide) (Nat.le_of_ble_eq_true rfl) (fun h60 hP => ?_)
        refine v_goto (tgt := 39) R dX11_readsAll_63 (by decide) ?_
        exact ih h60 hP
      · have hP := hP.2 q54
        refine v_iconst R dX11_readsAll_57 (v := (0 : Int32)) (by decide) ?_
        exact Rt _ _ false _ dX11_readsAll_58 hP
set_option maxRecDepth 100000 in
set_option maxHeartbeats 4000000 in
theorem c_Md_readsAll {l : Launch} {D : va_G} {cs : Nat → ClassId} {φ : Nat → Nat} {h : Hp} {P : Bool → Hp → Prop} (hP : wp_Md_readsAll h P) : Ct l D cs φ M_Md_readsAll [.ref (φ 7)] h (fun rv h2 => ∃ v, rv = some (.int (bI v)) ∧ P v h2) := by
  refine Ct.of (lc := [some (.ref (φ 7)), none]) RX11 5 108 rfl (by decide +kernel) rfl (Nat.le_of_ble_eq_true rfl) rfl rfl (fun V R RI RV => ?_)
  have R : Ru l D cs φ RX11 cX11_readsAll 2 5 108 V := R
  have Rt : ∀ pc lc v h, decode cX11_readsAll pc = .ok (.ireturn, 1) → P v h → V pc lc [.int (bI v)] h := fun pc lc v h hd hp => RI pc lc _ .boolean h rfl (bI_n v) hd ⟨v, rfl, hp⟩
  unfold wp_Md_readsAll at hP
  refine v_aload_0 R dX11_readsAll_0 ?_
  refine v_iconst R dX11_readsAll_1 (v := (0 : Int32)) (by decide) ?_
  refine p_Md_readAt R dX11_readsAll_2 fl_X11_111 hP (fun h2 hP => ?_)
  refine v_aload_0 R dX11_readsAll_5 ?_
  refine v_iconst R dX11_readsAll_6 (v := (0 : Int32)) (by decide) ?_
  refine p_Md_readWires R dX11_readsAll_7 fl_X11_133 hP (fun h7 hP => ?_)
  refine v_aload_0 R dX11_readsAll_10 ?_
  refine v_iconst R dX11_readsAll_11 (v := (0 : Int32)) (by decide) ?_
  refine p_Md_readTouch R dX11_readsAll_12 fl_X11_152 hP (fun h12 hP => ?_)
  refine v_iconst R dX11_readsAll_15 (v := (0 : Int32)) (by decide) ?_
  refine v_istore_1 R dX11_readsAll_16 (by decide) rfl ?_
  obtain ⟨n17, hP⟩ := hP
  refine L_Md_readsAll_17 R ?_ n17 _ _ hP
  intro h17x hP
  refine v_aload_0 R dX11_readsAll_35 ?_
  refine cV0_vw R dX11_readsAll_36 (c_Md_skip hP) rc_Md ml_X11_117 mv_Md_skip (by decide) (Nat.le_of_ble_eq_true rfl) (fun h36 hP => ?_)
  obtain ⟨n39, hP⟩ := hP
  refine L_Md_readsAll_39 R ?_ Rt n39 _ hP
  intro h39x hP
  refine v_iconst R dX11_readsAll_66 (v := (1 : Int32)) (by decide) ?_
  exact Rt _ _ true _ dX11_readsAll_67 hP
set_option maxRecDepth 100000 in
set_option maxHeartbeats 4000000 in
theorem L_Md_cable_53 {l : Launch} {D : va_G} {cs : Nat → ClassId} {φ : Nat → Nat} {V : Nat → List (Option Value) → List Value → Hp → Prop} {E : Hp → Prop} (R : Ru l D cs φ RX11 cX11_cable 3 6 129 V) (hE : ∀ (h : Hp), E h → V 102 [some (.ref (φ 7)), none, none] [] h) : ∀ (n : Nat) (a2 : Int32) (h : Hp), lp_Md_cable_53 n a2 h E → V 53 [some (.ref (φ 7)), none, some (.int a2)] [] h := by
  intro n
  induction n with
  | zero => intro a2 h hP; exact hP.elim
  | succ n ih =>
    intro a2 h hP
    unfold lp_Md_cable_53 at hP
    refine v_iload_2 R dX11_cable_53 ?_
    refine v_iconst R dX11_cable_54 (v := (5 : Int32)) (by decide) ?_
    refine v_icmp_ge (tgt := 102) R dX11_cable_55 (by decide) (fun q55 => ?_) (fun q55 => ?_)
    · have hP := hP.1 q55
      refine v_wk R [some (.ref (φ 7)), none, none] ⟨rfl, trivial⟩ ?_
      exact hE h hP
    · have hP := hP.2 q55
      refine v_aload_0 R dX11_cable_58 ?_
      refine g_Md_truly R dX11_cable_59 fl_X11_7 ?_
      refine v_iload_2 R dX11_cable_62 ?_
      refine v_aload_0 R dX11_cable_63 ?_
      refine g_Md_readTruly R dX11_cable_64 fl_X11_38 ?_
      refine v_iload_2 R dX11_cable_67 ?_
      obtain ⟨hi68, hP⟩ := hP
      refine v_iald R dX11_cable_68 rfl hi68 ?_
      obtain ⟨hi69, hP⟩ := hP
      refine v_iastL R dX11_cable_69 rfl hi69 hP (fun h69 hP => ?_)
      refine v_aload_0 R dX11_cable_70 ?_
      refine g_Md_kindOf R dX11_cable_71 fl_X11_13 ?_
      refine v_iload_2 R dX11_cable_74 ?_
      refine v_aload_0 R dX11_cable_75 ?_
      refine g_Md_readKind R dX11_cable_76 fl_X11_41 ?_
      refine v_iload_2 R dX11_cable_79 ?_
      obtain ⟨hi80, hP⟩ := hP
      refine v_iald R dX11_cable_80 rfl hi80 ?_
      obtain ⟨hi81, hP⟩ := hP
      refine v_iastL R dX11_cable_81 rfl hi81 hP (fun h81 hP => ?_)
      refine v_aload_0 R dX11_cable_82 ?_
      refine g_Md_near R dX11_cable_83 fl_X11_16 ?_
      refine v_iload_2 R dX11_cable_86 ?_
      refine v_iconst R dX11_cable_87 (v := (0 : Int32)) (by decide) ?_
      obtain ⟨hi88, hP⟩ := hP
      refine v_iastL R dX11_cable_88 rfl hi88 hP (fun h88 hP => ?_)
      refine v_aload_0 R dX11_cable_89 ?_
      refine g_Md_far R dX11_cable_90 fl_X11_19 ?_
      refine v_iload_2 R dX11_cable_93 ?_
      refine v_iconst R dX11_cable_94 (v := (0 : Int32)) (by decide) ?_
      obtain ⟨hi95, hP⟩ := hP
      refine v_iastL R dX11_cable_95 rfl hi95 hP (fun h95 hP => ?_)
      refine v_iincL_2 R (1 : Int32) dX11_cable_96 (by decide) rfl (by decide) hP (fun x96 hP => ?_)
      refine v_goto (tgt := 53) R dX11_cable_99 (by decide) ?_
      exact ih x96 h95 hP
set_option maxRecDepth 100000 in
set_option maxHeartbeats 4000000 in
theorem c_Md_cable {l : Launch} {D : va_G} {cs : Nat → ClassId} {φ : Nat → Nat} {h : Hp} {P : Int32 → Hp → Prop} (hP : wp_Md_cable h P) : Ct l D cs φ M_Md_cable [.ref (φ 7)] h (fun rv h2 => ∃ v, rv = some (.int v) ∧ P v h2) := by
  refine Ct.of (lc := [some (.ref (φ 7)), none, none]) RX11 6 129 rfl (by decide +kernel) rfl (Nat.le_of_ble_eq_true rfl) rfl rfl (fun V R RI RV => ?_)
  have R : Ru l D cs φ RX11 cX11_cable 3 6 129 V := R
  have Rt : ∀ pc lc v h, decode cX11_cable pc = .ok (.ireturn, 1) → P v h → V pc lc [.int v] h := fun pc lc v h hd hp => RI pc lc _ .int h rfl rfl hd ⟨v, rfl, hp⟩
  unfold wp_Md_cable at hP
  refine v_aload_0 R dX11_cable_0 ?_
  refine cV0_bw R dX11_cable_1 (c_Md_readsAll hP) rc_Md ml_X11_167 mv_Md_readsAll (by decide) (Nat.le_of_ble_eq_true rfl) (fun v1 h1 hP => ?_)
  refine v_istore_1 R dX11_cable_4 (by decide) rfl ?_
  refine v_aload_0 R dX11_cable_5 ?_
  refine v_iconst R dX11_cable_6 (v := (0 : Int32)) (by decide) ?_
  refine p_Md_size R dX11_cable_7 fl_X11_107 hP (fun h7 hP => ?_)
  refine v_iload_1 R dX11_cable_10 ?_
  refine v_ifb_ne (tgt := 30) R dX11_cable_11 (by decide) (fun q11 => ?_) (fun q11 => ?_)
  · have hP := hP.1 q11
    refine v_aload_0 R dX11_cable_30 ?_
    refine v_iconst R dX11_cable_31 (v := (-1 : Int32)) (by decide) ?_
    refine p_Md_faultAt R dX11_cable_32 fl_X11_34 hP (fun h32 hP => ?_)
    refine v_aload_0 R dX11_cable_35 ?_
    refine v_aload_0 R dX11_cable_36 ?_
    refine g_Md_readWires R dX11_cable_37 fl_X11_133 ?_
    refine p_Md_wires R dX11_cable_40 fl_X11_81 hP (fun h40 hP => ?_)
    refine v_aload_0 R dX11_cable_43 ?_
    refine v_aload_0 R dX11_cable_44 ?_
    refine g_Md_readTouch R dX11_cable_45 fl_X11_152 ?_
    refine p_Md_touching R dX11_cable_48 fl_X11_92 hP (fun h48 hP => ?_)
    refine v_iconst R dX11_cable_51 (v := (0 : Int32)) (by decide) ?_
    refine v_istore_2 R dX11_cable_52 (by decide) rfl ?_
    refine v_wk R [some (.ref (φ 7)), none, some (.int (0 : Int32))] ⟨rfl, ⟨rfl, trivial⟩⟩ ?_
    obtain ⟨n53, hP⟩ := hP
    refine L_Md_cable_53 R ?_ n53 _ _ hP
    intro h53x hP
    refine v_aload_0 R dX11_cable_102 ?_
    refine v_iconst R dX11_cable_103 (v := (0 : Int32)) (by decide) ?_
    refine p_Md_place R dX11_cable_104 fl_X11_170 hP (fun h104 hP => ?_)
    refine v_aload_0 R dX11_cable_107 ?_
    refine v_iconst R dX11_cable_108 (v := (0 : Int32)) (by decide) ?_
    refine p_Md_hour R dX11_cable_109 fl_X11_173 hP (fun h109 hP => ?_)
    refine v_aload_0 R dX11_cable_112 ?_
    refine v_iconst R dX11_cable_113 (v := (0 : Int32)) (by decide) ?_
    refine p_Md_crossed R dX11_cable_114 fl_X11_176 hP (fun h114 hP => ?_)
    refine v_aload_0 R dX11_cable_117 ?_
    refine v_iconst R dX11_cable_118 (v := (0 : Int32)) (by decide) ?_
    refine p_Md_tests R dX11_cable_119 fl_X11_179 hP (fun h119 hP => ?_)
    refine v_aload_0 R dX11_cable_122 ?_
    refine v_iconst R dX11_cable_123 (v := (0 : Int32)) (by decide) ?_
    refine p_Md_seenMany R dX11_cable_124 fl_X11_182 hP (fun h124 hP => ?_)
    refine v_aload_0 R dX11_cable_127 ?_
    refine v_iconst R dX11_cable_128 (v := (0 : Int32)) (by decide) ?_
    refine p_Md_bookMany R dX11_cable_129 fl_X11_185 hP (fun h129 hP => ?_)
    refine v_aload_0 R dX11_cable_132 ?_
    refine v_iconst R dX11_cable_133 (v := (0 : Int32)) (by decide) ?_
    refine p_Md_undoMany R dX11_cable_134 fl_X11_188 hP (fun h134 hP => ?_)
    refine v_aload_0 R dX11_cable_137 ?_
    refine g_Md_isKept R dX11_cable_138 fl_X11_54 ?_
    refine v_iconst R dX11_cable_141 (v := (0 : Int32)) (by decide) ?_
    refine v_iconst R dX11_cable_142 (v := (0 : Int32)) (by decide) ?_
    obtain ⟨hi143, hP⟩ := hP
    refine v_iastL R dX11_cable_143 rfl hi143 hP (fun h143 hP => ?_)
    refine v_aload_0 R dX11_cable_144 ?_
    refine g_Md_isKept R dX11_cable_145 fl_X11_54 ?_
    refine v_iconst R dX11_cable_148 (v := (1 : Int32)) (by decide) ?_
    refine v_iconst R dX11_cable_149 (v := (0 : Int32)) (by decide) ?_
    obtain ⟨hi150, hP⟩ := hP
    refine v_iastL R dX11_cable_150 rfl hi150 hP (fun h150 hP => ?_)
    refine v_aload_0 R dX11_cable_151 ?_
    refine g_Md_wires R dX11_cable_152 fl_X11_81 ?_
    exact Rt _ _ _ _ dX11_cable_155 hP
  · have hP := hP.2 q11
    refine v_aload_0 R dX11_cable_14 ?_
    refine v_aload_0 R dX11_cable_15 ?_
    refine g_Md_readAt R dX11_cable_16 fl_X11_111 ?_
    refine p_Md_faultAt R dX11_cable_19 fl_X11_34 hP (fun h19 hP => ?_)
    refine v_bipush R dX11_cable_22 (v := (-10 : Int32)) (by decide) ?_
    refine v_aload_0 R dX11_cable_24 ?_
    refine g_Md_readFault R dX11_cable_25 fl_X11_114 ?_
    refine v_isub R dX11_cable_28 ?_
    exact Rt _ _ _ _ dX11_cable_29 hP
set_option maxRecDepth 100000 in
set_option maxHeartbeats 4000000 in
theorem c_Md_fault {l : Launch} {D : va_G} {cs : Nat → ClassId} {φ : Nat → Nat} {h : Hp} {P : Int32 → Prop} (hP : wp_Md_fault h P) : Ct l D cs φ M_Md_fault [.ref (φ 7)] h (fun rv h2 => ∃ v, rv = some (.int v) ∧ h2 = h ∧ P v) := by
  refine Ct.of (lc := [some (.ref (φ 7))]) RX11 0 0 rfl (by decide +kernel) rfl (Nat.le_of_ble_eq_true rfl) rfl rfl (fun V R RI RV => ?_)
  have R : Ru l D cs φ RX11 cX11_fault 1 0 0 V := R
  have Rt : ∀ pc lc v, decode cX11_fault pc = .ok (.ireturn, 1) → P v → V pc lc [.int v] h := fun pc lc v hd hp => RI pc lc _ .int h rfl rfl hd ⟨v, rfl, rfl, hp⟩
  unfold wp_Md_fault at hP
  refine v_aload_0 R dX11_fault_0 ?_
  refine g_Md_faultAt R dX11_fault_1 fl_X11_34 ?_
  exact Rt _ _ _ dX11_fault_4 hP
set_option maxRecDepth 100000 in
set_option maxHeartbeats 4000000 in
theorem c_Md_passesBy {l : Launch} {D : va_G} {cs : Nat → ClassId} {φ : Nat → Nat} {p0 p1 : Int32} {h : Hp} {P : Bool → Prop} (hP : wp_Md_passesBy p0 p1 P) : Ct l D cs φ M_Md_passesBy [.int p0, .int p1] h (fun rv h2 => ∃ v, rv = some (.int (bI v)) ∧ h2 = h ∧ P v) := by
  refine Ct.of (lc := [some (.int p0), some (.int p1)]) RX11 0 0 rfl (by decide +kernel) rfl (Nat.le_of_ble_eq_true rfl) rfl rfl (fun V R RI RV => ?_)
  have R : Ru l D cs φ RX11 cX11_passesBy 2 0 0 V := R
  have Rt : ∀ pc lc v, decode cX11_passesBy pc = .ok (.ireturn, 1) → P v → V pc lc [.int (bI v)] h := fun pc lc v hd hp => RI pc lc _ .boolean h rfl (bI_n v) hd ⟨v, rfl, rfl, hp⟩
  unfold wp_Md_passesBy at hP
  refine v_iload_0 R dX11_passesBy_0 ?_
  refine jn_v (fun K => K → V 20 [none, none] [] h) ?_ ?_ hP
  · intro hP
    refine v_iconst R dX11_passesBy_20 (v := (1 : Int32)) (by decide) ?_
    refine v_goto (tgt := 25) R dX11_passesBy_21 (by decide) ?_
    exact Rt _ _ true dX11_passesBy_25 hP
  · intro K J20 hP
    refine v_if_eq (tgt := 20) R dX11_passesBy_1 (by decide) (fun q1 => ?_) (fun q1 => ?_)
    · have hP := hP.1 q1
      refine v_wk R [none, none] trivial ?_
      exact J20 hP
    · have hP := hP.2 q1
      refine v_iload_0 R dX11_passesBy_4 ?_
      refine v_iconst R dX11_passesBy_5 (v := (2 : Int32)) (by decide) ?_
      refine v_icmp_eq (tgt := 20) R dX11_passesBy_6 (by decide) (fun q6 => ?_) (fun q6 => ?_)
      · have hP := hP.1 q6
        refine v_wk R [none, none] trivial ?_
        exact J20 hP
      · have hP := hP.2 q6
        refine v_iload_0 R dX11_passesBy_9 ?_
        refine v_iconst R dX11_passesBy_10 (v := (3 : Int32)) (by decide) ?_
        refine v_icmp_ne (tgt := 24) R dX11_passesBy_11 (by decide) (fun q11 => ?_) (fun q11 => ?_)
        · have hP := hP.1 q11
          refine v_iconst R dX11_passesBy_24 (v := (0 : Int32)) (by decide) ?_
          exact Rt _ _ false dX11_passesBy_25 hP
        · have hP := hP.2 q11
          refine v_iload_1 R dX11_passesBy_14 ?_
          refine v_iconst R dX11_passesBy_15 (v := (2 : Int32)) (by decide) ?_
          refine v_irem2 R dX11_passesBy_16 (by decide) ?_
          refine v_if_ne (tgt := 24) R dX11_passesBy_17 (by decide) (fun q17 => ?_) (fun q17 => ?_)
          · have hP := hP.1 q17
            refine v_iconst R dX11_passesBy_24 (v := (0 : Int32)) (by decide) ?_
            exact Rt _ _ false dX11_passesBy_25 hP
          · have hP := hP.2 q17
            refine v_wk R [none, none] trivial ?_
            exact J20 hP
set_option maxRecDepth 100000 in
set_option maxHeartbeats 4000000 in
theorem L_Md_farEndOf_5 {l : Launch} {D : va_G} {cs : Nat → ClassId} {φ : Nat → Nat} {V : Nat → List (Option Value) → List Value → Hp → Prop} {e1 : Nat} {a2 : Int32} {h : Hp} {E : Int32 → Prop} (R : Ru l D cs φ RX11 cX11_farEndOf 5 0 0 V) (hk_e1 : kd e1 = 12) (hE : ∀ (a3 : Int32), E a3 → V 35 [none, none, none, some (.int a3), none] [] h) : ∀ (n : Nat) (a3 : Int32) (a4 : Int32), lp_Md_farEndOf_5 n e1 a2 a3 a4 h E → V 5 [some (.ref (φ 7)), some (.ref (φ e1)), some (.int a2), some (.int a3), some (.int a4)] [] h := by
  intro n
  induction n with
  | zero => intro a3 a4 hP; exact hP.elim
  | succ n ih =>
    intro a3 a4 hP
    unfold lp_Md_farEndOf_5 at hP
    refine v_iload_4 R dX11_farEndOf_5 ?_
    refine v_aload_0 R dX11_farEndOf_7 ?_
    refine g_Md_wires R dX11_farEndOf_8 fl_X11_81 ?_
    refine v_icmp_ge (tgt := 35) R dX11_farEndOf_11 (by decide) (fun q11 => ?_) (fun q11 => ?_)
    · have hP := hP.1 q11
      refine v_wk R [none, none, none, some (.int a3), none] ⟨rfl, trivial⟩ ?_
      exact hE a3 hP
    · have hP := hP.2 q11
      refine v_aload_1 R dX11_farEndOf_14 ?_
      refine v_iload_4 R dX11_farEndOf_15 ?_
      obtain ⟨hi17, hP⟩ := hP
      refine v_iald R dX11_farEndOf_17 hk_e1 hi17 ?_
      refine v_iload_2 R dX11_farEndOf_18 ?_
      refine jn_v (fun K => ∀ (z28_0 : Int32), K z28_0 → V 28 [some (.ref (φ 7)), some (.ref (φ e1)), some (.int a2), none, some (.int a4)] [.int z28_0] h) ?_ ?_ hP
      · intro z28_0 hP
        refine v_istore_3 R dX11_farEndOf_28 (by decide) rfl ?_
        refine v_iincL_4 R (1 : Int32) dX11_farEndOf_29 (by decide) rfl (by decide) hP (fun x29 hP => ?_)
        refine v_goto (tgt := 5) R dX11_farEndOf_32 (by decide) ?_
        exact ih z28_0 x29 hP
      · intro K J28 hP
        refine v_icmp_ne (tgt := 27) R dX11_farEndOf_19 (by decide) (fun q19 => ?_) (fun q19 => ?_)
        · have hP := hP.1 q19
          refine v_iload_3 R dX11_farEndOf_27 ?_
          refine v_wk R [some (.ref (φ 7)), some (.ref (φ e1)), some (.int a2), none, some (.int a4)] ⟨rfl, ⟨rfl, ⟨rfl, ⟨rfl, trivial⟩⟩⟩⟩ ?_
          exact J28 a3 hP
        · have hP := hP.2 q19
          refine v_iload_4 R dX11_farEndOf_22 ?_
          refine v_goto (tgt := 28) R dX11_farEndOf_24 (by decide) ?_
          refine v_wk R [some (.ref (φ 7)), some (.ref (φ e1)), some (.int a2), none, some (.int a4)] ⟨rfl, ⟨rfl, ⟨rfl, ⟨rfl, trivial⟩⟩⟩⟩ ?_
          exact J28 a4 hP
set_option maxRecDepth 100000 in
set_option maxHeartbeats 4000000 in
theorem c_Md_farEndOf {l : Launch} {D : va_G} {cs : Nat → ClassId} {φ : Nat → Nat} {c0 : Nat} {p1 : Int32} {h : Hp} {P : Int32 → Prop} (hk_c0 : kd c0 = 12) (hP : wp_Md_farEndOf c0 p1 h P) : Ct l D cs φ M_Md_farEndOf [.ref (φ 7), .ref (φ c0), .int p1] h (fun rv h2 => ∃ v, rv = some (.int v) ∧ h2 = h ∧ P v) := by
  refine Ct.of (lc := [some (.ref (φ 7)), some (.ref (φ c0)), some (.int p1), none, none]) RX11 0 0 rfl (by decide +kernel) rfl (Nat.le_of_ble_eq_true rfl) rfl rfl (fun V R RI RV => ?_)
  have R : Ru l D cs φ RX11 cX11_farEndOf 5 0 0 V := R
  have Rt : ∀ pc lc v, decode cX11_farEndOf pc = .ok (.ireturn, 1) → P v → V pc lc [.int v] h := fun pc lc v hd hp => RI pc lc _ .int h rfl rfl hd ⟨v, rfl, rfl, hp⟩
  unfold wp_Md_farEndOf at hP
  refine v_iconst R dX11_farEndOf_0 (v := (-1 : Int32)) (by decide) ?_
  refine v_istore_3 R dX11_farEndOf_1 (by decide) rfl ?_
  refine v_iconst R dX11_farEndOf_2 (v := (0 : Int32)) (by decide) ?_
  refine v_istore_4 R dX11_farEndOf_3 (by decide) rfl ?_
  obtain ⟨n5, hP⟩ := hP
  refine L_Md_farEndOf_5 R hk_c0 ?_ n5 _ _ hP
  intro w5_3 hP
  refine v_iload_3 R dX11_farEndOf_35 ?_
  exact Rt _ _ _ dX11_farEndOf_36 hP
set_option maxRecDepth 100000 in
set_option maxHeartbeats 4000000 in
theorem c_Md_together {l : Launch} {D : va_G} {cs : Nat → ClassId} {φ : Nat → Nat} {p0 p1 : Int32} {h : Hp} {P : Int32 → Prop} (hP : wp_Md_together p0 p1 P) : Ct l D cs φ M_Md_together [.int p0, .int p1] h (fun rv h2 => ∃ v, rv = some (.int v) ∧ h2 = h ∧ P v) := by
  refine Ct.of (lc := [some (.int p0), some (.int p1)]) RX11 0 0 rfl (by decide +kernel) rfl (Nat.le_of_ble_eq_true rfl) rfl rfl (fun V R RI RV => ?_)
  have R : Ru l D cs φ RX11 cX11_together 2 0 0 V := R
  have Rt : ∀ pc lc v, decode cX11_together pc = .ok (.ireturn, 1) → P v → V pc lc [.int v] h := fun pc lc v hd hp => RI pc lc _ .int h rfl rfl hd ⟨v, rfl, rfl, hp⟩
  unfold wp_Md_together at hP
  refine v_iload_0 R dX11_together_0 ?_
  refine v_iload_1 R dX11_together_1 ?_
  refine v_iand R dX11_together_2 ?_
  refine v_if_ne (tgt := 10) R dX11_together_3 (by decide) (fun q3 => ?_) (fun q3 => ?_)
  · have hP := hP.1 q3
    refine v_iload_0 R dX11_together_10 ?_
    refine v_iload_1 R dX11_together_11 ?_
    refine v_ior R dX11_together_12 ?_
    exact Rt _ _ _ dX11_together_13 hP
  · have hP := hP.2 q3
    refine v_iload_0 R dX11_together_6 ?_
    refine v_goto (tgt := 13) R dX11_together_7 (by decide) ?_
    exact Rt _ _ _ dX11_together_13 hP
