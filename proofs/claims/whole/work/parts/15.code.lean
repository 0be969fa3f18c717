set_option maxRecDepth 100000 in
set_option maxHeartbeats 4000000 in
theorem L_Md_nextOrder_7 {l : Launch} {D : va_G} {cs : Nat → ClassId} {φ : Nat → Nat} {V : Nat → List (Option Value) → List Value → Hp → Prop} {h : Hp} {E : Int32 → Prop} (R : Ru l D cs φ RX11 cX11_nextOrder 7 0 0 V) (hE : ∀ (a1 : Int32), E a1 → V 34 [some (.ref (φ 7)), some (.int a1), none, none, none, none, none] [] h) : ∀ (n : Nat) (a1 : Int32), lp_Md_nextOrder_7 n a1 h E → V 7 [some (.ref (φ 7)), some (.int a1), none, none, none, none, none] [] h := by
  intro n
  induction n with
  | zero => intro a1 hP; exact hP.elim
  | succ n ih =>
    intro a1 hP
    unfold lp_Md_nextOrder_7 at hP
    refine v_iload_1 R dX11_nextOrder_7 ?_
    refine v_if_lt (tgt := 34) R dX11_nextOrder_8 (by decide) (fun q8 => ?_) (fun q8 => ?_)
    · have hP := hP.1 q8
      exact hE a1 hP
    · have hP := hP.2 q8
      refine v_aload_0 R dX11_nextOrder_11 ?_
      refine g_Md_order R dX11_nextOrder_12 fl_X11_57 ?_
      refine v_iload_1 R dX11_nextOrder_15 ?_
      obtain ⟨hi16, hP⟩ := hP
      refine v_iald R dX11_nextOrder_16 rfl hi16 ?_
      refine v_aload_0 R dX11_nextOrder_17 ?_
      refine g_Md_order R dX11_nextOrder_18 fl_X11_57 ?_
      refine v_iload_1 R dX11_nextOrder_21 ?_
      refine v_iconst R dX11_nextOrder_22 (v := (1 : Int32)) (by decide) ?_
      refine v_iadd R dX11_nextOrder_23 ?_
      obtain ⟨hi24, hP⟩ := hP
      refine v_iald R dX11_nextOrder_24 rfl hi24 ?_
      refine v_icmp_le (tgt := 34) R dX11_nextOrder_25 (by decide) (fun q25 => ?_) (fun q25 => ?_)
      · have hP := hP.1 q25
        exact hE a1 hP
      · have hP := hP.2 q25
        refine v_iincL_1 R (-1 : Int32) dX11_nextOrder_28 (by decide) rfl (by decide) hP (fun x28 hP => ?_)
        refine v_goto (tgt := 7) R dX11_nextOrder_31 (by decide) ?_
        exact ih x28 hP
set_option maxRecDepth 100000 in
set_option maxHeartbeats 4000000 in
theorem L_Md_nextOrder_47 {l : Launch} {D : va_G} {cs : Nat → ClassId} {φ : Nat → Nat} {V : Nat → List (Option Value) → List Value → Hp → Prop} {a1 : Int32} {h : Hp} {E : Int32 → Prop} (R : Ru l D cs φ RX11 cX11_nextOrder 7 0 0 V) (hE : ∀ (a2 : Int32), E a2 → V 68 [some (.ref (φ 7)), some (.int a1), some (.int a2), none, none, none, none] [] h) : ∀ (n : Nat) (a2 : Int32), lp_Md_nextOrder_47 n a1 a2 h E → V 47 [some (.ref (φ 7)), some (.int a1), some (.int a2), none, none, none, none] [] h := by
  intro n
  induction n with
  | zero => intro a2 hP; exact hP.elim
  | succ n ih =>
    intro a2 hP
    unfold lp_Md_nextOrder_47 at hP
    refine v_aload_0 R dX11_nextOrder_47 ?_
    refine g_Md_order R dX11_nextOrder_48 fl_X11_57 ?_
    refine v_iload_2 R dX11_nextOrder_51 ?_
    obtain ⟨hi52, hP⟩ := hP
    refine v_iald R dX11_nextOrder_52 rfl hi52 ?_
    refine v_aload_0 R dX11_nextOrder_53 ?_
    refine g_Md_order R dX11_nextOrder_54 fl_X11_57 ?_
    refine v_iload_1 R dX11_nextOrder_57 ?_
    obtain ⟨hi58, hP⟩ := hP
    refine v_iald R dX11_nextOrder_58 rfl hi58 ?_
    refine v_icmp_ge (tgt := 68) R dX11_nextOrder_59 (by decide) (fun q59 => ?_) (fun q59 => ?_)
    · have hP := hP.1 q59
      exact hE a2 hP
    · have hP := hP.2 q59
      refine v_iincL_2 R (-1 : Int32) dX11_nextOrder_62 (by decide) rfl (by decide) hP (fun x62 hP => ?_)
      refine v_goto (tgt := 47) R dX11_nextOrder_65 (by decide) ?_
      exact ih x62 hP
set_option maxRecDepth 100000 in
set_option maxHeartbeats 4000000 in
theorem L_Md_nextOrder_107 {l : Launch} {D : va_G} {cs : Nat → ClassId} {φ : Nat → Nat} {V : Nat → List (Option Value) → List Value → Hp → Prop} {E : Hp → Prop} (R : Ru l D cs φ RX11 cX11_nextOrder 7 0 0 V) (hE : ∀ (h : Hp), E h → V 155 [none, none, none, none, none, none, none] [] h) : ∀ (n : Nat) (a4 : Int32) (a5 : Int32) (h : Hp), lp_Md_nextOrder_107 n a4 a5 h E → V 107 [some (.ref (φ 7)), none, none, none, some (.int a4), some (.int a5), none] [] h := by
  intro n
  induction n with
  | zero => intro a4 a5 h hP; exact hP.elim
  | succ n ih =>
    intro a4 a5 h hP
    unfold lp_Md_nextOrder_107 at hP
    refine v_iload_5 R dX11_nextOrder_107 ?_
    refine v_iload_4 R dX11_nextOrder_109 ?_
    refine v_icmp_ge (tgt := 155) R dX11_nextOrder_111 (by decide) (fun q111 => ?_) (fun q111 => ?_)
    · have hP := hP.1 q111
      refine v_wk R [none, none, none, none, none, none, none] trivial ?_
      exact hE h hP
    · have hP := hP.2 q111
      refine v_aload_0 R dX11_nextOrder_114 ?_
      refine g_Md_order R dX11_nextOrder_115 fl_X11_57 ?_
      refine v_iload_5 R dX11_nextOrder_118 ?_
      obtain ⟨hi120, hP⟩ := hP
      refine v_iald R dX11_nextOrder_120 rfl hi120 ?_
      refine v_istoreL_6 R dX11_nextOrder_121 (by decide) rfl hP (fun x121 hP => ?_)
      refine v_aload_0 R dX11_nextOrder_123 ?_
      refine g_Md_order R dX11_nextOrder_124 fl_X11_57 ?_
      refine v_iload_5 R dX11_nextOrder_127 ?_
      refine v_aload_0 R dX11_nextOrder_129 ?_
      refine g_Md_order R dX11_nextOrder_130 fl_X11_57 ?_
      refine v_iload_4 R dX11_nextOrder_133 ?_
      obtain ⟨hi135, hP⟩ := hP
      refine v_iald R dX11_nextOrder_135 rfl hi135 ?_
      obtain ⟨hi136, hP⟩ := hP
      refine v_iastL R dX11_nextOrder_136 rfl hi136 hP (fun h136 hP => ?_)
      refine v_aload_0 R dX11_nextOrder_137 ?_
      refine g_Md_order R dX11_nextOrder_138 fl_X11_57 ?_
      refine v_iload_4 R dX11_nextOrder_141 ?_
      refine v_iload_6 R dX11_nextOrder_143 ?_
      obtain ⟨hi145, hP⟩ := hP
      refine v_iastL R dX11_nextOrder_145 rfl hi145 hP (fun h145 hP => ?_)
      refine v_iincL_4 R (-1 : Int32) dX11_nextOrder_146 (by decide) rfl (by decide) hP (fun x146 hP => ?_)
      refine v_iincL_5 R (1 : Int32) dX11_nextOrder_149 (by decide) rfl (by decide) hP (fun x149 hP => ?_)
      refine v_goto (tgt := 107) R dX11_nextOrder_152 (by decide) ?_
      refine v_wk R [some (.ref (φ 7)), none, none, none, some (.int x146), some (.int x149), none] ⟨rfl, ⟨rfl, ⟨rfl, trivial⟩⟩⟩ ?_
      exact ih x146 x149 h145 hP
set_option maxRecDepth 100000 in
set_option maxHeartbeats 4000000 in
theorem c_Md_nextOrder {l : Launch} {D : va_G} {cs : Nat → ClassId} {φ : Nat → Nat} {h : Hp} {P : Bool → Hp → Prop} (hP : wp_Md_nextOrder h P) : Ct l D cs φ M_Md_nextOrder [.ref (φ 7)] h (fun rv h2 => ∃ v, rv = some (.int (bI v)) ∧ P v h2) := by
  refine Ct.of (lc := [some (.ref (φ 7)), none, none, none, none, none, none]) RX11 0 0 rfl (by decide +kernel) rfl (Nat.le_of_ble_eq_true rfl) rfl rfl (fun V R RI RV => ?_)
  have R : Ru l D cs φ RX11 cX11_nextOrder 7 0 0 V := R
  have Rt : ∀ pc lc v h, decode cX11_nextOrder pc = .ok (.ireturn, 1) → P v h → V pc lc [.int (bI v)] h := fun pc lc v h hd hp => RI pc lc _ .boolean h rfl (bI_n v) hd ⟨v, rfl, hp⟩
  unfold wp_Md_nextOrder at hP
  refine v_aload_0 R dX11_nextOrder_0 ?_
  refine g_Md_wires R dX11_nextOrder_1 fl_X11_81 ?_
  refine v_iconst R dX11_nextOrder_4 (v := (2 : Int32)) (by decide) ?_
  refine v_isub R dX11_nextOrder_5 ?_
  refine v_istoreL_1 R dX11_nextOrder_6 (by decide) rfl hP (fun x6 hP => ?_)
  obtain ⟨n7, hP⟩ := hP
  refine L_Md_nextOrder_7 R ?_ n7 _ hP
  intro w7_1 hP
  refine v_iload_1 R dX11_nextOrder_34 ?_
  refine v_if_ge (tgt := 40) R dX11_nextOrder_35 (by decide) (fun q35 => ?_) (fun q35 => ?_)
  · have hP := hP.1 q35
    refine v_aload_0 R dX11_nextOrder_40 ?_
    refine g_Md_wires R dX11_nextOrder_41 fl_X11_81 ?_
    refine v_iconst R dX11_nextOrder_44 (v := (1 : Int32)) (by decide) ?_
    refine v_isub R dX11_nextOrder_45 ?_
    refine v_istoreL_2 R dX11_nextOrder_46 (by decide) rfl hP (fun x46 hP => ?_)
    obtain ⟨n47, hP⟩ := hP
    refine L_Md_nextOrder_47 R ?_ n47 _ hP
    intro w47_2 hP
    refine v_aload_0 R dX11_nextOrder_68 ?_
    refine g_Md_order R dX11_nextOrder_69 fl_X11_57 ?_
    refine v_iload_1 R dX11_nextOrder_72 ?_
    obtain ⟨hi73, hP⟩ := hP
    refine v_iald R dX11_nextOrder_73 rfl hi73 ?_
    refine v_istoreL_3 R dX11_nextOrder_74 (by decide) rfl hP (fun x74 hP => ?_)
    refine v_aload_0 R dX11_nextOrder_75 ?_
    refine g_Md_order R dX11_nextOrder_76 fl_X11_57 ?_
    refine v_iload_1 R dX11_nextOrder_79 ?_
    refine v_aload_0 R dX11_nextOrder_80 ?_
    refine g_Md_order R dX11_nextOrder_81 fl_X11_57 ?_
    refine v_iload_2 R dX11_nextOrder_84 ?_
    obtain ⟨hi85, hP⟩ := hP
    refine v_iald R dX11_nextOrder_85 rfl hi85 ?_
    obtain ⟨hi86, hP⟩ := hP
    refine v_iastL R dX11_nextOrder_86 rfl hi86 hP (fun h86 hP => ?_)
    refine v_aload_0 R dX11_nextOrder_87 ?_
    refine g_Md_order R dX11_nextOrder_88 fl_X11_57 ?_
    refine v_iload_2 R dX11_nextOrder_91 ?_
    refine v_iload_3 R dX11_nextOrder_92 ?_
    obtain ⟨hi93, hP⟩ := hP
    refine v_iastL R dX11_nextOrder_93 rfl hi93 hP (fun h93 hP => ?_)
    refine v_aload_0 R dX11_nextOrder_94 ?_
    refine g_Md_wires R dX11_nextOrder_95 fl_X11_81 ?_
    refine v_iconst R dX11_nextOrder_98 (v := (1 : Int32)) (by decide) ?_
    refine v_isub R dX11_nextOrder_99 ?_
    refine v_istoreL_4 R dX11_nextOrder_100 (by decide) rfl hP (fun x100 hP => ?_)
    refine v_iload_1 R dX11_nextOrder_102 ?_
    refine v_iconst R dX11_nextOrder_103 (v := (1 : Int32)) (by decide) ?_
    refine v_iadd R dX11_nextOrder_104 ?_
    refine v_istoreL_5 R dX11_nextOrder_105 (by decide) rfl hP (fun x105 hP => ?_)
    refine v_wk R [some (.ref (φ 7)), none, none, none, some (.int x100), some (.int x105), none] ⟨rfl, ⟨rfl, ⟨rfl, trivial⟩⟩⟩ ?_
    obtain ⟨n107, hP⟩ := hP
    refine L_Md_nextOrder_107 R ?_ n107 _ _ _ hP
    intro h107x hP
    refine v_iconst R dX11_nextOrder_155 (v := (1 : Int32)) (by decide) ?_
    exact Rt _ _ true _ dX11_nextOrder_156 hP
  · have hP := hP.2 q35
    refine v_iconst R dX11_nextOrder_38 (v := (0 : Int32)) (by decide) ?_
    exact Rt _ _ false _ dX11_nextOrder_39 hP
set_option maxRecDepth 100000 in
set_option maxHeartbeats 4000000 in
theorem L_Md_couldBe_4 {l : Launch} {D : va_G} {cs : Nat → ClassId} {φ : Nat → Nat} {V : Nat → List (Option Value) → List Value → Hp → Prop} {h : Hp} {E : Int32 → Prop} (R : Ru l D cs φ RX11 cX11_couldBe 5 4 106 V) (hE : ∀ (a1 : Int32), E a1 → V 122 [none, some (.int a1), none, none, none] [] h) : ∀ (n : Nat) (a1 : Int32) (a2 : Int32), lp_Md_couldBe_4 n a1 a2 h E → V 4 [some (.ref (φ 7)), some (.int a1), some (.int a2), none, none] [] h := by
  intro n
  induction n with
  | zero => intro a1 a2 hP; exact hP.elim
  | succ n ih =>
    intro a1 a2 hP
    unfold lp_Md_couldBe_4 at hP
    refine v_iload_2 R dX11_couldBe_4 ?_
    refine v_aload_0 R dX11_couldBe_5 ?_
    refine g_Md_seenMany R dX11_couldBe_6 fl_X11_182 ?_
    refine v_icmp_ge (tgt := 122) R dX11_couldBe_9 (by decide) (fun q9 => ?_) (fun q9 => ?_)
    · have hP := hP.1 q9
      refine v_wk R [none, some (.int a1), none, none, none] ⟨rfl, trivial⟩ ?_
      exact hE a1 hP
    · have hP := hP.2 q9
      refine v_iload_1 R dX11_couldBe_12 ?_
      refine v_if_eq (tgt := 122) R dX11_couldBe_13 (by decide) (fun q13 => ?_) (fun q13 => ?_)
      · have hP := hP.1 q13
        refine v_wk R [none, some (.int a1), none, none, none] ⟨rfl, trivial⟩ ?_
        exact hE a1 hP
      · have hP := hP.2 q13
        refine v_bipush R dX11_couldBe_16 (v := (14 : Int32)) (by decide) ?_
        refine v_iload_2 R dX11_couldBe_18 ?_
        refine v_imul R dX11_couldBe_19 ?_
        refine v_istoreL_3 R dX11_couldBe_20 (by decide) rfl hP (fun x20 hP => ?_)
        refine v_aload_0 R dX11_couldBe_21 ?_
        refine v_iconst R dX11_couldBe_22 (v := (5 : Int32)) (by decide) ?_
        refine v_aload_0 R dX11_couldBe_23 ?_
        refine g_Md_seen R dX11_couldBe_24 fl_X11_22 ?_
        refine v_iload_3 R dX11_couldBe_27 ?_
        obtain ⟨hi28, hP⟩ := hP
        refine v_iald R dX11_couldBe_28 rfl hi28 ?_
        refine v_imul R dX11_couldBe_29 ?_
        refine v_aload_0 R dX11_couldBe_30 ?_
        refine g_Md_seen R dX11_couldBe_31 fl_X11_22 ?_
        refine v_iload_3 R dX11_couldBe_34 ?_
        refine v_iconst R dX11_couldBe_35 (v := (2 : Int32)) (by decide) ?_
        refine v_iadd R dX11_couldBe_36 ?_
        obtain ⟨hi37, hP⟩ := hP
        refine v_iald R dX11_couldBe_37 rfl hi37 ?_
        refine v_iadd R dX11_couldBe_38 ?_
        refine v_aload_0 R dX11_couldBe_39 ?_
        refine g_Md_order R dX11_couldBe_40 fl_X11_57 ?_
        refine v_aload_0 R dX11_couldBe_43 ?_
        refine g_Md_seen R dX11_couldBe_44 fl_X11_22 ?_
        refine v_iload_3 R dX11_couldBe_47 ?_
        refine v_iconst R dX11_couldBe_48 (v := (1 : Int32)) (by decide) ?_
        refine v_iadd R dX11_couldBe_49 ?_
        obtain ⟨hi50, hP⟩ := hP
        refine v_iald R dX11_couldBe_50 rfl hi50 ?_
        refine v_aload_0 R dX11_couldBe_51 ?_
        refine g_Md_seen R dX11_couldBe_52 fl_X11_22 ?_
        refine v_aload_0 R dX11_couldBe_55 ?_
        refine g_Md_seenFar R dX11_couldBe_56 fl_X11_60 ?_
        refine v_iload_3 R dX11_couldBe_59 ?_
        refine v_iconst R dX11_couldBe_60 (v := (5 : Int32)) (by decide) ?_
        refine v_iadd R dX11_couldBe_61 ?_
        refine v_iconst R dX11_couldBe_62 (v := (0 : Int32)) (by decide) ?_
        refine cV7_ir R dX11_couldBe_63 (c_Md_joined rfl rfl rfl hP) rc_Md ml_X11_205 mv_Md_joined (by decide) (Nat.le_of_ble_eq_true rfl) (fun v63 hP => ?_)
        refine v_istore_4 R dX11_couldBe_66 (by decide) rfl ?_
        refine v_iload_4 R dX11_couldBe_68 ?_
        refine v_aload_0 R dX11_couldBe_70 ?_
        refine g_Md_seen R dX11_couldBe_71 fl_X11_22 ?_
        refine v_iload_3 R dX11_couldBe_74 ?_
        obtain ⟨hi75, hP⟩ := hP
        refine v_iald R dX11_couldBe_75 rfl hi75 ?_
        refine v_aload_0 R dX11_couldBe_76 ?_
        refine g_Md_seen R dX11_couldBe_77 fl_X11_22 ?_
        refine v_iload_3 R dX11_couldBe_80 ?_
        refine v_iconst R dX11_couldBe_81 (v := (3 : Int32)) (by decide) ?_
        refine v_iadd R dX11_couldBe_82 ?_
        obtain ⟨hi83, hP⟩ := hP
        refine v_iald R dX11_couldBe_83 rfl hi83 ?_
        refine cS2_ir R dX11_couldBe_84 (c_Md_bitOf hP) ml_X11_212 mv_Md_bitOf (by decide) (Nat.le_of_ble_eq_true rfl) (fun v84 hP => ?_)
        refine cS2_br R dX11_couldBe_87 (c_Md_has hP) ml_X11_99 mv_Md_has (by decide) (Nat.le_of_ble_eq_true rfl) (fun v87 hP => ?_)
        refine v_aload_0 R dX11_couldBe_90 ?_
        refine g_Md_seen R dX11_couldBe_91 fl_X11_22 ?_
        refine v_iload_3 R dX11_couldBe_94 ?_
        refine v_iconst R dX11_couldBe_95 (v := (4 : Int32)) (by decide) ?_
        refine v_iadd R dX11_couldBe_96 ?_
        obtain ⟨hi97, hP⟩ := hP
        refine v_iald R dX11_couldBe_97 rfl hi97 ?_
        refine v_iconst R dX11_couldBe_98 (v := (1 : Int32)) (by decide) ?_
        refine jn_v (fun K => ∀ (z107_1 : Int32), K z107_1 → V 107 [some (.ref (φ 7)), none, some (.int a2), none, none] [.int z107_1, .int (bI v87)] h) ?_ ?_ hP
        · intro z107_1 hP
          refine jn_v (fun K => ∀ (z115_0 : Int32), K z115_0 → V 115 [some (.ref (φ 7)), none, some (.int a2), none, none] [.int z115_0] h) ?_ ?_ hP
          · intro z115_0 hP
            refine v_istore_1 R dX11_couldBe_115 (by decide) rfl ?_
            refine v_iincL_2 R (1 : Int32) dX11_couldBe_116 (by decide) rfl (by decide) hP (fun x116 hP => ?_)
            refine v_goto (tgt := 4) R dX11_couldBe_119 (by decide) ?_
            exact ih z115_0 x116 hP
          · intro K J115 hP
            refine v_icmp_ne (tgt := 114) R dX11_couldBe_107 (by decide) (fun q107 => ?_) (fun q107 => ?_)
            · have hP := hP.1 q107
              refine v_iconst R dX11_couldBe_114 (v := (0 : Int32)) (by decide) ?_
              exact J115 (0 : Int32) hP
            · have hP := hP.2 q107
              refine v_iconst R dX11_couldBe_110 (v := (1 : Int32)) (by decide) ?_
              refine v_goto (tgt := 115) R dX11_couldBe_111 (by decide) ?_
              exact J115 (1 : Int32) hP
        · intro K J107 hP
          refine v_icmp_ne (tgt := 106) R dX11_couldBe_99 (by decide) (fun q99 => ?_) (fun q99 => ?_)
          · have hP := hP.1 q99
            refine v_iconst R dX11_couldBe_106 (v := (0 : Int32)) (by decide) ?_
            refine v_wk R [some (.ref (φ 7)), none, some (.int a2), none, none] ⟨rfl, ⟨rfl, trivial⟩⟩ ?_
            exact J107 (0 : Int32) hP
          · have hP := hP.2 q99
            refine v_iconst R dX11_couldBe_102 (v := (1 : Int32)) (by decide) ?_
            refine v_goto (tgt := 107) R dX11_couldBe_103 (by decide) ?_
            refine v_wk R [some (.ref (φ 7)), none, some (.int a2), none, none] ⟨rfl, ⟨rfl, trivial⟩⟩ ?_
            exact J107 (1 : Int32) hP
set_option maxRecDepth 100000 in
set_option maxHeartbeats 4000000 in
theorem c_Md_couldBe {l : Launch} {D : va_G} {cs : Nat → ClassId} {φ : Nat → Nat} {h : Hp} {P : Bool → Prop} (hP : wp_Md_couldBe h P) : Ct l D cs φ M_Md_couldBe [.ref (φ 7)] h (fun rv h2 => ∃ v, rv = some (.int (bI v)) ∧ h2 = h ∧ P v) := by
  refine Ct.of (lc := [some (.ref (φ 7)), none, none, none, none]) RX11 4 106 rfl (by decide +kernel) rfl (Nat.le_of_ble_eq_true rfl) rfl rfl (fun V R RI RV => ?_)
  have R : Ru l D cs φ RX11 cX11_couldBe 5 4 106 V := R
  have Rt : ∀ pc lc v, decode cX11_couldBe pc = .ok (.ireturn, 1) → P v → V pc lc [.int (bI v)] h := fun pc lc v hd hp => RI pc lc _ .boolean h rfl (bI_n v) hd ⟨v, rfl, rfl, hp⟩
  unfold wp_Md_couldBe at hP
  refine v_iconst R dX11_couldBe_0 (v := (1 : Int32)) (by decide) ?_
  refine v_istore_1 R dX11_couldBe_1 (by decide) rfl ?_
  refine v_iconst R dX11_couldBe_2 (v := (0 : Int32)) (by decide) ?_
  refine v_istore_2 R dX11_couldBe_3 (by decide) rfl ?_
  obtain ⟨n4, hP⟩ := hP
  refine L_Md_couldBe_4 R ?_ n4 _ _ hP
  intro w4_1 hP
  refine v_iload_1 R dX11_couldBe_122 ?_
  exact v_bz hP.1 (Rt _ _ _ dX11_couldBe_123 hP.2)
set_option maxRecDepth 100000 in
set_option maxHeartbeats 4000000 in
theorem L_Md_countsOrder_90 {l : Launch} {D : va_G} {cs : Nat → ClassId} {φ : Nat → Nat} {V : Nat → List (Option Value) → List Value → Hp → Prop} {a1 a2 : Int32} {E : Hp → Prop} (R : Ru l D cs φ RX11 cX11_countsOrder 4 4 106 V) (hE : ∀ (h : Hp), E h → V 137 [some (.ref (φ 7)), some (.int a1), none, none] [] h) : ∀ (n : Nat) (a3 : Int32) (h : Hp), lp_Md_countsOrder_90 n a1 a2 a3 h E → V 90 [some (.ref (φ 7)), some (.int a1), some (.int a2), some (.int a3)] [] h := by
  intro n
  induction n with
  | zero => intro a3 h hP; exact hP.elim
  | succ n ih =>
    intro a3 h hP
    unfold lp_Md_countsOrder_90 at hP
    refine v_iload_3 R dX11_countsOrder_90 ?_
    refine v_aload_0 R dX11_countsOrder_91 ?_
    refine g_Md_wires R dX11_countsOrder_92 fl_X11_81 ?_
    refine v_icmp_ge (tgt := 137) R dX11_countsOrder_95 (by decide) (fun q95 => ?_) (fun q95 => ?_)
    · have hP := hP.1 q95
      refine v_wk R [some (.ref (φ 7)), some (.int a1), none, none] ⟨rfl, ⟨rfl, trivial⟩⟩ ?_
      exact hE h hP
    · have hP := hP.2 q95
      refine v_aload_0 R dX11_countsOrder_98 ?_
      refine g_Md_ringMany R dX11_countsOrder_99 fl_X11_69 ?_
      refine v_iload_1 R dX11_countsOrder_102 ?_
      refine v_iload_3 R dX11_countsOrder_103 ?_
      refine cS2_ir R dX11_countsOrder_104 (c_Md_pair hP) ml_X11_95 mv_Md_pair (by decide) (Nat.le_of_ble_eq_true rfl) (fun v104 hP => ?_)
      refine v_dup2 R dX11_countsOrder_107 rfl rfl ?_
      obtain ⟨hi108, hP⟩ := hP
      refine v_iald R dX11_countsOrder_108 rfl hi108 ?_
      refine v_iload_2 R dX11_countsOrder_109 ?_
      refine v_iconst R dX11_countsOrder_110 (v := (5 : Int32)) (by decide) ?_
      refine v_aload_0 R dX11_countsOrder_111 ?_
      refine g_Md_place R dX11_countsOrder_112 fl_X11_170 ?_
      refine v_imul R dX11_countsOrder_115 ?_
      refine v_iload_3 R dX11_countsOrder_116 ?_
      refine v_iadd R dX11_countsOrder_117 ?_
      refine cS2_br R dX11_countsOrder_118 (c_Md_has hP) ml_X11_99 mv_Md_has (by decide) (Nat.le_of_ble_eq_true rfl) (fun v118 hP => ?_)
      refine jn_v (fun K => ∀ (z129_3 : Int32), K z129_3 → V 129 [some (.ref (φ 7)), some (.int a1), some (.int a2), some (.int a3)] [.int z129_3, .int (h.1 95 (v104).toNatClampNeg), .int v104, .ref (φ 95)] h) ?_ ?_ hP
      · intro z129_3 hP
        refine v_iadd R dX11_countsOrder_129 ?_
        obtain ⟨hi130, hP⟩ := hP
        refine v_iastL R dX11_countsOrder_130 rfl hi130 hP (fun h130 hP => ?_)
        refine v_iincL_3 R (1 : Int32) dX11_countsOrder_131 (by decide) rfl (by decide) hP (fun x131 hP => ?_)
        refine v_goto (tgt := 90) R dX11_countsOrder_134 (by decide) ?_
        exact ih x131 h130 hP
      · intro K J129 hP
        refine v_ifb_eq (tgt := 128) R dX11_countsOrder_121 (by decide) (fun q121 => ?_) (fun q121 => ?_)
        · have hP := hP.1 q121
          refine v_iconst R dX11_countsOrder_128 (v := (0 : Int32)) (by decide) ?_
          exact J129 (0 : Int32) hP
        · have hP := hP.2 q121
          refine v_iconst R dX11_countsOrder_124 (v := (1 : Int32)) (by decide) ?_
          refine v_goto (tgt := 129) R dX11_countsOrder_125 (by decide) ?_
          exact J129 (1 : Int32) hP
set_option maxRecDepth 100000 in
set_option maxHeartbeats 4000000 in
theorem L_Md_countsOrder_2 {l : Launch} {D : va_G} {cs : Nat → ClassId} {φ : Nat → Nat} {V : Nat → List (Option Value) → List Value → Hp → Prop} {E : Hp → Prop} (R : Ru l D cs φ RX11 cX11_countsOrder 4 4 106 V) (hE : ∀ (h : Hp), E h → V 143 [some (.ref (φ 7)), none, none, none] [] h) : ∀ (n : Nat) (a1 : Int32) (h : Hp), lp_Md_countsOrder_2 n a1 h E → V 2 [some (.ref (φ 7)), some (.int a1), none, none] [] h := by
  intro n
  induction n with
  | zero => intro a1 h hP; exact hP.elim
  | succ n ih =>
    intro a1 h hP
    unfold lp_Md_countsOrder_2 at hP
    refine v_iload_1 R dX11_countsOrder_2 ?_
    refine v_aload_0 R dX11_countsOrder_3 ?_
    refine g_Md_wires R dX11_countsOrder_4 fl_X11_81 ?_
    refine v_icmp_ge (tgt := 143) R dX11_countsOrder_7 (by decide) (fun q7 => ?_) (fun q7 => ?_)
    · have hP := hP.1 q7
      refine v_wk R [some (.ref (φ 7)), none, none, none] ⟨rfl, trivial⟩ ?_
      exact hE h hP
    · have hP := hP.2 q7
      refine v_aload_0 R dX11_countsOrder_10 ?_
      refine g_Md_couldSets R dX11_countsOrder_11 fl_X11_63 ?_
      refine v_iload_1 R dX11_countsOrder_14 ?_
      refine v_dup2 R dX11_countsOrder_15 rfl rfl ?_
      obtain ⟨hi16, hP⟩ := hP
      refine v_iald R dX11_countsOrder_16 rfl hi16 ?_
      refine v_iconst R dX11_countsOrder_17 (v := (1 : Int32)) (by decide) ?_
      refine v_aload_0 R dX11_countsOrder_18 ?_
      refine g_Md_order R dX11_countsOrder_19 fl_X11_57 ?_
      refine v_iload_1 R dX11_countsOrder_22 ?_
      obtain ⟨hi23, hP⟩ := hP
      refine v_iald R dX11_countsOrder_23 rfl hi23 ?_
      refine v_ishl R dX11_countsOrder_24 ?_
      refine v_ior R dX11_countsOrder_25 ?_
      obtain ⟨hi26, hP⟩ := hP
      refine v_iastL R dX11_countsOrder_26 rfl hi26 hP (fun h26 hP => ?_)
      refine v_aload_0 R dX11_countsOrder_27 ?_
      refine g_Md_firstOnes R dX11_countsOrder_28 fl_X11_66 ?_
      refine v_iload_1 R dX11_countsOrder_31 ?_
      refine v_aload_0 R dX11_countsOrder_32 ?_
      refine g_Md_couldMany R dX11_countsOrder_33 fl_X11_275 ?_
      refine jn_v (fun K => ∀ (z54_2 : Int32), K z54_2 → V 54 [some (.ref (φ 7)), some (.int a1), none, none] [.int z54_2, .int a1, .ref (φ 94)] h26) ?_ ?_ hP
      · intro z54_2 hP
        obtain ⟨hi54, hP⟩ := hP
        refine v_iastL R dX11_countsOrder_54 rfl hi54 hP (fun h54 hP => ?_)
        refine v_aload_0 R dX11_countsOrder_55 ?_
        refine v_iconst R dX11_countsOrder_56 (v := (5 : Int32)) (by decide) ?_
        refine v_aload_0 R dX11_countsOrder_57 ?_
        refine g_Md_place R dX11_countsOrder_58 fl_X11_170 ?_
        refine v_imul R dX11_countsOrder_61 ?_
        refine v_iload_1 R dX11_countsOrder_62 ?_
        refine v_iadd R dX11_countsOrder_63 ?_
        refine v_aload_0 R dX11_countsOrder_64 ?_
        refine g_Md_order R dX11_countsOrder_65 fl_X11_57 ?_
        refine v_aload_0 R dX11_countsOrder_68 ?_
        refine g_Md_hour R dX11_countsOrder_69 fl_X11_173 ?_
        refine v_aload_0 R dX11_countsOrder_72 ?_
        refine g_Md_near R dX11_countsOrder_73 fl_X11_16 ?_
        refine v_aload_0 R dX11_countsOrder_76 ?_
        refine g_Md_far R dX11_countsOrder_77 fl_X11_19 ?_
        refine v_iconst R dX11_countsOrder_80 (v := (0 : Int32)) (by decide) ?_
        refine v_iconst R dX11_countsOrder_81 (v := (0 : Int32)) (by decide) ?_
        refine cV7_ir R dX11_countsOrder_82 (c_Md_joined rfl rfl rfl hP) rc_Md ml_X11_205 mv_Md_joined (by decide) (Nat.le_of_ble_eq_true rfl) (fun v82 hP => ?_)
        refine v_istore_2 R dX11_countsOrder_85 (by decide) rfl ?_
        refine v_iload_1 R dX11_countsOrder_86 ?_
        refine v_iconst R dX11_countsOrder_87 (v := (1 : Int32)) (by decide) ?_
        refine v_iadd R dX11_countsOrder_88 ?_
        refine v_istoreL_3 R dX11_countsOrder_89 (by decide) rfl hP (fun x89 hP => ?_)
        obtain ⟨n90, hP⟩ := hP
        refine L_Md_countsOrder_90 R ?_ n90 _ _ hP
        intro h90x hP
        refine v_iincL_1 R (1 : Int32) dX11_countsOrder_137 (by decide) rfl (by decide) hP (fun x137 hP => ?_)
        refine v_goto (tgt := 2) R dX11_countsOrder_140 (by decide) ?_
        exact ih x137 h90x hP
      · intro K J54 hP
        refine v_if_ne (tgt := 48) R dX11_countsOrder_36 (by decide) (fun q36 => ?_) (fun q36 => ?_)
        · have hP := hP.1 q36
          refine v_aload_0 R dX11_countsOrder_48 ?_
          refine g_Md_firstOnes R dX11_countsOrder_49 fl_X11_66 ?_
          refine v_iload_1 R dX11_countsOrder_52 ?_
          obtain ⟨hi53, hP⟩ := hP
          refine v_iald R dX11_countsOrder_53 rfl hi53 ?_
          exact J54 (h26.1 94 (a1).toNatClampNeg) hP
        · have hP := hP.2 q36
          refine v_aload_0 R dX11_countsOrder_39 ?_
          refine g_Md_order R dX11_countsOrder_40 fl_X11_57 ?_
          refine v_iload_1 R dX11_countsOrder_43 ?_
          obtain ⟨hi44, hP⟩ := hP
          refine v_iald R dX11_countsOrder_44 rfl hi44 ?_
          refine v_goto (tgt := 54) R dX11_countsOrder_45 (by decide) ?_
          exact J54 (h26.1 91 (a1).toNatClampNeg) hP
set_option maxRecDepth 100000 in
set_option maxHeartbeats 4000000 in
theorem c_Md_countsOrder {l : Launch} {D : va_G} {cs : Nat → ClassId} {φ : Nat → Nat} {h : Hp} {P : Hp → Prop} (hP : wp_Md_countsOrder h P) : Ct l D cs φ M_Md_countsOrder [.ref (φ 7)] h (fun rv h2 => rv = none ∧ P h2) := by
  refine Ct.of (lc := [some (.ref (φ 7)), none, none, none]) RX11 4 106 rfl (by decide +kernel) rfl (Nat.le_of_ble_eq_true rfl) rfl rfl (fun V R RI RV => ?_)
  have R : Ru l D cs φ RX11 cX11_countsOrder 4 4 106 V := R
  have Rt : ∀ pc lc h, decode cX11_countsOrder pc = .ok (.return_, 1) → P h → V pc lc [] h := fun pc lc h hd hp => RV pc lc h rfl hd ⟨rfl, hp⟩
  unfold wp_Md_countsOrder at hP
  refine v_iconst R dX11_countsOrder_0 (v := (0 : Int32)) (by decide) ?_
  refine v_istore_1 R dX11_countsOrder_1 (by decide) rfl ?_
  obtain ⟨n2, hP⟩ := hP
  refine L_Md_countsOrder_2 R ?_ n2 _ _ hP
  intro h2x hP
  refine v_aload_0 R dX11_countsOrder_143 ?_
  refine v_dup R dX11_countsOrder_144 rfl ?_
  refine g_Md_couldMany R dX11_countsOrder_145 fl_X11_275 ?_
  refine v_iconst R dX11_countsOrder_148 (v := (1 : Int32)) (by decide) ?_
  refine v_iadd R dX11_countsOrder_149 ?_
  refine p_Md_couldMany R dX11_countsOrder_150 fl_X11_275 hP (fun h150 hP => ?_)
  exact Rt _ _ _ dX11_countsOrder_153 hP
set_option maxRecDepth 100000 in
set_option maxHeartbeats 4000000 in
theorem L_Md_setCould_7 {l : Launch} {D : va_G} {cs : Nat → ClassId} {φ : Nat → Nat} {V : Nat → List (Option Value) → List Value → Hp → Prop} {E : Hp → Prop} (R : Ru l D cs φ RX11 cX11_setCould 2 5 130 V) (hE : ∀ (h : Hp), E h → V 32 [some (.ref (φ 7)), none] [] h) : ∀ (n : Nat) (a1 : Int32) (h : Hp), lp_Md_setCould_7 n a1 h E → V 7 [some (.ref (φ 7)), some (.int a1)] [] h := by
  intro n
  induction n with
  | zero => intro a1 h hP; exact hP.elim
  | succ n ih =>
    intro a1 h hP
    unfold lp_Md_setCould_7 at hP
    refine v_iload_1 R dX11_setCould_7 ?_
    refine v_iconst R dX11_setCould_8 (v := (5 : Int32)) (by decide) ?_
    refine v_icmp_ge (tgt := 32) R dX11_setCould_9 (by decide) (fun q9 => ?_) (fun q9 => ?_)
    · have hP := hP.1 q9
      refine v_wk R [some (.ref (φ 7)), none] ⟨rfl, trivial⟩ ?_
      exact hE h hP
    · have hP := hP.2 q9
      refine v_aload_0 R dX11_setCould_12 ?_
      refine g_Md_couldSets R dX11_setCould_13 fl_X11_63 ?_
      refine v_iload_1 R dX11_setCould_16 ?_
      refine v_iconst R dX11_setCould_17 (v := (0 : Int32)) (by decide) ?_
      obtain ⟨hi18, hP⟩ := hP
      refine v_iastL R dX11_setCould_18 rfl hi18 hP (fun h18 hP => ?_)
      refine v_aload_0 R dX11_setCould_19 ?_
      refine g_Md_firstOnes R dX11_setCould_20 fl_X11_66 ?_
      refine v_iload_1 R dX11_setCould_23 ?_
      refine v_iconst R dX11_setCould_24 (v := (-1 : Int32)) (by decide) ?_
      obtain ⟨hi25, hP⟩ := hP
      refine v_iastL R dX11_setCould_25 rfl hi25 hP (fun h25 hP => ?_)
      refine v_iincL_1 R (1 : Int32) dX11_setCould_26 (by decide) rfl (by decide) hP (fun x26 hP => ?_)
      refine v_goto (tgt := 7) R dX11_setCould_29 (by decide) ?_
      exact ih x26 h25 hP
set_option maxRecDepth 100000 in
set_option maxHeartbeats 4000000 in
theorem L_Md_setCould_34 {l : Launch} {D : va_G} {cs : Nat → ClassId} {φ : Nat → Nat} {V : Nat → List (Option Value) → List Value → Hp → Prop} {E : Hp → Prop} (R : Ru l D cs φ RX11 cX11_setCould 2 5 130 V) (hE : ∀ (h : Hp), E h → V 53 [some (.ref (φ 7)), none] [] h) : ∀ (n : Nat) (a1 : Int32) (h : Hp), lp_Md_setCould_34 n a1 h E → V 34 [some (.ref (φ 7)), some (.int a1)] [] h := by
  intro n
  induction n with
  | zero => intro a1 h hP; exact hP.elim
  | succ n ih =>
    intro a1 h hP
    unfold lp_Md_setCould_34 at hP
    refine v_iload_1 R dX11_setCould_34 ?_
    refine v_bipush R dX11_setCould_35 (v := (25 : Int32)) (by decide) ?_
    refine v_icmp_ge (tgt := 53) R dX11_setCould_37 (by decide) (fun q37 => ?_) (fun q37 => ?_)
    · have hP := hP.1 q37
      refine v_wk R [some (.ref (φ 7)), none] ⟨rfl, trivial⟩ ?_
      exact hE h hP
    · have hP := hP.2 q37
      refine v_aload_0 R dX11_setCould_40 ?_
      refine g_Md_ringMany R dX11_setCould_41 fl_X11_69 ?_
      refine v_iload_1 R dX11_setCould_44 ?_
      refine v_iconst R dX11_setCould_45 (v := (0 : Int32)) (by decide) ?_
      obtain ⟨hi46, hP⟩ := hP
      refine v_iastL R dX11_setCould_46 rfl hi46 hP (fun h46 hP => ?_)
      refine v_iincL_1 R (1 : Int32) dX11_setCould_47 (by decide) rfl (by decide) hP (fun x47 hP => ?_)
      refine v_goto (tgt := 34) R dX11_setCould_50 (by decide) ?_
      exact ih x47 h46 hP
set_option maxRecDepth 100000 in
set_option maxHeartbeats 4000000 in
theorem L_Md_setCould_70 {l : Launch} {D : va_G} {cs : Nat → ClassId} {φ : Nat → Nat} {V : Nat → List (Option Value) → List Value → Hp → Prop} {E : Hp → Prop} (R : Ru l D cs φ RX11 cX11_setCould 2 5 130 V) (hE : ∀ (h : Hp), E h → V 93 [none, none] [] h) : ∀ (n : Nat) (a1 : Int32) (h : Hp), lp_Md_setCould_70 n a1 h E → V 70 [some (.ref (φ 7)), some (.int a1)] [] h := by
  intro n
  induction n with
  | zero => intro a1 h hP; exact hP.elim
  | succ n ih =>
    intro a1 h hP
    unfold lp_Md_setCould_70 at hP
    refine v_iload_1 R dX11_setCould_70 ?_
    refine v_if_eq (tgt := 93) R dX11_setCould_71 (by decide) (fun q71 => ?_) (fun q71 => ?_)
    · have hP := hP.1 q71
      refine v_wk R [none, none] trivial ?_
      exact hE h hP
    · have hP := hP.2 q71
      refine v_aload_0 R dX11_setCould_74 ?_
      refine cV0_br R dX11_setCould_75 (c_Md_couldBe hP) rc_Md ml_X11_281 mv_Md_couldBe (by decide) (Nat.le_of_ble_eq_true rfl) (fun v75 hP => ?_)
      refine jn_v (fun K => ∀ (h85 : Hp), K h85 → V 85 [some (.ref (φ 7)), none] [] h85) ?_ ?_ hP
      · intro h85 hP
        refine v_aload_0 R dX11_setCould_85 ?_
        refine cV0_bw R dX11_setCould_86 (c_Md_nextOrder hP) rc_Md ml_X11_287 mv_Md_nextOrder (by decide) (Nat.le_of_ble_eq_true rfl) (fun v86 h86 hP => ?_)
        refine v_istore_1 R dX11_setCould_89 (by decide) rfl ?_
        refine v_goto (tgt := 70) R dX11_setCould_90 (by decide) ?_
        exact ih (bI v86) h86 hP
      · intro K J85 hP
        refine v_ifb_eq (tgt := 85) R dX11_setCould_78 (by decide) (fun q78 => ?_) (fun q78 => ?_)
        · have hP := hP.1 q78
          refine v_wk R [some (.ref (φ 7)), none] ⟨rfl, trivial⟩ ?_
          exact J85 h hP
        · have hP := hP.2 q78
          refine v_aload_0 R dX11_setCould_81 ?_
          refine cV0_vw R dX11_setCould_82 (c_Md_countsOrder hP) rc_Md ml_X11_284 mv_Md_countsOrder (by decide) (Nat.le_of_ble_eq_true rfl) (fun h82 hP => ?_)
          refine v_wk R [some (.ref (φ 7)), none] ⟨rfl, trivial⟩ ?_
          exact J85 h82 hP
set_option maxRecDepth 100000 in
set_option maxHeartbeats 4000000 in
theorem c_Md_setCould {l : Launch} {D : va_G} {cs : Nat → ClassId} {φ : Nat → Nat} {h : Hp} {P : Hp → Prop} (hP : wp_Md_setCould h P) : Ct l D cs φ M_Md_setCould [.ref (φ 7)] h (fun rv h2 => rv = none ∧ P h2) := by
  refine Ct.of (lc := [some (.ref (φ 7)), none]) RX11 5 130 rfl (by decide +kernel) rfl (Nat.le_of_ble_eq_true rfl) rfl rfl (fun V R RI RV => ?_)
  have R : Ru l D cs φ RX11 cX11_setCould 2 5 130 V := R
  have Rt : ∀ pc lc h, decode cX11_setCould pc = .ok (.return_, 1) → P h → V pc lc [] h := fun pc lc h hd hp => RV pc lc h rfl hd ⟨rfl, hp⟩
  unfold wp_Md_setCould at hP
  refine v_aload_0 R dX11_setCould_0 ?_
  refine v_iconst R dX11_setCould_1 (v := (0 : Int32)) (by decide) ?_
  refine p_Md_couldMany R dX11_setCould_2 fl_X11_275 hP (fun h2 hP => ?_)
  refine v_iconst R dX11_setCould_5 (v := (0 : Int32)) (by decide) ?_
  refine v_istore_1 R dX11_setCould_6 (by decide) rfl ?_
  obtain ⟨n7, hP⟩ := hP
  refine L_Md_setCould_7 R ?_ n7 _ _ hP
  intro h7x hP
  refine v_iconst R dX11_setCould_32 (v := (0 : Int32)) (by decide) ?_
  refine v_istore_1 R dX11_setCould_33 (by decide) rfl ?_
  obtain ⟨n34, hP⟩ := hP
  refine L_Md_setCould_34 R ?_ n34 _ _ hP
  intro h34x hP
  refine v_aload_0 R dX11_setCould_53 ?_
  refine cV0_vw R dX11_setCould_54 (c_Md_firstOrder hP) rc_Md ml_X11_278 mv_Md_firstOrder (by decide) (Nat.le_of_ble_eq_true rfl) (fun h54 hP => ?_)
  refine v_aload_0 R dX11_setCould_57 ?_
  refine g_Md_wires R dX11_setCould_58 fl_X11_81 ?_
  refine jn_v (fun K => ∀ (z69_0 : Int32), K z69_0 → V 69 [some (.ref (φ 7)), none] [.int z69_0] h54) ?_ ?_ hP
  · intro z69_0 hP
    refine v_istore_1 R dX11_setCould_69 (by decide) rfl ?_
    obtain ⟨n70, hP⟩ := hP
    refine L_Md_setCould_70 R ?_ n70 _ _ hP
    intro h70x hP
    exact Rt _ _ _ dX11_setCould_93 hP
  · intro K J69 hP
    refine v_if_le (tgt := 68) R dX11_setCould_61 (by decide) (fun q61 => ?_) (fun q61 => ?_)
    · have hP := hP.1 q61
      refine v_iconst R dX11_setCould_68 (v := (0 : Int32)) (by decide) ?_
      exact J69 (0 : Int32) hP
    · have hP := hP.2 q61
      refine v_iconst R dX11_setCould_64 (v := (1 : Int32)) (by decide) ?_
      refine v_goto (tgt := 69) R dX11_setCould_65 (by decide) ?_
      exact J69 (1 : Int32) hP
set_option maxRecDepth 100000 in
set_option maxHeartbeats 4000000 in
theorem L_Md_askPair_26 {l : Launch} {D : va_G} {cs : Nat → ClassId} {φ : Nat → Nat} {V : Nat → List (Option Value) → List Value → Hp → Prop} {a3 : Int32} {h : Hp} {E : Int32 → Int32 → Prop} (R : Ru l D cs φ RX11 cX11_askPair 7 6 151 V) (hE : ∀ (a1 : Int32) (a2 : Int32), E a1 a2 → V 111 [some (.ref (φ 7)), some (.int a1), some (.int a2), some (.int a3), none, none, none] [] h) : ∀ (n : Nat) (a1 : Int32) (a2 : Int32) (a4 : Int32), lp_Md_askPair_26 n a3 a1 a2 a4 h E → V 26 [some (.ref (φ 7)), some (.int a1), some (.int a2), some (.int a3), some (.int a4), none, none] [] h := by
  intro n
  induction n with
  | zero => intro a1 a2 a4 hP; exact hP.elim
  | succ n ih =>
    intro a1 a2 a4 hP
    unfold lp_Md_askPair_26 at hP
    refine v_iload_4 R dX11_askPair_26 ?_
    refine v_aload_0 R dX11_askPair_28 ?_
    refine g_Md_wires R dX11_askPair_29 fl_X11_81 ?_
    refine v_icmp_ge (tgt := 111) R dX11_askPair_32 (by decide) (fun q32 => ?_) (fun q32 => ?_)
    · have hP := hP.1 q32
      refine v_wk R [some (.ref (φ 7)), some (.int a1), some (.int a2), some (.int a3), none, none, none] ⟨rfl, ⟨rfl, ⟨rfl, ⟨rfl, trivial⟩⟩⟩⟩ ?_
      exact hE a1 a2 hP
    · have hP := hP.2 q32
      refine v_aload_0 R dX11_askPair_35 ?_
      refine g_Md_ringMany R dX11_askPair_36 fl_X11_69 ?_
      refine v_iload_3 R dX11_askPair_39 ?_
      refine v_iload_4 R dX11_askPair_40 ?_
      refine cS2_ir R dX11_askPair_42 (c_Md_pair hP) ml_X11_95 mv_Md_pair (by decide) (Nat.le_of_ble_eq_true rfl) (fun v42 hP => ?_)
      obtain ⟨hi45, hP⟩ := hP
      refine v_iald R dX11_askPair_45 rfl hi45 ?_
      refine v_istoreL_5 R dX11_askPair_46 (by decide) rfl hP (fun x46 hP => ?_)
      refine v_iload_5 R dX11_askPair_48 ?_
      refine v_aload_0 R dX11_askPair_50 ?_
      refine g_Md_couldMany R dX11_askPair_51 fl_X11_275 ?_
      refine v_iload_5 R dX11_askPair_54 ?_
      refine v_isub R dX11_askPair_56 ?_
      refine jn_v (fun K => ∀ (z72_0 : Int32), K z72_0 → V 72 [some (.ref (φ 7)), some (.int a1), some (.int a2), some (.int a3), some (.int a4), none, none] [.int z72_0] h) ?_ ?_ hP
      · intro z72_0 hP
        refine v_istore_6 R dX11_askPair_72 (by decide) rfl ?_
        refine v_iload_6 R dX11_askPair_74 ?_
        refine v_iload_2 R dX11_askPair_76 ?_
        refine jn_v (fun K => ∀ (z91_0 : Int32), K z91_0 → V 91 [some (.ref (φ 7)), none, some (.int a2), some (.int a3), some (.int a4), none, some (.int z72_0)] [.int z91_0] h) ?_ ?_ hP
        · intro z91_0 hP
          refine v_istore_1 R dX11_askPair_91 (by decide) rfl ?_
          refine v_iload_6 R dX11_askPair_92 ?_
          refine v_iload_2 R dX11_askPair_94 ?_
          refine jn_v (fun K => ∀ (z104_0 : Int32), K z104_0 → V 104 [some (.ref (φ 7)), some (.int z91_0), none, some (.int a3), some (.int a4), none, none] [.int z104_0] h) ?_ ?_ hP
          · intro z104_0 hP
            refine v_istore_2 R dX11_askPair_104 (by decide) rfl ?_
            refine v_iincL_4 R (1 : Int32) dX11_askPair_105 (by decide) rfl (by decide) hP (fun x105 hP => ?_)
            refine v_goto (tgt := 26) R dX11_askPair_108 (by decide) ?_
            exact ih z91_0 z104_0 x105 hP
          · intro K J104 hP
            refine v_icmp_ge (tgt := 103) R dX11_askPair_95 (by decide) (fun q95 => ?_) (fun q95 => ?_)
            · have hP := hP.1 q95
              refine v_iload_2 R dX11_askPair_103 ?_
              refine v_wk R [some (.ref (φ 7)), some (.int z91_0), none, some (.int a3), some (.int a4), none, none] ⟨rfl, ⟨rfl, ⟨rfl, ⟨rfl, trivial⟩⟩⟩⟩ ?_
              exact J104 a2 hP
            · have hP := hP.2 q95
              refine v_iload_6 R dX11_askPair_98 ?_
              refine v_goto (tgt := 104) R dX11_askPair_100 (by decide) ?_
              refine v_wk R [some (.ref (φ 7)), some (.int z91_0), none, some (.int a3), some (.int a4), none, none] ⟨rfl, ⟨rfl, ⟨rfl, ⟨rfl, trivial⟩⟩⟩⟩ ?_
              exact J104 z72_0 hP
        · intro K J91 hP
          refine v_icmp_ge (tgt := 90) R dX11_askPair_77 (by decide) (fun q77 => ?_) (fun q77 => ?_)
          · have hP := hP.1 q77
            refine v_iload_1 R dX11_askPair_90 ?_
            refine v_wk R [some (.ref (φ 7)), none, some (.int a2), some (.int a3), some (.int a4), none, some (.int z72_0)] ⟨rfl, ⟨rfl, ⟨rfl, ⟨rfl, ⟨rfl, trivial⟩⟩⟩⟩⟩ ?_
            exact J91 a1 hP
          · have hP := hP.2 q77
            refine v_bipush R dX11_askPair_80 (v := (10 : Int32)) (by decide) ?_
            refine v_iload_3 R dX11_askPair_82 ?_
            refine v_imul R dX11_askPair_83 ?_
            refine v_iload_4 R dX11_askPair_84 ?_
            refine v_iadd R dX11_askPair_86 ?_
            refine v_goto (tgt := 91) R dX11_askPair_87 (by decide) ?_
            refine v_wk R [some (.ref (φ 7)), none, some (.int a2), some (.int a3), some (.int a4), none, some (.int z72_0)] ⟨rfl, ⟨rfl, ⟨rfl, ⟨rfl, ⟨rfl, trivial⟩⟩⟩⟩⟩ ?_
            exact J91 (((10 : Int32) * a3) + a4) hP
      · intro K J72 hP
        refine v_icmp_le (tgt := 65) R dX11_askPair_57 (by decide) (fun q57 => ?_) (fun q57 => ?_)
        · have hP := hP.1 q57
          refine v_aload_0 R dX11_askPair_65 ?_
          refine g_Md_couldMany R dX11_askPair_66 fl_X11_275 ?_
          refine v_iload_5 R dX11_askPair_69 ?_
          refine v_isub R dX11_askPair_71 ?_
          refine v_wk R [some (.ref (φ 7)), some (.int a1), some (.int a2), some (.int a3), some (.int a4), none, none] ⟨rfl, ⟨rfl, ⟨rfl, ⟨rfl, ⟨rfl, trivial⟩⟩⟩⟩⟩ ?_
          exact J72 ((h.1 7 34) - x46) hP
        · have hP := hP.2 q57
          refine v_iload_5 R dX11_askPair_60 ?_
          refine v_goto (tgt := 72) R dX11_askPair_62 (by decide) ?_
          refine v_wk R [some (.ref (φ 7)), some (.int a1), some (.int a2), some (.int a3), some (.int a4), none, none] ⟨rfl, ⟨rfl, ⟨rfl, ⟨rfl, ⟨rfl, trivial⟩⟩⟩⟩⟩ ?_
          exact J72 x46 hP
set_option maxRecDepth 100000 in
set_option maxHeartbeats 4000000 in
theorem L_Md_askPair_13 {l : Launch} {D : va_G} {cs : Nat → ClassId} {φ : Nat → Nat} {V : Nat → List (Option Value) → List Value → Hp → Prop} {h : Hp} {E : Int32 → Prop} (R : Ru l D cs φ RX11 cX11_askPair 7 6 151 V) (hE : ∀ (a1 : Int32), E a1 → V 117 [none, some (.int a1), none, none, none, none, none] [] h) : ∀ (n : Nat) (a1 : Int32) (a2 : Int32) (a3 : Int32), lp_Md_askPair_13 n a1 a2 a3 h E → V 13 [some (.ref (φ 7)), some (.int a1), some (.int a2), some (.int a3), none, none, none] [] h := by
  intro n
  induction n with
  | zero => intro a1 a2 a3 hP; exact hP.elim
  | succ n ih =>
    intro a1 a2 a3 hP
    unfold lp_Md_askPair_13 at hP
    refine v_iload_3 R dX11_askPair_13 ?_
    refine v_aload_0 R dX11_askPair_14 ?_
    refine g_Md_wires R dX11_askPair_15 fl_X11_81 ?_
    refine v_icmp_ge (tgt := 117) R dX11_askPair_18 (by decide) (fun q18 => ?_) (fun q18 => ?_)
    · have hP := hP.1 q18
      refine v_wk R [none, some (.int a1), none, none, none, none, none] ⟨rfl, trivial⟩ ?_
      exact hE a1 hP
    · have hP := hP.2 q18
      refine v_iload_3 R dX11_askPair_21 ?_
      refine v_iconst R dX11_askPair_22 (v := (1 : Int32)) (by decide) ?_
      refine v_iadd R dX11_askPair_23 ?_
      refine v_istoreL_4 R dX11_askPair_24 (by decide) rfl hP (fun x24 hP => ?_)
      obtain ⟨n26, hP⟩ := hP
      refine L_Md_askPair_26 R ?_ n26 _ _ _ hP
      intro w26_1 w26_2 hP
      refine v_iincL_3 R (1 : Int32) dX11_askPair_111 (by decide) rfl (by decide) hP (fun x111 hP => ?_)
      refine v_goto (tgt := 13) R dX11_askPair_114 (by decide) ?_
      exact ih w26_1 w26_2 x111 hP
set_option maxRecDepth 100000 in
set_option maxHeartbeats 4000000 in
theorem c_Md_askPair {l : Launch} {D : va_G} {cs : Nat → ClassId} {φ : Nat → Nat} {h : Hp} {P : Int32 → Hp → Prop} (hP : wp_Md_askPair h P) : Ct l D cs φ M_Md_askPair [.ref (φ 7)] h (fun rv h2 => ∃ v, rv = some (.int v) ∧ P v h2) := by
  refine Ct.of (lc := [some (.ref (φ 7)), none, none, none, none, none, none]) RX11 6 151 rfl (by decide +kernel) rfl (Nat.le_of_ble_eq_true rfl) rfl rfl (fun V R RI RV => ?_)
  have R : Ru l D cs φ RX11 cX11_askPair 7 6 151 V := R
  have Rt : ∀ pc lc v h, decode cX11_askPair pc = .ok (.ireturn, 1) → P v h → V pc lc [.int v] h := fun pc lc v h hd hp => RI pc lc _ .int h rfl rfl hd ⟨v, rfl, hp⟩
  unfold wp_Md_askPair at hP
  refine v_aload_0 R dX11_askPair_0 ?_
  refine cV0_vw R dX11_askPair_1 (c_Md_setCould hP) rc_Md ml_X11_290 mv_Md_setCould (by decide) (Nat.le_of_ble_eq_true rfl) (fun h1 hP => ?_)
  refine v_iconst R dX11_askPair_4 (v := (-1 : Int32)) (by decide) ?_
  refine v_istore_1 R dX11_askPair_5 (by decide) rfl ?_
  refine v_aload_0 R dX11_askPair_6 ?_
  refine g_Md_couldMany R dX11_askPair_7 fl_X11_275 ?_
  refine v_istoreL_2 R dX11_askPair_10 (by decide) rfl hP (fun x10 hP => ?_)
  refine v_iconst R dX11_askPair_11 (v := (0 : Int32)) (by decide) ?_
  refine v_istore_3 R dX11_askPair_12 (by decide) rfl ?_
  obtain ⟨n13, hP⟩ := hP
  refine L_Md_askPair_13 R ?_ n13 _ _ _ hP
  intro w13_1 hP
  refine v_iload_1 R dX11_askPair_117 ?_
  exact Rt _ _ _ _ dX11_askPair_118 hP
set_option maxRecDepth 100000 in
set_option maxHeartbeats 4000000 in
theorem L_Md_allRings_46 {l : Launch} {D : va_G} {cs : Nat → ClassId} {φ : Nat → Nat} {V : Nat → List (Option Value) → List Value → Hp → Prop} {e2 e3 e4 : Nat} {a1 a7 a8 : Int32} {h : Hp} {E : Int32 → Int32 → Prop} (R : Ru l D cs φ RX11 cX11_allRings 10 4 106 V) (hk_e2 : kd e2 = 12) (hk_e3 : kd e3 = 12) (hk_e4 : kd e4 = 12) (hE : ∀ (a5 : Int32) (a6 : Int32), E a5 a6 → V 105 [some (.ref (φ 7)), some (.int a1), some (.ref (φ e2)), some (.ref (φ e3)), some (.ref (φ e4)), some (.int a5), some (.int a6), some (.int a7), none, none] [] h) : ∀ (n : Nat) (a5 : Int32) (a6 : Int32) (a9 : Int32), lp_Md_allRings_46 n a1 e2 e3 e4 a7 a8 a5 a6 a9 h E → V 46 [some (.ref (φ 7)), some (.int a1), some (.ref (φ e2)), some (.ref (φ e3)), some (.ref (φ e4)), some (.int a5), some (.int a6), some (.int a7), some (.int a8), some (.int a9)] [] h := by
  intro n
  induction n with
  | zero => intro a5 a6 a9 hP; exact hP.elim
  | succ n ih =>
    intro a5 a6 a9 hP
    unfold lp_Md_allRings_46 at hP
    refine v_iload_9 R dX11_allRings_46 ?_
    refine v_aload_0 R dX11_allRings_48 ?_
    refine g_Md_wires R dX11_allRings_49 fl_X11_81 ?_
    refine v_icmp_gt (tgt := 105) R dX11_allRings_52 (by decide) (fun q52 => ?_) (fun q52 => ?_)
    · have hP := hP.1 q52
      refine v_wk R [some (.ref (φ 7)), some (.int a1), some (.ref (φ e2)), some (.ref (φ e3)), some (.ref (φ e4)), some (.int a5), some (.int a6), some (.int a7), none, none] ⟨rfl, ⟨rfl, ⟨rfl, ⟨rfl, ⟨rfl, ⟨rfl, ⟨rfl, ⟨rfl, trivial⟩⟩⟩⟩⟩⟩⟩⟩ ?_
      exact hE a5 a6 hP
    · have hP := hP.2 q52
      refine v_iload_5 R dX11_allRings_55 ?_
      refine v_iload_8 R dX11_allRings_57 ?_
      refine v_iload_9 R dX11_allRings_59 ?_
      refine v_aload_0 R dX11_allRings_61 ?_
      refine g_Md_wires R dX11_allRings_62 fl_X11_81 ?_
      refine jn_v (fun K => ∀ (z79_2 : Int32), K z79_2 → V 79 [some (.ref (φ 7)), some (.int a1), some (.ref (φ e2)), some (.ref (φ e3)), some (.ref (φ e4)), none, some (.int a6), some (.int a7), some (.int a8), some (.int a9)] [.int z79_2, .int a8, .int a5] h) ?_ ?_ hP
      · intro z79_2 hP
        refine cS2_br R dX11_allRings_79 (c_Md_has hP) ml_X11_99 mv_Md_has (by decide) (Nat.le_of_ble_eq_true rfl) (fun v79 hP => ?_)
        refine jn_v (fun K => ∀ (z93_1 : Int32), K z93_1 → V 93 [some (.ref (φ 7)), some (.int a1), some (.ref (φ e2)), some (.ref (φ e3)), some (.ref (φ e4)), none, some (.int a6), some (.int a7), some (.int a8), some (.int a9)] [.int z93_1, .int a5] h) ?_ ?_ hP
        · intro z93_1 hP
          refine v_ior R dX11_allRings_93 ?_
          refine v_istoreL_5 R dX11_allRings_94 (by decide) rfl hP (fun x94 hP => ?_)
          refine v_iincL_6 R (1 : Int32) dX11_allRings_96 (by decide) rfl (by decide) hP (fun x96 hP => ?_)
          refine v_iincL_9 R (1 : Int32) dX11_allRings_99 (by decide) rfl (by decide) hP (fun x99 hP => ?_)
          refine v_goto (tgt := 46) R dX11_allRings_102 (by decide) ?_
          exact ih x94 x96 x99 hP
        · intro K J93 hP
          refine v_ifb_eq (tgt := 92) R dX11_allRings_82 (by decide) (fun q82 => ?_) (fun q82 => ?_)
          · have hP := hP.1 q82
            refine v_iconst R dX11_allRings_92 (v := (0 : Int32)) (by decide) ?_
            exact J93 (0 : Int32) hP
          · have hP := hP.2 q82
            refine v_iconst R dX11_allRings_85 (v := (1 : Int32)) (by decide) ?_
            refine v_iload_6 R dX11_allRings_86 ?_
            refine v_ishl R dX11_allRings_88 ?_
            refine v_goto (tgt := 93) R dX11_allRings_89 (by decide) ?_
            exact J93 ((1 : Int32) <<< (a6 &&& 31)) hP
      · intro K J79 hP
        refine v_icmp_ne (tgt := 73) R dX11_allRings_65 (by decide) (fun q65 => ?_) (fun q65 => ?_)
        · have hP := hP.1 q65
          refine v_iconst R dX11_allRings_73 (v := (5 : Int32)) (by decide) ?_
          refine v_iload_1 R dX11_allRings_74 ?_
          refine v_imul R dX11_allRings_75 ?_
          refine v_iload_9 R dX11_allRings_76 ?_
          refine v_iadd R dX11_allRings_78 ?_
          refine v_wk R [some (.ref (φ 7)), some (.int a1), some (.ref (φ e2)), some (.ref (φ e3)), some (.ref (φ e4)), none, some (.int a6), some (.int a7), some (.int a8), some (.int a9)] ⟨rfl, ⟨rfl, ⟨rfl, ⟨rfl, ⟨rfl, ⟨rfl, ⟨rfl, ⟨rfl, ⟨rfl, trivial⟩⟩⟩⟩⟩⟩⟩⟩⟩ ?_
          exact J79 (((5 : Int32) * a1) + a9) hP
        · have hP := hP.2 q65
          refine v_bipush R dX11_allRings_68 (v := (10 : Int32)) (by decide) ?_
          refine v_goto (tgt := 79) R dX11_allRings_70 (by decide) ?_
          refine v_wk R [some (.ref (φ 7)), some (.int a1), some (.ref (φ e2)), some (.ref (φ e3)), some (.ref (φ e4)), none, some (.int a6), some (.int a7), some (.int a8), some (.int a9)] ⟨rfl, ⟨rfl, ⟨rfl, ⟨rfl, ⟨rfl, ⟨rfl, ⟨rfl, ⟨rfl, ⟨rfl, trivial⟩⟩⟩⟩⟩⟩⟩⟩⟩ ?_
          exact J79 (10 : Int32) hP
set_option maxRecDepth 100000 in
set_option maxHeartbeats 4000000 in
theorem L_Md_allRings_9 {l : Launch} {D : va_G} {cs : Nat → ClassId} {φ : Nat → Nat} {V : Nat → List (Option Value) → List Value → Hp → Prop} {e2 e3 e4 : Nat} {a1 : Int32} {h : Hp} {E : Int32 → Prop} (R : Ru l D cs φ RX11 cX11_allRings 10 4 106 V) (hk_e2 : kd e2 = 12) (hk_e3 : kd e3 = 12) (hk_e4 : kd e4 = 12) (hE : ∀ (a5 : Int32), E a5 → V 111 [none, none, none, none, none, some (.int a5), none, none, none, none] [] h) : ∀ (n : Nat) (a5 : Int32) (a6 : Int32) (a7 : Int32), lp_Md_allRings_9 n a1 e2 e3 e4 a5 a6 a7 h E → V 9 [some (.ref (φ 7)), some (.int a1), some (.ref (φ e2)), some (.ref (φ e3)), some (.ref (φ e4)), some (.int a5), some (.int a6), some (.int a7), none, none] [] h := by
  intro n
  induction n with
  | zero => intro a5 a6 a7 hP; exact hP.elim
  | succ n ih =>
    intro a5 a6 a7 hP
    unfold lp_Md_allRings_9 at hP
    refine v_iload_7 R dX11_allRings_9 ?_
    refine v_aload_0 R dX11_allRings_11 ?_
    refine g_Md_wires R dX11_allRings_12 fl_X11_81 ?_
    refine v_icmp_ge (tgt := 111) R dX11_allRings_15 (by decide) (fun q15 => ?_) (fun q15 => ?_)
    · have hP := hP.1 q15
      refine v_wk R [none, none, none, none, none, some (.int a5), none, none, none, none] ⟨rfl, trivial⟩ ?_
      exact hE a5 hP
    · have hP := hP.2 q15
      refine v_aload_0 R dX11_allRings_18 ?_
      refine v_iconst R dX11_allRings_19 (v := (5 : Int32)) (by decide) ?_
      refine v_iload_1 R dX11_allRings_20 ?_
      refine v_imul R dX11_allRings_21 ?_
      refine v_iload_7 R dX11_allRings_22 ?_
      refine v_iadd R dX11_allRings_24 ?_
      refine v_aload_2 R dX11_allRings_25 ?_
      refine v_aload_0 R dX11_allRings_26 ?_
      refine g_Md_hour R dX11_allRings_27 fl_X11_173 ?_
      refine v_aload_3 R dX11_allRings_30 ?_
      refine v_aload_4 R dX11_allRings_31 ?_
      refine v_iconst R dX11_allRings_33 (v := (0 : Int32)) (by decide) ?_
      refine v_iconst R dX11_allRings_34 (v := (0 : Int32)) (by decide) ?_
      refine cV7_ir R dX11_allRings_35 (c_Md_joined hk_e2 hk_e3 hk_e4 hP) rc_Md ml_X11_205 mv_Md_joined (by decide) (Nat.le_of_ble_eq_true rfl) (fun v35 hP => ?_)
      refine v_istore_8 R dX11_allRings_38 (by decide) rfl ?_
      refine v_iload_7 R dX11_allRings_40 ?_
      refine v_iconst R dX11_allRings_42 (v := (1 : Int32)) (by decide) ?_
      refine v_iadd R dX11_allRings_43 ?_
      refine v_istoreL_9 R dX11_allRings_44 (by decide) rfl hP (fun x44 hP => ?_)
      obtain ⟨n46, hP⟩ := hP
      refine L_Md_allRings_46 R hk_e2 hk_e3 hk_e4 ?_ n46 _ _ _ hP
      intro w46_5 w46_6 hP
      refine v_iincL_7 R (1 : Int32) dX11_allRings_105 (by decide) rfl (by decide) hP (fun x105 hP => ?_)
      refine v_goto (tgt := 9) R dX11_allRings_108 (by decide) ?_
      exact ih w46_5 w46_6 x105 hP
set_option maxRecDepth 100000 in
set_option maxHeartbeats 4000000 in
theorem c_Md_allRings {l : Launch} {D : va_G} {cs : Nat → ClassId} {φ : Nat → Nat} {c1 c2 c3 : Nat} {p0 : Int32} {h : Hp} {P : Int32 → Prop} (hk_c1 : kd c1 = 12) (hk_c2 : kd c2 = 12) (hk_c3 : kd c3 = 12) (hP : wp_Md_allRings p0 c1 c2 c3 h P) : Ct l D cs φ M_Md_allRings [.ref (φ 7), .int p0, .ref (φ c1), .ref (φ c2), .ref (φ c3)] h (fun rv h2 => ∃ v, rv = some (.int v) ∧ h2 = h ∧ P v) := by
  refine Ct.of (lc := [some (.ref (φ 7)), some (.int p0), some (.ref (φ c1)), some (.ref (φ c2)), some (.ref (φ c3)), none, none, none, none, none]) RX11 4 106 rfl (by decide +kernel) rfl (Nat.le_of_ble_eq_true rfl) rfl rfl (fun V R RI RV => ?_)
  have R : Ru l D cs φ RX11 cX11_allRings 10 4 106 V := R
  have Rt : ∀ pc lc v, decode cX11_allRings pc = .ok (.ireturn, 1) → P v → V pc lc [.int v] h := fun pc lc v hd hp => RI pc lc _ .int h rfl rfl hd ⟨v, rfl, rfl, hp⟩
  unfold wp_Md_allRings at hP
  refine v_iconst R dX11_allRings_0 (v := (0 : Int32)) (by decide) ?_
  refine v_istore_5 R dX11_allRings_1 (by decide) rfl ?_
  refine v_iconst R dX11_allRings_3 (v := (0 : Int32)) (by decide) ?_
  refine v_istore_6 R dX11_allRings_4 (by decide) rfl ?_
  refine v_iconst R dX11_allRings_6 (v := (0 : Int32)) (by decide) ?_
  refine v_istore_7 R dX11_allRings_7 (by decide) rfl ?_
  obtain ⟨n9, hP⟩ := hP
  refine L_Md_allRings_9 R hk_c1 hk_c2 hk_c3 ?_ n9 _ _ _ hP
  intro w9_5 hP
  refine v_iload_5 R dX11_allRings_111 ?_
  exact Rt _ _ _ dX11_allRings_113 hP
set_option maxRecDepth 100000 in
set_option maxHeartbeats 4000000 in
theorem L_Md_leftBy_34 {l : Launch} {D : va_G} {cs : Nat → ClassId} {φ : Nat → Nat} {V : Nat → List (Option Value) → List Value → Hp → Prop} {e2 e3 : Nat} {a1 a4 : Int32} {E : Int32 → Hp → Prop} (R : Ru l D cs φ RX11 cX11_leftBy 7 5 135 V) (hk_e2 : kd e2 = 12) (hk_e3 : kd e3 = 12) (hE : ∀ (a5 : Int32) (h : Hp), E a5 h → V 74 [none, none, none, none, none, some (.int a5), none] [] h) : ∀ (n : Nat) (a5 : Int32) (a6 : Int32) (h : Hp), lp_Md_leftBy_34 n a1 e2 e3 a4 a5 a6 h E → V 34 [some (.ref (φ 7)), some (.int a1), some (.ref (φ e2)), some (.ref (φ e3)), some (.int a4), some (.int a5), some (.int a6)] [] h := by
  intro n
  induction n with
  | zero => intro a5 a6 h hP; exact hP.elim
  | succ n ih =>
    intro a5 a6 h hP
    unfold lp_Md_leftBy_34 at hP
    refine v_iload_6 R dX11_leftBy_34 ?_
    refine v_if_eq (tgt := 74) R dX11_leftBy_36 (by decide) (fun q36 => ?_) (fun q36 => ?_)
    · have hP := hP.1 q36
      refine v_wk R [none, none, none, none, none, some (.int a5), none] ⟨rfl, trivial⟩ ?_
      exact hE a5 h hP
    · have hP := hP.2 q36
      refine v_iload_5 R dX11_leftBy_39 ?_
      refine v_aload_0 R dX11_leftBy_41 ?_
      refine v_iload_1 R dX11_leftBy_42 ?_
      refine v_aload_0 R dX11_leftBy_43 ?_
      refine g_Md_order R dX11_leftBy_44 fl_X11_57 ?_
      refine v_aload_2 R dX11_leftBy_47 ?_
      refine v_aload_3 R dX11_leftBy_48 ?_
      refine cV4_ir R dX11_leftBy_49 (c_Md_allRings rfl hk_e2 hk_e3 hP) rc_Md ml_X11_293 mv_Md_allRings (by decide) (Nat.le_of_ble_eq_true rfl) (fun v49 hP => ?_)
      refine v_iload_4 R dX11_leftBy_52 ?_
      refine jn_v (fun K => ∀ (z62_1 : Int32), K z62_1 → V 62 [some (.ref (φ 7)), some (.int a1), some (.ref (φ e2)), some (.ref (φ e3)), some (.int a4), none, none] [.int z62_1, .int a5] h) ?_ ?_ hP
      · intro z62_1 hP
        refine v_iadd R dX11_leftBy_62 ?_
        refine v_istoreL_5 R dX11_leftBy_63 (by decide) rfl hP (fun x63 hP => ?_)
        refine v_aload_0 R dX11_leftBy_65 ?_
        refine cV0_bw R dX11_leftBy_66 (c_Md_nextOrder hP) rc_Md ml_X11_287 mv_Md_nextOrder (by decide) (Nat.le_of_ble_eq_true rfl) (fun v66 h66 hP => ?_)
        refine v_istore_6 R dX11_leftBy_69 (by decide) rfl ?_
        refine v_goto (tgt := 34) R dX11_leftBy_71 (by decide) ?_
        exact ih x63 (bI v66) h66 hP
      · intro K J62 hP
        refine v_icmp_ne (tgt := 61) R dX11_leftBy_54 (by decide) (fun q54 => ?_) (fun q54 => ?_)
        · have hP := hP.1 q54
          refine v_iconst R dX11_leftBy_61 (v := (0 : Int32)) (by decide) ?_
          refine v_wk R [some (.ref (φ 7)), some (.int a1), some (.ref (φ e2)), some (.ref (φ e3)), some (.int a4), none, none] ⟨rfl, ⟨rfl, ⟨rfl, ⟨rfl, ⟨rfl, trivial⟩⟩⟩⟩⟩ ?_
          exact J62 (0 : Int32) hP
        · have hP := hP.2 q54
          refine v_iconst R dX11_leftBy_57 (v := (1 : Int32)) (by decide) ?_
          refine v_goto (tgt := 62) R dX11_leftBy_58 (by decide) ?_
          refine v_wk R [some (.ref (φ 7)), some (.int a1), some (.ref (φ e2)), some (.ref (φ e3)), some (.int a4), none, none] ⟨rfl, ⟨rfl, ⟨rfl, ⟨rfl, ⟨rfl, trivial⟩⟩⟩⟩⟩ ?_
          exact J62 (1 : Int32) hP
set_option maxRecDepth 100000 in
set_option maxHeartbeats 4000000 in
theorem c_Md_leftBy {l : Launch} {D : va_G} {cs : Nat → ClassId} {φ : Nat → Nat} {c1 c2 : Nat} {p0 : Int32} {h : Hp} {P : Int32 → Hp → Prop} (hk_c1 : kd c1 = 12) (hk_c2 : kd c2 = 12) (hP : wp_Md_leftBy p0 c1 c2 h P) : Ct l D cs φ M_Md_leftBy [.ref (φ 7), .int p0, .ref (φ c1), .ref (φ c2)] h (fun rv h2 => ∃ v, rv = some (.int v) ∧ P v h2) := by
  refine Ct.of (lc := [some (.ref (φ 7)), some (.int p0), some (.ref (φ c1)), some (.ref (φ c2)), none, none, none]) RX11 5 135 rfl (by decide +kernel) rfl (Nat.le_of_ble_eq_true rfl) rfl rfl (fun V R RI RV => ?_)
  have R : Ru l D cs φ RX11 cX11_leftBy 7 5 135 V := R
  have Rt : ∀ pc lc v h, decode cX11_leftBy pc = .ok (.ireturn, 1) → P v h → V pc lc [.int v] h := fun pc lc v h hd hp => RI pc lc _ .int h rfl rfl hd ⟨v, rfl, hp⟩
  unfold wp_Md_leftBy at hP
  refine v_aload_0 R dX11_leftBy_0 ?_
  refine v_iload_1 R dX11_leftBy_1 ?_
  refine v_aload_0 R dX11_leftBy_2 ?_
  refine g_Md_truly R dX11_leftBy_3 fl_X11_7 ?_
  refine v_aload_2 R dX11_leftBy_6 ?_
  refine v_aload_3 R dX11_leftBy_7 ?_
  refine cV4_ir R dX11_leftBy_8 (c_Md_allRings rfl hk_c1 hk_c2 hP) rc_Md ml_X11_293 mv_Md_allRings (by decide) (Nat.le_of_ble_eq_true rfl) (fun v8 hP => ?_)
  refine v_istore_4 R dX11_leftBy_11 (by decide) rfl ?_
  refine v_iconst R dX11_leftBy_13 (v := (0 : Int32)) (by decide) ?_
  refine v_istore_5 R dX11_leftBy_14 (by decide) rfl ?_
  refine v_aload_0 R dX11_leftBy_16 ?_
  refine cV0_vw R dX11_leftBy_17 (c_Md_firstOrder hP) rc_Md ml_X11_278 mv_Md_firstOrder (by decide) (Nat.le_of_ble_eq_true rfl) (fun h17 hP => ?_)
  refine v_aload_0 R dX11_leftBy_20 ?_
  refine g_Md_wires R dX11_leftBy_21 fl_X11_81 ?_
  refine jn_v (fun K => ∀ (z32_0 : Int32), K z32_0 → V 32 [some (.ref (φ 7)), some (.int p0), some (.ref (φ c1)), some (.ref (φ c2)), some (.int v8), some (.int (0 : Int32)), none] [.int z32_0] h17) ?_ ?_ hP
  · intro z32_0 hP
    refine v_istore_6 R dX11_leftBy_32 (by decide) rfl ?_
    obtain ⟨n34, hP⟩ := hP
    refine L_Md_leftBy_34 R hk_c1 hk_c2 ?_ n34 _ _ _ hP
    intro w34_5 h34x hP
    refine v_iload_5 R dX11_leftBy_74 ?_
    exact Rt _ _ _ _ dX11_leftBy_76 hP
  · intro K J32 hP
    refine v_if_le (tgt := 31) R dX11_leftBy_24 (by decide) (fun q24 => ?_) (fun q24 => ?_)
    · have hP := hP.1 q24
      refine v_iconst R dX11_leftBy_31 (v := (0 : Int32)) (by decide) ?_
      exact J32 (0 : Int32) hP
    · have hP := hP.2 q24
      refine v_iconst R dX11_leftBy_27 (v := (1 : Int32)) (by decide) ?_
      refine v_goto (tgt := 32) R dX11_leftBy_28 (by decide) ?_
      exact J32 (1 : Int32) hP
set_option maxRecDepth 100000 in
set_option maxHeartbeats 4000000 in
theorem c_Md_end {l : Launch} {D : va_G} {cs : Nat → ClassId} {φ : Nat → Nat} {p0 p1 : Int32} {h : Hp} {P : Int32 → Hp → Prop} (hP : wp_Md_end p0 p1 h P) : Ct l D cs φ M_Md_end [.ref (φ 7), .int p0, .int p1] h (fun rv h2 => ∃ v, rv = some (.int v) ∧ P v h2) := by
  refine Ct.of (lc := [some (.ref (φ 7)), some (.int p0), some (.int p1)]) RX11 6 151 rfl (by decide +kernel) rfl (Nat.le_of_ble_eq_true rfl) rfl rfl (fun V R RI RV => ?_)
  have R : Ru l D cs φ RX11 cX11_end 3 6 151 V := R
  have Rt : ∀ pc lc v h, decode cX11_end pc = .ok (.ireturn, 1) → P v h → V pc lc [.int v] h := fun pc lc v h hd hp => RI pc lc _ .int h rfl rfl hd ⟨v, rfl, hp⟩
  unfold wp_Md_end at hP
  refine v_aload_0 R dX11_end_0 ?_
  refine v_iload_1 R dX11_end_1 ?_
  refine cV1_br R dX11_end_2 (c_Md_isWire hP) rc_Md ml_X11_88 mv_Md_isWire (by decide) (Nat.le_of_ble_eq_true rfl) (fun v2 hP => ?_)
  refine v_ifb_ne (tgt := 11) R dX11_end_5 (by decide) (fun q5 => ?_) (fun q5 => ?_)
  · have hP := hP.1 q5
    refine v_iload_2 R dX11_end_11 ?_
    refine v_iconst R dX11_end_12 (v := (0 : Int32)) (by decide) ?_
    refine v_iconst R dX11_end_13 (v := (3 : Int32)) (by decide) ?_
    refine cS3_br R dX11_end_14 (c_Md_in hP) ml_X11_84 mv_Md_in (by decide) (Nat.le_of_ble_eq_true rfl) (fun v14 hP => ?_)
    refine v_ifb_ne (tgt := 23) R dX11_end_17 (by decide) (fun q17 => ?_) (fun q17 => ?_)
    · have hP := hP.1 q17
      refine v_iload_2 R dX11_end_23 ?_
      refine v_iconst R dX11_end_24 (v := (2 : Int32)) (by decide) ?_
      refine v_icmp_ge (tgt := 48) R dX11_end_25 (by decide) (fun q25 => ?_) (fun q25 => ?_)
      · have hP := hP.1 q25
        refine v_aload_0 R dX11_end_48 ?_
        refine cV0_vw R dX11_end_49 (c_Md_setCould hP) rc_Md ml_X11_290 mv_Md_setCould (by decide) (Nat.le_of_ble_eq_true rfl) (fun h49 hP => ?_)
        refine v_iload_2 R dX11_end_52 ?_
        refine v_iconst R dX11_end_53 (v := (2 : Int32)) (by decide) ?_
        refine v_icmp_ne (tgt := 66) R dX11_end_54 (by decide) (fun q54 => ?_) (fun q54 => ?_)
        · have hP := hP.1 q54
          refine v_aload_0 R dX11_end_66 ?_
          refine g_Md_firstOnes R dX11_end_67 fl_X11_66 ?_
          refine v_iload_1 R dX11_end_70 ?_
          obtain ⟨hi71, hP⟩ := hP
          refine v_iald R dX11_end_71 rfl hi71 ?_
          exact Rt _ _ _ _ dX11_end_72 hP
        · have hP := hP.2 q54
          refine v_aload_0 R dX11_end_57 ?_
          refine g_Md_couldSets R dX11_end_58 fl_X11_63 ?_
          refine v_iload_1 R dX11_end_61 ?_
          obtain ⟨hi62, hP⟩ := hP
          refine v_iald R dX11_end_62 rfl hi62 ?_
          refine v_goto (tgt := 72) R dX11_end_63 (by decide) ?_
          exact Rt _ _ _ _ dX11_end_72 hP
      · have hP := hP.2 q25
        refine v_iload_2 R dX11_end_28 ?_
        refine v_if_ne (tgt := 41) R dX11_end_29 (by decide) (fun q29 => ?_) (fun q29 => ?_)
        · have hP := hP.1 q29
          refine v_aload_0 R dX11_end_41 ?_
          refine g_Md_far R dX11_end_42 fl_X11_19 ?_
          refine v_iload_1 R dX11_end_45 ?_
          obtain ⟨hi46, hP⟩ := hP
          refine v_iald R dX11_end_46 rfl hi46 ?_
          exact Rt _ _ _ _ dX11_end_47 hP
        · have hP := hP.2 q29
          refine v_aload_0 R dX11_end_32 ?_
          refine g_Md_truly R dX11_end_33 fl_X11_7 ?_
          refine v_iload_1 R dX11_end_36 ?_
          obtain ⟨hi37, hP⟩ := hP
          refine v_iald R dX11_end_37 rfl hi37 ?_
          refine v_goto (tgt := 47) R dX11_end_38 (by decide) ?_
          exact Rt _ _ _ _ dX11_end_47 hP
    · have hP := hP.2 q17
      refine v_ldc R dX11_end_20 ct_X11_106 ?_
      exact Rt _ _ _ _ dX11_end_22 hP
  · have hP := hP.2 q5
    refine v_ldc R dX11_end_8 ct_X11_215 ?_
    exact Rt _ _ _ _ dX11_end_10 hP
set_option maxRecDepth 100000 in
set_option maxHeartbeats 4000000 in
theorem L_Md_nextWay_15 {l : Launch} {D : va_G} {cs : Nat → ClassId} {φ : Nat → Nat} {V : Nat → List (Option Value) → List Value → Hp → Prop} {a1 : Int32} {h : Hp} {E : Int32 → Prop} (R : Ru l D cs φ RX11 cX11_nextWay 4 0 0 V) (hE : ∀ (a2 : Int32), E a2 → V 47 [some (.ref (φ 7)), some (.int a1), some (.int a2), none] [] h) : ∀ (n : Nat) (a2 : Int32) (a3 : Int32), lp_Md_nextWay_15 n a1 a2 a3 h E → V 15 [some (.ref (φ 7)), some (.int a1), some (.int a2), some (.int a3)] [] h := by
  intro n
  induction n with
  | zero => intro a2 a3 hP; exact hP.elim
  | succ n ih =>
    intro a2 a3 hP
    unfold lp_Md_nextWay_15 at hP
    refine v_iload_3 R dX11_nextWay_15 ?_
    refine v_iload_1 R dX11_nextWay_16 ?_
    refine v_icmp_ge (tgt := 47) R dX11_nextWay_17 (by decide) (fun q17 => ?_) (fun q17 => ?_)
    · have hP := hP.1 q17
      refine v_wk R [some (.ref (φ 7)), some (.int a1), some (.int a2), none] ⟨rfl, ⟨rfl, ⟨rfl, trivial⟩⟩⟩ ?_
      exact hE a2 hP
    · have hP := hP.2 q17
      refine v_aload_0 R dX11_nextWay_20 ?_
      refine g_Md_ways R dX11_nextWay_21 fl_X11_72 ?_
      refine v_iload_3 R dX11_nextWay_24 ?_
      obtain ⟨hi25, hP⟩ := hP
      refine v_iald R dX11_nextWay_25 rfl hi25 ?_
      refine v_iload_2 R dX11_nextWay_26 ?_
      refine jn_v (fun K => ∀ (z40_0 : Int32), K z40_0 → V 40 [some (.ref (φ 7)), some (.int a1), none, some (.int a3)] [.int z40_0] h) ?_ ?_ hP
      · intro z40_0 hP
        refine v_istore_2 R dX11_nextWay_40 (by decide) rfl ?_
        refine v_iincL_3 R (1 : Int32) dX11_nextWay_41 (by decide) rfl (by decide) hP (fun x41 hP => ?_)
        refine v_goto (tgt := 15) R dX11_nextWay_44 (by decide) ?_
        exact ih z40_0 x41 hP
      · intro K J40 hP
        refine v_icmp_le (tgt := 39) R dX11_nextWay_27 (by decide) (fun q27 => ?_) (fun q27 => ?_)
        · have hP := hP.1 q27
          refine v_iload_2 R dX11_nextWay_39 ?_
          refine v_wk R [some (.ref (φ 7)), some (.int a1), none, some (.int a3)] ⟨rfl, ⟨rfl, ⟨rfl, trivial⟩⟩⟩ ?_
          exact J40 a2 hP
        · have hP := hP.2 q27
          refine v_aload_0 R dX11_nextWay_30 ?_
          refine g_Md_ways R dX11_nextWay_31 fl_X11_72 ?_
          refine v_iload_3 R dX11_nextWay_34 ?_
          obtain ⟨hi35, hP⟩ := hP
          refine v_iald R dX11_nextWay_35 rfl hi35 ?_
          refine v_goto (tgt := 40) R dX11_nextWay_36 (by decide) ?_
          refine v_wk R [some (.ref (φ 7)), some (.int a1), none, some (.int a3)] ⟨rfl, ⟨rfl, ⟨rfl, trivial⟩⟩⟩ ?_
          exact J40 (h.1 96 (a3).toNatClampNeg) hP
set_option maxRecDepth 100000 in
set_option maxHeartbeats 4000000 in
theorem L_Md_nextWay_7 {l : Launch} {D : va_G} {cs : Nat → ClassId} {φ : Nat → Nat} {V : Nat → List (Option Value) → List Value → Hp → Prop} {E : Hp → Prop} {P : Bool → Hp → Prop} (R : Ru l D cs φ RX11 cX11_nextWay 4 0 0 V) (hE : ∀ (h : Hp), E h → V 82 [none, none, none, none] [] h) (Rt : ∀ pc lc v h, decode cX11_nextWay pc = .ok (.ireturn, 1) → P v h → V pc lc [.int (bI v)] h) : ∀ (n : Nat) (a1 : Int32) (h : Hp), lp_Md_nextWay_7 n a1 h E P → V 7 [some (.ref (φ 7)), some (.int a1), none, none] [] h := by
  intro n
  induction n with
  | zero => intro a1 h hP; exact hP.elim
  | succ n ih =>
    intro a1 h hP
    unfold lp_Md_nextWay_7 at hP
    refine v_iload_1 R dX11_nextWay_7 ?_
    refine v_if_le (tgt := 82) R dX11_nextWay_8 (by decide) (fun q8 => ?_) (fun q8 => ?_)
    · have hP := hP.1 q8
      refine v_wk R [none, none, none, none] trivial ?_
      exact hE h hP
    · have hP := hP.2 q8
      refine v_iconst R dX11_nextWay_11 (v := (0 : Int32)) (by decide) ?_
      refine v_istore_2 R dX11_nextWay_12 (by decide) rfl ?_
      refine v_iconst R dX11_nextWay_13 (v := (0 : Int32)) (by decide) ?_
      refine v_istore_3 R dX11_nextWay_14 (by decide) rfl ?_
      obtain ⟨n15, hP⟩ := hP
      refine L_Md_nextWay_15 R ?_ n15 _ _ hP
      intro w15_2 hP
      refine v_aload_0 R dX11_nextWay_47 ?_
      refine g_Md_ways R dX11_nextWay_48 fl_X11_72 ?_
      refine v_iload_1 R dX11_nextWay_51 ?_
      obtain ⟨hi52, hP⟩ := hP
      refine v_iald R dX11_nextWay_52 rfl hi52 ?_
      refine v_iload_2 R dX11_nextWay_53 ?_
      refine v_icmp_gt (tgt := 69) R dX11_nextWay_54 (by decide) (fun q54 => ?_) (fun q54 => ?_)
      · have hP := hP.1 q54
        refine v_aload_0 R dX11_nextWay_69 ?_
        refine g_Md_ways R dX11_nextWay_70 fl_X11_72 ?_
        refine v_iload_1 R dX11_nextWay_73 ?_
        refine v_iconst R dX11_nextWay_74 (v := (1 : Int32)) (by decide) ?_
        obtain ⟨hi75, hP⟩ := hP
        refine v_iastL R dX11_nextWay_75 rfl hi75 hP (fun h75 hP => ?_)
        refine v_iincL_1 R (-1 : Int32) dX11_nextWay_76 (by decide) rfl (by decide) hP (fun x76 hP => ?_)
        refine v_goto (tgt := 7) R dX11_nextWay_79 (by decide) ?_
        refine v_wk R [some (.ref (φ 7)), some (.int x76), none, none] ⟨rfl, ⟨rfl, trivial⟩⟩ ?_
        exact ih x76 h75 hP
      · have hP := hP.2 q54
        refine v_aload_0 R dX11_nextWay_57 ?_
        refine g_Md_ways R dX11_nextWay_58 fl_X11_72 ?_
        refine v_iload_1 R dX11_nextWay_61 ?_
        refine v_dup2 R dX11_nextWay_62 rfl rfl ?_
        obtain ⟨hi63, hP⟩ := hP
        refine v_iald R dX11_nextWay_63 rfl hi63 ?_
        refine v_iconst R dX11_nextWay_64 (v := (1 : Int32)) (by decide) ?_
        refine v_iadd R dX11_nextWay_65 ?_
        obtain ⟨hi66, hP⟩ := hP
        refine v_iastL R dX11_nextWay_66 rfl hi66 hP (fun h66 hP => ?_)
        refine v_iconst R dX11_nextWay_67 (v := (1 : Int32)) (by decide) ?_
        exact Rt _ _ true _ dX11_nextWay_68 hP
set_option maxRecDepth 100000 in
set_option maxHeartbeats 4000000 in
theorem c_Md_nextWay {l : Launch} {D : va_G} {cs : Nat → ClassId} {φ : Nat → Nat} {h : Hp} {P : Bool → Hp → Prop} (hP : wp_Md_nextWay h P) : Ct l D cs φ M_Md_nextWay [.ref (φ 7)] h (fun rv h2 => ∃ v, rv = some (.int (bI v)) ∧ P v h2) := by
  refine Ct.of (lc := [some (.ref (φ 7)), none, none, none]) RX11 0 0 rfl (by decide +kernel) rfl (Nat.le_of_ble_eq_true rfl) rfl rfl (fun V R RI RV => ?_)
  have R : Ru l D cs φ RX11 cX11_nextWay 4 0 0 V := R
  have Rt : ∀ pc lc v h, decode cX11_nextWay pc = .ok (.ireturn, 1) → P v h → V pc lc [.int (bI v)] h := fun pc lc v h hd hp => RI pc lc _ .boolean h rfl (bI_n v) hd ⟨v, rfl, hp⟩
  unfold wp_Md_nextWay at hP
  refine v_aload_0 R dX11_nextWay_0 ?_
  refine g_Md_wires R dX11_nextWay_1 fl_X11_81 ?_
  refine v_iconst R dX11_nextWay_4 (v := (1 : Int32)) (by decide) ?_
  refine v_isub R dX11_nextWay_5 ?_
  refine v_istoreL_1 R dX11_nextWay_6 (by decide) rfl hP (fun x6 hP => ?_)
  obtain ⟨n7, hP⟩ := hP
  refine L_Md_nextWay_7 R ?_ Rt n7 _ _ hP
  intro h7x hP
  refine v_iconst R dX11_nextWay_82 (v := (0 : Int32)) (by decide) ?_
  exact Rt _ _ false _ dX11_nextWay_83 hP
set_option maxRecDepth 100000 in
set_option maxHeartbeats 4000000 in
theorem L_Md_ties_28 {l : Launch} {D : va_G} {cs : Nat → ClassId} {φ : Nat → Nat} {V : Nat → List (Option Value) → List Value → Hp → Prop} {a1 : Int32} {E : Hp → Prop} (R : Ru l D cs φ RX11 cX11_ties 6 6 161 V) (hE : ∀ (h : Hp), E h → V 46 [some (.ref (φ 7)), some (.int a1), none, none, none, none] [] h) : ∀ (n : Nat) (a2 : Int32) (h : Hp), lp_Md_ties_28 n a1 a2 h E → V 28 [some (.ref (φ 7)), some (.int a1), some (.int a2), none, none, none] [] h := by
  intro n
  induction n with
  | zero => intro a2 h hP; exact hP.elim
  | succ n ih =>
    intro a2 h hP
    unfold lp_Md_ties_28 at hP
    refine v_iload_2 R dX11_ties_28 ?_
    refine v_iconst R dX11_ties_29 (v := (5 : Int32)) (by decide) ?_
    refine v_icmp_ge (tgt := 46) R dX11_ties_30 (by decide) (fun q30 => ?_) (fun q30 => ?_)
    · have hP := hP.1 q30
      refine v_wk R [some (.ref (φ 7)), some (.int a1), none, none, none, none] ⟨rfl, ⟨rfl, trivial⟩⟩ ?_
      exact hE h hP
    · have hP := hP.2 q30
      refine v_aload_0 R dX11_ties_33 ?_
      refine g_Md_ways R dX11_ties_34 fl_X11_72 ?_
      refine v_iload_2 R dX11_ties_37 ?_
      refine v_iconst R dX11_ties_38 (v := (1 : Int32)) (by decide) ?_
      obtain ⟨hi39, hP⟩ := hP
      refine v_iastL R dX11_ties_39 rfl hi39 hP (fun h39 hP => ?_)
      refine v_iincL_2 R (1 : Int32) dX11_ties_40 (by decide) rfl (by decide) hP (fun x40 hP => ?_)
      refine v_goto (tgt := 28) R dX11_ties_43 (by decide) ?_
      exact ih x40 h39 hP
set_option maxRecDepth 100000 in
set_option maxHeartbeats 4000000 in
theorem L_Md_ties_83 {l : Launch} {D : va_G} {cs : Nat → ClassId} {φ : Nat → Nat} {V : Nat → List (Option Value) → List Value → Hp → Prop} {a1 a2 : Int32} {E : Hp → Prop} (R : Ru l D cs φ RX11 cX11_ties 6 6 161 V) (hE : ∀ (h : Hp), E h → V 112 [some (.ref (φ 7)), some (.int a1), some (.int a2), none, none, none] [] h) : ∀ (n : Nat) (a5 : Int32) (h : Hp), lp_Md_ties_83 n a1 a2 a5 h E → V 83 [some (.ref (φ 7)), some (.int a1), some (.int a2), none, none, some (.int a5)] [] h := by
  intro n
  induction n with
  | zero => intro a5 h hP; exact hP.elim
  | succ n ih =>
    intro a5 h hP
    unfold lp_Md_ties_83 at hP
    refine v_iload_5 R dX11_ties_83 ?_
    refine v_aload_0 R dX11_ties_85 ?_
    refine g_Md_wires R dX11_ties_86 fl_X11_81 ?_
    refine v_icmp_ge (tgt := 112) R dX11_ties_89 (by decide) (fun q89 => ?_) (fun q89 => ?_)
    · have hP := hP.1 q89
      refine v_wk R [some (.ref (φ 7)), some (.int a1), some (.int a2), none, none, none] ⟨rfl, ⟨rfl, ⟨rfl, trivial⟩⟩⟩ ?_
      exact hE h hP
    · have hP := hP.2 q89
      refine v_aload_0 R dX11_ties_92 ?_
      refine g_Md_bestWays R dX11_ties_93 fl_X11_78 ?_
      refine v_iload_5 R dX11_ties_96 ?_
      refine v_aload_0 R dX11_ties_98 ?_
      refine g_Md_ways R dX11_ties_99 fl_X11_72 ?_
      refine v_iload_5 R dX11_ties_102 ?_
      obtain ⟨hi104, hP⟩ := hP
      refine v_iald R dX11_ties_104 rfl hi104 ?_
      obtain ⟨hi105, hP⟩ := hP
      refine v_iastL R dX11_ties_105 rfl hi105 hP (fun h105 hP => ?_)
      refine v_iincL_5 R (1 : Int32) dX11_ties_106 (by decide) rfl (by decide) hP (fun x106 hP => ?_)
      refine v_goto (tgt := 83) R dX11_ties_109 (by decide) ?_
      exact ih x106 h105 hP
set_option maxRecDepth 100000 in
set_option maxHeartbeats 4000000 in
theorem L_Md_ties_52 {l : Launch} {D : va_G} {cs : Nat → ClassId} {φ : Nat → Nat} {V : Nat → List (Option Value) → List Value → Hp → Prop} {a1 : Int32} {E : Int32 → Hp → Prop} (R : Ru l D cs φ RX11 cX11_ties 6 6 161 V) (hE : ∀ (a2 : Int32) (h : Hp), E a2 h → V 120 [some (.ref (φ 7)), some (.int a1), some (.int a2), none, none, none] [] h) : ∀ (n : Nat) (a2 : Int32) (a3 : Int32) (h : Hp), lp_Md_ties_52 n a1 a2 a3 h E → V 52 [some (.ref (φ 7)), some (.int a1), some (.int a2), some (.int a3), none, none] [] h := by
  intro n
  induction n with
  | zero => intro a2 a3 h hP; exact hP.elim
  | succ n ih =>
    intro a2 a3 h hP
    unfold lp_Md_ties_52 at hP
    refine v_iload_3 R dX11_ties_52 ?_
    refine v_if_eq (tgt := 120) R dX11_ties_53 (by decide) (fun q53 => ?_) (fun q53 => ?_)
    · have hP := hP.1 q53
      refine v_wk R [some (.ref (φ 7)), some (.int a1), some (.int a2), none, none, none] ⟨rfl, ⟨rfl, ⟨rfl, trivial⟩⟩⟩ ?_
      exact hE a2 h hP
    · have hP := hP.2 q53
      refine v_aload_0 R dX11_ties_56 ?_
      refine v_iconst R dX11_ties_57 (v := (1 : Int32)) (by decide) ?_
      refine v_aload_0 R dX11_ties_58 ?_
      refine g_Md_ways R dX11_ties_59 fl_X11_72 ?_
      refine v_aload_0 R dX11_ties_62 ?_
      refine g_Md_untied R dX11_ties_63 fl_X11_75 ?_
      refine cV3_iw R dX11_ties_66 (c_Md_leftBy rfl rfl hP) rc_Md ml_X11_297 mv_Md_leftBy (by decide) (Nat.le_of_ble_eq_true rfl) (fun v66 h66 hP => ?_)
      refine v_istore_4 R dX11_ties_69 (by decide) rfl ?_
      refine v_iload_4 R dX11_ties_71 ?_
      refine v_iload_2 R dX11_ties_73 ?_
      refine jn_v (fun K => ∀ (y112_2 : Int32) (h112 : Hp), K y112_2 h112 → V 112 [some (.ref (φ 7)), some (.int a1), some (.int y112_2), none, none, none] [] h112) ?_ ?_ hP
      · intro y112_2 h112 hP
        refine v_aload_0 R dX11_ties_112 ?_
        refine cV0_bw R dX11_ties_113 (c_Md_nextWay hP) rc_Md ml_X11_301 mv_Md_nextWay (by decide) (Nat.le_of_ble_eq_true rfl) (fun v113 h113 hP => ?_)
        refine v_istore_3 R dX11_ties_116 (by decide) rfl ?_
        refine v_goto (tgt := 52) R dX11_ties_117 (by decide) ?_
        exact ih y112_2 (bI v113) h113 hP
      · intro K J112 hP
        refine v_icmp_ge (tgt := 112) R dX11_ties_74 (by decide) (fun q74 => ?_) (fun q74 => ?_)
        · have hP := hP.1 q74
          refine v_wk R [some (.ref (φ 7)), some (.int a1), some (.int a2), none, none, none] ⟨rfl, ⟨rfl, ⟨rfl, trivial⟩⟩⟩ ?_
          exact J112 a2 h66 hP
        · have hP := hP.2 q74
          refine v_iload_4 R dX11_ties_77 ?_
          refine v_istore_2 R dX11_ties_79 (by decide) rfl ?_
          refine v_iconst R dX11_ties_80 (v := (0 : Int32)) (by decide) ?_
          refine v_istore_5 R dX11_ties_81 (by decide) rfl ?_
          refine v_wk R [some (.ref (φ 7)), some (.int a1), some (.int v66), none, none, some (.int (0 : Int32))] ⟨rfl, ⟨rfl, ⟨rfl, ⟨rfl, trivial⟩⟩⟩⟩ ?_
          obtain ⟨n83, hP⟩ := hP
          refine L_Md_ties_83 R ?_ n83 _ _ hP
          intro h83x hP
          exact J112 v66 h83x hP
set_option maxRecDepth 100000 in
set_option maxHeartbeats 4000000 in
theorem c_Md_ties {l : Launch} {D : va_G} {cs : Nat → ClassId} {φ : Nat → Nat} {p0 : Int32} {h : Hp} {P : Int32 → Hp → Prop} (hP : wp_Md_ties p0 h P) : Ct l D cs φ M_Md_ties [.ref (φ 7), .int p0] h (fun rv h2 => ∃ v, rv = some (.int v) ∧ P v h2) := by
  refine Ct.of (lc := [some (.ref (φ 7)), some (.int p0), none, none, none, none]) RX11 6 161 rfl (by decide +kernel) rfl (Nat.le_of_ble_eq_true rfl) rfl rfl (fun V R RI RV => ?_)
  have R : Ru l D cs φ RX11 cX11_ties 6 6 161 V := R
  have Rt : ∀ pc lc v h, decode cX11_ties pc = .ok (.ireturn, 1) → P v h → V pc lc [.int v] h := fun pc lc v h hd hp => RI pc lc _ .int h rfl rfl hd ⟨v, rfl, hp⟩
  unfold wp_Md_ties at hP
  refine v_iload_1 R dX11_ties_0 ?_
  refine v_iconst R dX11_ties_1 (v := (-1 : Int32)) (by decide) ?_
  refine jn_v (fun K => K → V 16 [some (.ref (φ 7)), some (.int p0), none, none, none, none] [] h) ?_ ?_ hP
  · intro hP
    refine v_aload_0 R dX11_ties_16 ?_
    refine g_Md_wires R dX11_ties_17 fl_X11_81 ?_
    refine v_if_ne (tgt := 26) R dX11_ties_20 (by decide) (fun q20 => ?_) (fun q20 => ?_)
    · have hP := hP.1 q20
      refine v_iconst R dX11_ties_26 (v := (0 : Int32)) (by decide) ?_
      refine v_istore_2 R dX11_ties_27 (by decide) rfl ?_
      obtain ⟨n28, hP⟩ := hP
      refine L_Md_ties_28 R ?_ n28 _ _ hP
      intro h28x hP
      refine v_ldcw R dX11_ties_46 ct_X11_271 ?_
      refine v_istore_2 R dX11_ties_49 (by decide) rfl ?_
      refine v_iconst R dX11_ties_50 (v := (1 : Int32)) (by decide) ?_
      refine v_istore_3 R dX11_ties_51 (by decide) rfl ?_
      obtain ⟨n52, hP⟩ := hP
      refine L_Md_ties_52 R ?_ n52 _ _ _ hP
      intro w52_2 h52x hP
      refine v_iload_1 R dX11_ties_120 ?_
      refine v_iconst R dX11_ties_121 (v := (-1 : Int32)) (by decide) ?_
      refine v_icmp_ne (tgt := 129) R dX11_ties_122 (by decide) (fun q122 => ?_) (fun q122 => ?_)
      · have hP := hP.1 q122
        refine v_aload_0 R dX11_ties_129 ?_
        refine g_Md_bestWays R dX11_ties_130 fl_X11_78 ?_
        refine v_iload_1 R dX11_ties_133 ?_
        obtain ⟨hi134, hP⟩ := hP
        refine v_iald R dX11_ties_134 rfl hi134 ?_
        refine v_iconst R dX11_ties_135 (v := (1 : Int32)) (by decide) ?_
        refine v_isub R dX11_ties_136 ?_
        exact Rt _ _ _ _ dX11_ties_137 hP
      · have hP := hP.2 q122
        refine v_iload_2 R dX11_ties_125 ?_
        refine v_goto (tgt := 137) R dX11_ties_126 (by decide) ?_
        exact Rt _ _ _ _ dX11_ties_137 hP
    · have hP := hP.2 q20
      refine v_ldc R dX11_ties_23 ct_X11_230 ?_
      exact Rt _ _ _ _ dX11_ties_25 hP
  · intro K J16 hP
    refine v_icmp_eq (tgt := 16) R dX11_ties_2 (by decide) (fun q2 => ?_) (fun q2 => ?_)
    · have hP := hP.1 q2
      exact J16 hP
    · have hP := hP.2 q2
      refine v_aload_0 R dX11_ties_5 ?_
      refine v_iload_1 R dX11_ties_6 ?_
      refine cV1_br R dX11_ties_7 (c_Md_isWire hP) rc_Md ml_X11_88 mv_Md_isWire (by decide) (Nat.le_of_ble_eq_true rfl) (fun v7 hP => ?_)
      refine v_ifb_ne (tgt := 16) R dX11_ties_10 (by decide) (fun q10 => ?_) (fun q10 => ?_)
      · have hP := hP.1 q10
        exact J16 hP
      · have hP := hP.2 q10
        refine v_ldc R dX11_ties_13 ct_X11_215 ?_
        exact Rt _ _ _ _ dX11_ties_15 hP
set_option maxRecDepth 100000 in
set_option maxHeartbeats 4000000 in
theorem L_Md_dry_30 {l : Launch} {D : va_G} {cs : Nat → ClassId} {φ : Nat → Nat} {V : Nat → List (Option Value) → List Value → Hp → Prop} {a1 a2 : Int32} {h : Hp} {E : Int64 → Prop} (R : Ru l D cs φ RX11 cX11_dry 6 1 22 V) (hE : ∀ (a3 : Int64), E a3 → V 51 [none, none, none, some (.long a3), none, none] [] h) : ∀ (n : Nat) (a3 : Int64) (a5 : Int32), lp_Md_dry_30 n a1 a2 a3 a5 E → V 30 [none, some (.int a1), some (.int a2), some (.long a3), none, some (.int a5)] [] h := by
  intro n
  induction n with
  | zero => intro a3 a5 hP; exact hP.elim
  | succ n ih =>
    intro a3 a5 hP
    unfold lp_Md_dry_30 at hP
    refine v_iload_5 R dX11_dry_30 ?_
    refine v_iload_1 R dX11_dry_32 ?_
    refine v_icmp_ge (tgt := 51) R dX11_dry_33 (by decide) (fun q33 => ?_) (fun q33 => ?_)
    · have hP := hP.1 q33
      refine v_wk R [none, none, none, some (.long a3), none, none] ⟨rfl, trivial⟩ ?_
      exact hE a3 hP
    · have hP := hP.2 q33
      refine v_lload_3 R dX11_dry_36 ?_
      refine v_iload_2 R dX11_dry_37 ?_
      refine v_i2l R dX11_dry_38 ?_
      refine v_lmul R dX11_dry_39 ?_
      refine v_ldc2 R dX11_dry_40 ct_X11_306 ?_
      refine v_ldiv R dX11_dry_43 (by decide) ?_
      refine v_lstoreL_3 R dX11_dry_44 (by decide) rfl hP (fun x44 hP => ?_)
      refine v_iincL_5 R (1 : Int32) dX11_dry_45 (by decide) rfl (by decide) hP (fun x45 hP => ?_)
      refine v_goto (tgt := 30) R dX11_dry_48 (by decide) ?_
      exact ih x44 x45 hP
set_option maxRecDepth 100000 in
set_option maxHeartbeats 4000000 in
theorem c_Md_dry {l : Launch} {D : va_G} {cs : Nat → ClassId} {φ : Nat → Nat} {p0 p1 : Int32} {h : Hp} {P : Int32 → Prop} (hP : wp_Md_dry p0 p1 P) : Ct l D cs φ M_Md_dry [.ref (φ 7), .int p0, .int p1] h (fun rv h2 => ∃ v, rv = some (.int v) ∧ h2 = h ∧ P v) := by
  refine Ct.of (lc := [some (.ref (φ 7)), some (.int p0), some (.int p1), none, none, none]) RX11 1 22 rfl (by decide +kernel) rfl (Nat.le_of_ble_eq_true rfl) rfl rfl (fun V R RI RV => ?_)
  have R : Ru l D cs φ RX11 cX11_dry 6 1 22 V := R
  have Rt : ∀ pc lc v, decode cX11_dry pc = .ok (.ireturn, 1) → P v → V pc lc [.int v] h := fun pc lc v hd hp => RI pc lc _ .int h rfl rfl hd ⟨v, rfl, rfl, hp⟩
  unfold wp_Md_dry at hP
  refine v_iload_1 R dX11_dry_0 ?_
  refine v_iconst R dX11_dry_1 (v := (0 : Int32)) (by decide) ?_
  refine v_bipush R dX11_dry_2 (v := (60 : Int32)) (by decide) ?_
  refine cS3_br R dX11_dry_4 (c_Md_in hP) ml_X11_84 mv_Md_in (by decide) (Nat.le_of_ble_eq_true rfl) (fun v4 hP => ?_)
  refine v_ifb_eq (tgt := 20) R dX11_dry_7 (by decide) (fun q7 => ?_) (fun q7 => ?_)
  · have hP := hP.1 q7
    refine v_ldc R dX11_dry_20 ct_X11_106 ?_
    exact Rt _ _ _ dX11_dry_22 hP
  · have hP := hP.2 q7
    refine v_iload_2 R dX11_dry_10 ?_
    refine v_iconst R dX11_dry_11 (v := (0 : Int32)) (by decide) ?_
    refine v_bipush R dX11_dry_12 (v := (100 : Int32)) (by decide) ?_
    refine cS3_br R dX11_dry_14 (c_Md_in hP) ml_X11_84 mv_Md_in (by decide) (Nat.le_of_ble_eq_true rfl) (fun v14 hP => ?_)
    refine v_ifb_ne (tgt := 23) R dX11_dry_17 (by decide) (fun q17 => ?_) (fun q17 => ?_)
    · have hP := hP.1 q17
      refine v_ldc2 R dX11_dry_23 ct_X11_304 ?_
      refine v_lstoreL_3 R dX11_dry_26 (by decide) rfl hP (fun x26 hP => ?_)
      refine v_iconst R dX11_dry_27 (v := (0 : Int32)) (by decide) ?_
      refine v_istore_5 R dX11_dry_28 (by decide) rfl ?_
      refine v_wk R [none, some (.int p0), some (.int p1), some (.long x26), none, some (.int (0 : Int32))] ⟨rfl, ⟨rfl, ⟨rfl, ⟨rfl, trivial⟩⟩⟩⟩ ?_
      obtain ⟨n30, hP⟩ := hP
      refine L_Md_dry_30 R ?_ n30 _ _ hP
      intro w30_3 hP
      refine v_lload_3 R dX11_dry_51 ?_
      refine v_l2i R dX11_dry_52 ?_
      exact Rt _ _ _ dX11_dry_53 hP
    · have hP := hP.2 q17
      refine v_ldc R dX11_dry_20 ct_X11_106 ?_
      exact Rt _ _ _ dX11_dry_22 hP
set_option maxRecDepth 100000 in
set_option maxHeartbeats 4000000 in
theorem L_Md_see_98 {l : Launch} {D : va_G} {cs : Nat → ClassId} {φ : Nat → Nat} {V : Nat → List (Option Value) → List Value → Hp → Prop} {a4 : Int32} {E : Hp → Prop} (R : Ru l D cs φ RX11 cX11_see 6 3 65 V) (hE : ∀ (h : Hp), E h → V 148 [some (.ref (φ 7)), none, none, none, none, none] [] h) : ∀ (n : Nat) (a5 : Int32) (h : Hp), lp_Md_see_98 n a4 a5 h E → V 98 [some (.ref (φ 7)), none, none, none, some (.int a4), some (.int a5)] [] h := by
  intro n
  induction n with
  | zero => intro a5 h hP; exact hP.elim
  | succ n ih =>
    intro a5 h hP
    unfold lp_Md_see_98 at hP
    refine v_iload_5 R dX11_see_98 ?_
    refine v_iconst R dX11_see_100 (v := (5 : Int32)) (by decide) ?_
    refine v_icmp_ge (tgt := 148) R dX11_see_101 (by decide) (fun q101 => ?_) (fun q101 => ?_)
    · have hP := hP.1 q101
      refine v_wk R [some (.ref (φ 7)), none, none, none, none, none] ⟨rfl, trivial⟩ ?_
      exact hE h hP
    · have hP := hP.2 q101
      refine v_aload_0 R dX11_see_104 ?_
      refine g_Md_seen R dX11_see_105 fl_X11_22 ?_
      refine v_iload_4 R dX11_see_108 ?_
      refine v_iconst R dX11_see_110 (v := (5 : Int32)) (by decide) ?_
      refine v_iadd R dX11_see_111 ?_
      refine v_iload_5 R dX11_see_112 ?_
      refine v_iadd R dX11_see_114 ?_
      refine v_aload_0 R dX11_see_115 ?_
      refine g_Md_near R dX11_see_116 fl_X11_16 ?_
      refine v_iload_5 R dX11_see_119 ?_
      obtain ⟨hi121, hP⟩ := hP
      refine v_iald R dX11_see_121 rfl hi121 ?_
      obtain ⟨hi122, hP⟩ := hP
      refine v_iastL R dX11_see_122 rfl hi122 hP (fun h122 hP => ?_)
      refine v_aload_0 R dX11_see_123 ?_
      refine g_Md_seenFar R dX11_see_124 fl_X11_60 ?_
      refine v_iload_4 R dX11_see_127 ?_
      refine v_iconst R dX11_see_129 (v := (5 : Int32)) (by decide) ?_
      refine v_iadd R dX11_see_130 ?_
      refine v_iload_5 R dX11_see_131 ?_
      refine v_iadd R dX11_see_133 ?_
      refine v_aload_0 R dX11_see_134 ?_
      refine g_Md_far R dX11_see_135 fl_X11_19 ?_
      refine v_iload_5 R dX11_see_138 ?_
      obtain ⟨hi140, hP⟩ := hP
      refine v_iald R dX11_see_140 rfl hi140 ?_
      obtain ⟨hi141, hP⟩ := hP
      refine v_iastL R dX11_see_141 rfl hi141 hP (fun h141 hP => ?_)
      refine v_iincL_5 R (1 : Int32) dX11_see_142 (by decide) rfl (by decide) hP (fun x142 hP => ?_)
      refine v_goto (tgt := 98) R dX11_see_145 (by decide) ?_
      exact ih x142 h141 hP
set_option maxRecDepth 100000 in
set_option maxHeartbeats 4000000 in
theorem c_Md_see {l : Launch} {D : va_G} {cs : Nat → ClassId} {φ : Nat → Nat} {p0 p1 p2 : Int32} {h : Hp} {P : Int32 → Hp → Prop} (hP : wp_Md_see p0 p1 p2 h P) : Ct l D cs φ M_Md_see [.ref (φ 7), .int p0, .int p1, .int p2] h (fun rv h2 => ∃ v, rv = some (.int v) ∧ P v h2) := by
  refine Ct.of (lc := [some (.ref (φ 7)), some (.int p0), some (.int p1), some (.int p2), none, none]) RX11 3 65 rfl (by decide +kernel) rfl (Nat.le_of_ble_eq_true rfl) rfl rfl (fun V R RI RV => ?_)
  have R : Ru l D cs φ RX11 cX11_see 6 3 65 V := R
  have Rt : ∀ pc lc v h, decode cX11_see pc = .ok (.ireturn, 1) → P v h → V pc lc [.int v] h := fun pc lc v h hd hp => RI pc lc _ .int h rfl rfl hd ⟨v, rfl, hp⟩
  unfold wp_Md_see at hP
  refine v_aload_0 R dX11_see_0 ?_
  refine v_iload_1 R dX11_see_1 ?_
  refine v_iload_2 R dX11_see_2 ?_
  refine cV2_br R dX11_see_3 (c_Md_areEnds hP) rc_Md ml_X11_216 mv_Md_areEnds (by decide) (Nat.le_of_ble_eq_true rfl) (fun v3 hP => ?_)
  refine v_ifb_ne (tgt := 12) R dX11_see_6 (by decide) (fun q6 => ?_) (fun q6 => ?_)
  · have hP := hP.1 q6
    refine v_aload_0 R dX11_see_12 ?_
    refine g_Md_seenMany R dX11_see_13 fl_X11_182 ?_
    refine v_bipush R dX11_see_16 (v := (8 : Int32)) (by decide) ?_
    refine v_icmp_ne (tgt := 24) R dX11_see_18 (by decide) (fun q18 => ?_) (fun q18 => ?_)
    · have hP := hP.1 q18
      refine v_bipush R dX11_see_24 (v := (14 : Int32)) (by decide) ?_
      refine v_aload_0 R dX11_see_26 ?_
      refine g_Md_seenMany R dX11_see_27 fl_X11_182 ?_
      refine v_imul R dX11_see_30 ?_
      refine v_istoreL_4 R dX11_see_31 (by decide) rfl hP (fun x31 hP => ?_)
      refine v_aload_0 R dX11_see_33 ?_
      refine g_Md_seen R dX11_see_34 fl_X11_22 ?_
      refine v_iload_4 R dX11_see_37 ?_
      refine v_aload_0 R dX11_see_39 ?_
      refine g_Md_place R dX11_see_40 fl_X11_170 ?_
      obtain ⟨hi43, hP⟩ := hP
      refine v_iastL R dX11_see_43 rfl hi43 hP (fun h43 hP => ?_)
      refine v_aload_0 R dX11_see_44 ?_
      refine g_Md_seen R dX11_see_45 fl_X11_22 ?_
      refine v_iload_4 R dX11_see_48 ?_
      refine v_iconst R dX11_see_50 (v := (1 : Int32)) (by decide) ?_
      refine v_iadd R dX11_see_51 ?_
      refine v_aload_0 R dX11_see_52 ?_
      refine g_Md_hour R dX11_see_53 fl_X11_173 ?_
      obtain ⟨hi56, hP⟩ := hP
      refine v_iastL R dX11_see_56 rfl hi56 hP (fun h56 hP => ?_)
      refine v_aload_0 R dX11_see_57 ?_
      refine g_Md_seen R dX11_see_58 fl_X11_22 ?_
      refine v_iload_4 R dX11_see_61 ?_
      refine v_iconst R dX11_see_63 (v := (2 : Int32)) (by decide) ?_
      refine v_iadd R dX11_see_64 ?_
      refine v_iload_1 R dX11_see_65 ?_
      obtain ⟨hi66, hP⟩ := hP
      refine v_iastL R dX11_see_66 rfl hi66 hP (fun h66 hP => ?_)
      refine v_aload_0 R dX11_see_67 ?_
      refine g_Md_seen R dX11_see_68 fl_X11_22 ?_
      refine v_iload_4 R dX11_see_71 ?_
      refine v_iconst R dX11_see_73 (v := (3 : Int32)) (by decide) ?_
      refine v_iadd R dX11_see_74 ?_
      refine v_iload_2 R dX11_see_75 ?_
      obtain ⟨hi76, hP⟩ := hP
      refine v_iastL R dX11_see_76 rfl hi76 hP (fun h76 hP => ?_)
      refine v_aload_0 R dX11_see_77 ?_
      refine g_Md_seen R dX11_see_78 fl_X11_22 ?_
      refine v_iload_4 R dX11_see_81 ?_
      refine v_iconst R dX11_see_83 (v := (4 : Int32)) (by decide) ?_
      refine v_iadd R dX11_see_84 ?_
      refine v_iload_3 R dX11_see_85 ?_
      refine jn_v (fun K => ∀ (z94_2 : Int32), K z94_2 → V 94 [some (.ref (φ 7)), none, none, none, some (.int x31), none] [.int z94_2, .int (x31 + (4 : Int32)), .ref (φ 81)] h76) ?_ ?_ hP
      · intro z94_2 hP
        obtain ⟨hi94, hP⟩ := hP
        refine v_iastL R dX11_see_94 rfl hi94 hP (fun h94 hP => ?_)
        refine v_iconst R dX11_see_95 (v := (0 : Int32)) (by decide) ?_
        refine v_istore_5 R dX11_see_96 (by decide) rfl ?_
        obtain ⟨n98, hP⟩ := hP
        refine L_Md_see_98 R ?_ n98 _ _ hP
        intro h98x hP
        refine v_aload_0 R dX11_see_148 ?_
        refine v_dup R dX11_see_149 rfl ?_
        refine g_Md_seenMany R dX11_see_150 fl_X11_182 ?_
        refine v_iconst R dX11_see_153 (v := (1 : Int32)) (by decide) ?_
        refine v_iadd R dX11_see_154 ?_
        refine p_Md_seenMany R dX11_see_155 fl_X11_182 hP (fun h155 hP => ?_)
        refine v_aload_0 R dX11_see_158 ?_
        refine g_Md_seenMany R dX11_see_159 fl_X11_182 ?_
        exact Rt _ _ _ _ dX11_see_162 hP
      · intro K J94 hP
        refine v_if_eq (tgt := 93) R dX11_see_86 (by decide) (fun q86 => ?_) (fun q86 => ?_)
        · have hP := hP.1 q86
          refine v_iconst R dX11_see_93 (v := (0 : Int32)) (by decide) ?_
          refine v_wk R [some (.ref (φ 7)), none, none, none, some (.int x31), none] ⟨rfl, ⟨rfl, trivial⟩⟩ ?_
          exact J94 (0 : Int32) hP
        · have hP := hP.2 q86
          refine v_iconst R dX11_see_89 (v := (1 : Int32)) (by decide) ?_
          refine v_goto (tgt := 94) R dX11_see_90 (by decide) ?_
          refine v_wk R [some (.ref (φ 7)), none, none, none, some (.int x31), none] ⟨rfl, ⟨rfl, trivial⟩⟩ ?_
          exact J94 (1 : Int32) hP
    · have hP := hP.2 q18
      refine v_ldc R dX11_see_21 ct_X11_110 ?_
      exact Rt _ _ _ _ dX11_see_23 hP
  · have hP := hP.2 q6
    refine v_ldc R dX11_see_9 ct_X11_215 ?_
    exact Rt _ _ _ _ dX11_see_11 hP
set_option maxRecDepth 100000 in
set_option maxHeartbeats 4000000 in
theorem c_Md_write {l : Launch} {D : va_G} {cs : Nat → ClassId} {φ : Nat → Nat} {p0 p1 : Int32} {h : Hp} {P : Int32 → Hp → Prop} (hP : wp_Md_write p0 p1 h P) : Ct l D cs φ M_Md_write [.ref (φ 7), .int p0, .int p1] h (fun rv h2 => ∃ v, rv = some (.int v) ∧ P v h2) := by
  refine Ct.of (lc := [some (.ref (φ 7)), some (.int p0), some (.int p1)]) RX11 2 43 rfl (by decide +kernel) rfl (Nat.le_of_ble_eq_true rfl) rfl rfl (fun V R RI RV => ?_)
  have R : Ru l D cs φ RX11 cX11_write 3 2 43 V := R
  have Rt : ∀ pc lc v h, decode cX11_write pc = .ok (.ireturn, 1) → P v h → V pc lc [.int v] h := fun pc lc v h hd hp => RI pc lc _ .int h rfl rfl hd ⟨v, rfl, hp⟩
  unfold wp_Md_write at hP
  refine v_aload_0 R dX11_write_0 ?_
  refine v_iload_1 R dX11_write_1 ?_
  refine cV1_br R dX11_write_2 (c_Md_isWire hP) rc_Md ml_X11_88 mv_Md_isWire (by decide) (Nat.le_of_ble_eq_true rfl) (fun v2 hP => ?_)
  refine v_ifb_eq (tgt := 16) R dX11_write_5 (by decide) (fun q5 => ?_) (fun q5 => ?_)
  · have hP := hP.1 q5
    refine v_ldc R dX11_write_16 ct_X11_215 ?_
    exact Rt _ _ _ _ dX11_write_18 hP
  · have hP := hP.2 q5
    refine v_aload_0 R dX11_write_8 ?_
    refine v_iload_2 R dX11_write_9 ?_
    refine cV1_br R dX11_write_10 (c_Md_isWire hP) rc_Md ml_X11_88 mv_Md_isWire (by decide) (Nat.le_of_ble_eq_true rfl) (fun v10 hP => ?_)
    refine v_ifb_ne (tgt := 19) R dX11_write_13 (by decide) (fun q13 => ?_) (fun q13 => ?_)
    · have hP := hP.1 q13
      refine v_aload_0 R dX11_write_19 ?_
      refine g_Md_bookMany R dX11_write_20 fl_X11_185 ?_
      refine v_bipush R dX11_write_23 (v := (15 : Int32)) (by decide) ?_
      refine v_icmp_ne (tgt := 31) R dX11_write_25 (by decide) (fun q25 => ?_) (fun q25 => ?_)
      · have hP := hP.1 q25
        refine v_aload_0 R dX11_write_31 ?_
        refine g_Md_bookEnd R dX11_write_32 fl_X11_25 ?_
        refine v_aload_0 R dX11_write_35 ?_
        refine g_Md_bookMany R dX11_write_36 fl_X11_185 ?_
        refine v_iload_1 R dX11_write_39 ?_
        obtain ⟨hi40, hP⟩ := hP
        refine v_iastL R dX11_write_40 rfl hi40 hP (fun h40 hP => ?_)
        refine v_aload_0 R dX11_write_41 ?_
        refine g_Md_bookWire R dX11_write_42 fl_X11_28 ?_
        refine v_aload_0 R dX11_write_45 ?_
        refine g_Md_bookMany R dX11_write_46 fl_X11_185 ?_
        refine v_iload_2 R dX11_write_49 ?_
        obtain ⟨hi50, hP⟩ := hP
        refine v_iastL R dX11_write_50 rfl hi50 hP (fun h50 hP => ?_)
        refine v_aload_0 R dX11_write_51 ?_
        refine v_dup R dX11_write_52 rfl ?_
        refine g_Md_bookMany R dX11_write_53 fl_X11_185 ?_
        refine v_iconst R dX11_write_56 (v := (1 : Int32)) (by decide) ?_
        refine v_iadd R dX11_write_57 ?_
        refine p_Md_bookMany R dX11_write_58 fl_X11_185 hP (fun h58 hP => ?_)
        refine v_aload_0 R dX11_write_61 ?_
        refine g_Md_bookMany R dX11_write_62 fl_X11_185 ?_
        exact Rt _ _ _ _ dX11_write_65 hP
      · have hP := hP.2 q25
        refine v_ldc R dX11_write_28 ct_X11_110 ?_
        exact Rt _ _ _ _ dX11_write_30 hP
    · have hP := hP.2 q13
      refine v_ldc R dX11_write_16 ct_X11_215 ?_
      exact Rt _ _ _ _ dX11_write_18 hP
set_option maxRecDepth 100000 in
set_option maxHeartbeats 4000000 in
theorem c_Md_tear {l : Launch} {D : va_G} {cs : Nat → ClassId} {φ : Nat → Nat} {h : Hp} {P : Int32 → Hp → Prop} (hP : wp_Md_tear h P) : Ct l D cs φ M_Md_tear [.ref (φ 7)] h (fun rv h2 => ∃ v, rv = some (.int v) ∧ P v h2) := by
  refine Ct.of (lc := [some (.ref (φ 7)), none]) RX11 0 0 rfl (by decide +kernel) rfl (Nat.le_of_ble_eq_true rfl) rfl rfl (fun V R RI RV => ?_)
  have R : Ru l D cs φ RX11 cX11_tear 2 0 0 V := R
  have Rt : ∀ pc lc v h, decode cX11_tear pc = .ok (.ireturn, 1) → P v h → V pc lc [.int v] h := fun pc lc v h hd hp => RI pc lc _ .int h rfl rfl hd ⟨v, rfl, hp⟩
  unfold wp_Md_tear at hP
  refine v_aload_0 R dX11_tear_0 ?_
  refine g_Md_seenMany R dX11_tear_1 fl_X11_182 ?_
  refine v_aload_0 R dX11_tear_4 ?_
  refine g_Md_bookMany R dX11_tear_5 fl_X11_185 ?_
  refine v_iadd R dX11_tear_8 ?_
  refine v_istoreL_1 R dX11_tear_9 (by decide) rfl hP (fun x9 hP => ?_)
  refine v_aload_0 R dX11_tear_10 ?_
  refine v_iconst R dX11_tear_11 (v := (0 : Int32)) (by decide) ?_
  refine p_Md_seenMany R dX11_tear_12 fl_X11_182 hP (fun h12 hP => ?_)
  refine v_aload_0 R dX11_tear_15 ?_
  refine v_iconst R dX11_tear_16 (v := (0 : Int32)) (by decide) ?_
  refine p_Md_bookMany R dX11_tear_17 fl_X11_185 hP (fun h17 hP => ?_)
  refine v_iload_1 R dX11_tear_20 ?_
  exact Rt _ _ _ _ dX11_tear_21 hP
set_option maxRecDepth 100000 in
set_option maxHeartbeats 4000000 in
theorem L_Md_judge_9 {l : Launch} {D : va_G} {cs : Nat → ClassId} {φ : Nat → Nat} {V : Nat → List (Option Value) → List Value → Hp → Prop} {h : Hp} {E : Int32 → Prop} (R : Ru l D cs φ RX11 cX11_judge 3 0 0 V) (hE : ∀ (a1 : Int32), E a1 → V 45 [none, some (.int a1), none] [] h) : ∀ (n : Nat) (a1 : Int32) (a2 : Int32), lp_Md_judge_9 n a1 a2 h E → V 9 [some (.ref (φ 7)), some (.int a1), some (.int a2)] [] h := by
  intro n
  induction n with
  | zero => intro a1 a2 hP; exact hP.elim
  | succ n ih =>
    intro a1 a2 hP
    unfold lp_Md_judge_9 at hP
    refine v_iload_2 R dX11_judge_9 ?_
    refine v_if_lt (tgt := 45) R dX11_judge_10 (by decide) (fun q10 => ?_) (fun q10 => ?_)
    · have hP := hP.1 q10
      refine v_wk R [none, some (.int a1), none] ⟨rfl, trivial⟩ ?_
      exact hE a1 hP
    · have hP := hP.2 q10
      refine v_aload_0 R dX11_judge_13 ?_
      refine g_Md_truly R dX11_judge_14 fl_X11_7 ?_
      refine v_aload_0 R dX11_judge_17 ?_
      refine g_Md_bookEnd R dX11_judge_18 fl_X11_25 ?_
      refine v_iload_2 R dX11_judge_21 ?_
      obtain ⟨hi22, hP⟩ := hP
      refine v_iald R dX11_judge_22 rfl hi22 ?_
      obtain ⟨hi23, hP⟩ := hP
      refine v_iald R dX11_judge_23 rfl hi23 ?_
      refine v_aload_0 R dX11_judge_24 ?_
      refine g_Md_bookWire R dX11_judge_25 fl_X11_28 ?_
      refine v_iload_2 R dX11_judge_28 ?_
      obtain ⟨hi29, hP⟩ := hP
      refine v_iald R dX11_judge_29 rfl hi29 ?_
      refine jn_v (fun K => ∀ (z38_0 : Int32), K z38_0 → V 38 [some (.ref (φ 7)), none, some (.int a2)] [.int z38_0] h) ?_ ?_ hP
      · intro z38_0 hP
        refine v_istore_1 R dX11_judge_38 (by decide) rfl ?_
        refine v_iincL_2 R (-1 : Int32) dX11_judge_39 (by decide) rfl (by decide) hP (fun x39 hP => ?_)
        refine v_goto (tgt := 9) R dX11_judge_42 (by decide) ?_
        exact ih z38_0 x39 hP
      · intro K J38 hP
        refine v_icmp_ne (tgt := 37) R dX11_judge_30 (by decide) (fun q30 => ?_) (fun q30 => ?_)
        · have hP := hP.1 q30
          refine v_iload_2 R dX11_judge_37 ?_
          refine v_wk R [some (.ref (φ 7)), none, some (.int a2)] ⟨rfl, ⟨rfl, trivial⟩⟩ ?_
          exact J38 a2 hP
        · have hP := hP.2 q30
          refine v_iload_1 R dX11_judge_33 ?_
          refine v_goto (tgt := 38) R dX11_judge_34 (by decide) ?_
          refine v_wk R [some (.ref (φ 7)), none, some (.int a2)] ⟨rfl, ⟨rfl, trivial⟩⟩ ?_
          exact J38 a1 hP
set_option maxRecDepth 100000 in
set_option maxHeartbeats 4000000 in
theorem c_Md_judge {l : Launch} {D : va_G} {cs : Nat → ClassId} {φ : Nat → Nat} {h : Hp} {P : Int32 → Prop} (hP : wp_Md_judge h P) : Ct l D cs φ M_Md_judge [.ref (φ 7)] h (fun rv h2 => ∃ v, rv = some (.int v) ∧ h2 = h ∧ P v) := by
  refine Ct.of (lc := [some (.ref (φ 7)), none, none]) RX11 0 0 rfl (by decide +kernel) rfl (Nat.le_of_ble_eq_true rfl) rfl rfl (fun V R RI RV => ?_)
  have R : Ru l D cs φ RX11 cX11_judge 3 0 0 V := R
  have Rt : ∀ pc lc v, decode cX11_judge pc = .ok (.ireturn, 1) → P v → V pc lc [.int v] h := fun pc lc v hd hp => RI pc lc _ .int h rfl rfl hd ⟨v, rfl, rfl, hp⟩
  unfold wp_Md_judge at hP
  refine v_iconst R dX11_judge_0 (v := (-1 : Int32)) (by decide) ?_
  refine v_istore_1 R dX11_judge_1 (by decide) rfl ?_
  refine v_aload_0 R dX11_judge_2 ?_
  refine g_Md_bookMany R dX11_judge_3 fl_X11_185 ?_
  refine v_iconst R dX11_judge_6 (v := (1 : Int32)) (by decide) ?_
  refine v_isub R dX11_judge_7 ?_
  refine v_istoreL_2 R dX11_judge_8 (by decide) rfl hP (fun x8 hP => ?_)
  obtain ⟨n9, hP⟩ := hP
  refine L_Md_judge_9 R ?_ n9 _ _ hP
  intro w9_1 hP
  refine v_iload_1 R dX11_judge_45 ?_
  exact Rt _ _ _ dX11_judge_46 hP
set_option maxRecDepth 100000 in
set_option maxHeartbeats 4000000 in
theorem c_Md_seed {l : Launch} {D : va_G} {cs : Nat → ClassId} {φ : Nat → Nat} {p0 : Int32} {h : Hp} {P : Int32 → Hp → Prop} (hP : wp_Md_seed p0 h P) : Ct l D cs φ M_Md_seed [.ref (φ 7), .int p0] h (fun rv h2 => ∃ v, rv = some (.int v) ∧ P v h2) := by
  refine Ct.of (lc := [some (.ref (φ 7)), some (.int p0), none]) RX11 0 0 rfl (by decide +kernel) rfl (Nat.le_of_ble_eq_true rfl) rfl rfl (fun V R RI RV => ?_)
  have R : Ru l D cs φ RX11 cX11_seed 3 0 0 V := R
  have Rt : ∀ pc lc v h, decode cX11_seed pc = .ok (.ireturn, 1) → P v h → V pc lc [.int v] h := fun pc lc v h hd hp => RI pc lc _ .int h rfl rfl hd ⟨v, rfl, hp⟩
  unfold wp_Md_seed at hP
  refine v_iload_1 R dX11_seed_0 ?_
  refine v_if_ge (tgt := 7) R dX11_seed_1 (by decide) (fun q1 => ?_) (fun q1 => ?_)
  · have hP := hP.1 q1
    refine v_aload_0 R dX11_seed_7 ?_
    refine g_Md_seed R dX11_seed_8 fl_X11_250 ?_
    refine v_l2i R dX11_seed_11 ?_
    refine v_istoreL_2 R dX11_seed_12 (by decide) rfl hP (fun x12 hP => ?_)
    refine v_aload_0 R dX11_seed_13 ?_
    refine v_iload_1 R dX11_seed_14 ?_
    refine v_i2l R dX11_seed_15 ?_
    refine p_Md_seed R dX11_seed_16 fl_X11_250 hP (fun h16 hP => ?_)
    refine v_iload_2 R dX11_seed_19 ?_
    exact Rt _ _ _ _ dX11_seed_20 hP
  · have hP := hP.2 q1
    refine v_ldc R dX11_seed_4 ct_X11_106 ?_
    exact Rt _ _ _ _ dX11_seed_6 hP
set_option maxRecDepth 100000 in
set_option maxHeartbeats 4000000 in
theorem c_Md_keep {l : Launch} {D : va_G} {cs : Nat → ClassId} {φ : Nat → Nat} {p0 : Int32} {h : Hp} {P : Int32 → Hp → Prop} (hP : wp_Md_keep p0 h P) : Ct l D cs φ M_Md_keep [.ref (φ 7), .int p0] h (fun rv h2 => ∃ v, rv = some (.int v) ∧ P v h2) := by
  refine Ct.of (lc := [some (.ref (φ 7)), some (.int p0)]) RX11 1 23 rfl (by decide +kernel) rfl (Nat.le_of_ble_eq_true rfl) rfl rfl (fun V R RI RV => ?_)
  have R : Ru l D cs φ RX11 cX11_keep 2 1 23 V := R
  have Rt : ∀ pc lc v h, decode cX11_keep pc = .ok (.ireturn, 1) → P v h → V pc lc [.int v] h := fun pc lc v h hd hp => RI pc lc _ .int h rfl rfl hd ⟨v, rfl, hp⟩
  unfold wp_Md_keep at hP
  refine v_iload_1 R dX11_keep_0 ?_
  refine v_iconst R dX11_keep_1 (v := (0 : Int32)) (by decide) ?_
  refine v_iconst R dX11_keep_2 (v := (1 : Int32)) (by decide) ?_
  refine cS3_br R dX11_keep_3 (c_Md_in hP) ml_X11_84 mv_Md_in (by decide) (Nat.le_of_ble_eq_true rfl) (fun v3 hP => ?_)
  refine v_ifb_ne (tgt := 12) R dX11_keep_6 (by decide) (fun q6 => ?_) (fun q6 => ?_)
  · have hP := hP.1 q6
    refine v_aload_0 R dX11_keep_12 ?_
    refine v_aload_0 R dX11_keep_13 ?_
    refine g_Md_images R dX11_keep_14 fl_X11_47 ?_
    refine v_bipush R dX11_keep_17 (v := (20 : Int32)) (by decide) ?_
    refine v_iload_1 R dX11_keep_19 ?_
    refine v_imul R dX11_keep_20 ?_
    refine cV2_vw R dX11_keep_21 (c_Md_lays rfl hP) rc_Md ml_X11_222 mv_Md_lays (by decide) (Nat.le_of_ble_eq_true rfl) (fun h21 hP => ?_)
    refine v_aload_0 R dX11_keep_24 ?_
    refine g_Md_seeds R dX11_keep_25 fl_X11_50 ?_
    refine v_iload_1 R dX11_keep_28 ?_
    refine v_aload_0 R dX11_keep_29 ?_
    refine g_Md_seed R dX11_keep_30 fl_X11_250 ?_
    obtain ⟨hi33, hP⟩ := hP
    refine v_lastL R dX11_keep_33 hi33 hP (fun h33 hP => ?_)
    refine v_aload_0 R dX11_keep_34 ?_
    refine g_Md_isKept R dX11_keep_35 fl_X11_54 ?_
    refine v_iload_1 R dX11_keep_38 ?_
    refine v_iconst R dX11_keep_39 (v := (1 : Int32)) (by decide) ?_
    obtain ⟨hi40, hP⟩ := hP
    refine v_iastL R dX11_keep_40 rfl hi40 hP (fun h40 hP => ?_)
    refine v_aload_0 R dX11_keep_41 ?_
    refine v_iconst R dX11_keep_42 (v := (0 : Int32)) (by decide) ?_
    refine p_Md_undoMany R dX11_keep_43 fl_X11_188 hP (fun h43 hP => ?_)
    refine v_iconst R dX11_keep_46 (v := (1 : Int32)) (by decide) ?_
    exact Rt _ _ _ _ dX11_keep_47 hP
  · have hP := hP.2 q6
    refine v_ldc R dX11_keep_9 ct_X11_215 ?_
    exact Rt _ _ _ _ dX11_keep_11 hP
set_option maxRecDepth 100000 in
set_option maxHeartbeats 4000000 in
theorem c_Md_goBack {l : Launch} {D : va_G} {cs : Nat → ClassId} {φ : Nat → Nat} {p0 : Int32} {h : Hp} {P : Int32 → Hp → Prop} (hP : wp_Md_goBack p0 h P) : Ct l D cs φ M_Md_goBack [.ref (φ 7), .int p0] h (fun rv h2 => ∃ v, rv = some (.int v) ∧ P v h2) := by
  refine Ct.of (lc := [some (.ref (φ 7)), some (.int p0)]) RX11 1 23 rfl (by decide +kernel) rfl (Nat.le_of_ble_eq_true rfl) rfl rfl (fun V R RI RV => ?_)
  have R : Ru l D cs φ RX11 cX11_goBack 2 1 23 V := R
  have Rt : ∀ pc lc v h, decode cX11_goBack pc = .ok (.ireturn, 1) → P v h → V pc lc [.int v] h := fun pc lc v h hd hp => RI pc lc _ .int h rfl rfl hd ⟨v, rfl, hp⟩
  unfold wp_Md_goBack at hP
  refine v_iload_1 R dX11_goBack_0 ?_
  refine v_iconst R dX11_goBack_1 (v := (0 : Int32)) (by decide) ?_
  refine v_iconst R dX11_goBack_2 (v := (1 : Int32)) (by decide) ?_
  refine cS3_br R dX11_goBack_3 (c_Md_in hP) ml_X11_84 mv_Md_in (by decide) (Nat.le_of_ble_eq_true rfl) (fun v3 hP => ?_)
  refine v_ifb_ne (tgt := 12) R dX11_goBack_6 (by decide) (fun q6 => ?_) (fun q6 => ?_)
  · have hP := hP.1 q6
    refine v_aload_0 R dX11_goBack_12 ?_
    refine g_Md_isKept R dX11_goBack_13 fl_X11_54 ?_
    refine v_iload_1 R dX11_goBack_16 ?_
    obtain ⟨hi17, hP⟩ := hP
    refine v_iald R dX11_goBack_17 rfl hi17 ?_
    refine v_if_ne (tgt := 24) R dX11_goBack_18 (by decide) (fun q18 => ?_) (fun q18 => ?_)
    · have hP := hP.1 q18
      refine v_aload_0 R dX11_goBack_24 ?_
      refine v_aload_0 R dX11_goBack_25 ?_
      refine g_Md_images R dX11_goBack_26 fl_X11_47 ?_
      refine v_bipush R dX11_goBack_29 (v := (20 : Int32)) (by decide) ?_
      refine v_iload_1 R dX11_goBack_31 ?_
      refine v_imul R dX11_goBack_32 ?_
      refine cV2_vw R dX11_goBack_33 (c_Md_takes rfl hP) rc_Md ml_X11_268 mv_Md_takes (by decide) (Nat.le_of_ble_eq_true rfl) (fun h33 hP => ?_)
      refine v_aload_0 R dX11_goBack_36 ?_
      refine v_aload_0 R dX11_goBack_37 ?_
      refine g_Md_seeds R dX11_goBack_38 fl_X11_50 ?_
      refine v_iload_1 R dX11_goBack_41 ?_
      obtain ⟨hi42, hP⟩ := hP
      refine v_lald R dX11_goBack_42 hi42 ?_
      refine p_Md_seed R dX11_goBack_43 fl_X11_250 hP (fun h43 hP => ?_)
      refine v_aload_0 R dX11_goBack_46 ?_
      refine v_iconst R dX11_goBack_47 (v := (0 : Int32)) (by decide) ?_
      refine p_Md_undoMany R dX11_goBack_48 fl_X11_188 hP (fun h48 hP => ?_)
      refine v_iconst R dX11_goBack_51 (v := (1 : Int32)) (by decide) ?_
      exact Rt _ _ _ _ dX11_goBack_52 hP
    · have hP := hP.2 q18
      refine v_ldc R dX11_goBack_21 ct_X11_230 ?_
      exact Rt _ _ _ _ dX11_goBack_23 hP
  · have hP := hP.2 q6
    refine v_ldc R dX11_goBack_9 ct_X11_215 ?_
    exact Rt _ _ _ _ dX11_goBack_11 hP
