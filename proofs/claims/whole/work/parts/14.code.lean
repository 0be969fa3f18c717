set_option maxRecDepth 100000 in
set_option maxHeartbeats 4000000 in
theorem L_Md_joinedOnce_103 {l : Launch} {D : va_G} {cs : Nat → ClassId} {φ : Nat → Nat} {V : Nat → List (Option Value) → List Value → Hp → Prop} {e2 e4 e5 : Nat} {a3 a6 a7 a9 : Int32} {h : Hp} {E : Int32 → Prop} (R : Ru l D cs φ RX11 cX11_joinedOnce 13 2 45 V) (hk_e2 : kd e2 = 12) (hk_e4 : kd e4 = 12) (hk_e5 : kd e5 = 12) (hE : ∀ (a8 : Int32), E a8 → V 148 [some (.ref (φ 7)), none, some (.ref (φ e2)), some (.int a3), some (.ref (φ e4)), some (.ref (φ e5)), some (.int a6), some (.int a7), some (.int a8), some (.int a9), none, none, none] [] h) : ∀ (n : Nat) (a8 : Int32) (a11 : Int32), lp_Md_joinedOnce_103 n e2 a3 e4 e5 a6 a7 a9 a8 a11 h E → V 103 [some (.ref (φ 7)), none, some (.ref (φ e2)), some (.int a3), some (.ref (φ e4)), some (.ref (φ e5)), some (.int a6), some (.int a7), some (.int a8), some (.int a9), none, some (.int a11), none] [] h := by
  intro n
  induction n with
  | zero => intro a8 a11 hP; exact hP.elim
  | succ n ih =>
    intro a8 a11 hP
    unfold lp_Md_joinedOnce_103 at hP
    refine v_iload_11 R dX11_joinedOnce_103 ?_
    refine v_iload_9 R dX11_joinedOnce_105 ?_
    refine v_icmp_ge (tgt := 148) R dX11_joinedOnce_107 (by decide) (fun q107 => ?_) (fun q107 => ?_)
    · have hP := hP.1 q107
      refine v_wk R [some (.ref (φ 7)), none, some (.ref (φ e2)), some (.int a3), some (.ref (φ e4)), some (.ref (φ e5)), some (.int a6), some (.int a7), some (.int a8), some (.int a9), none, none, none] ⟨rfl, ⟨rfl, ⟨rfl, ⟨rfl, ⟨rfl, ⟨rfl, ⟨rfl, ⟨rfl, ⟨rfl, trivial⟩⟩⟩⟩⟩⟩⟩⟩⟩ ?_
      exact hE a8 hP
    · have hP := hP.2 q107
      refine v_aload_0 R dX11_joinedOnce_110 ?_
      refine v_iload_11 R dX11_joinedOnce_111 ?_
      refine v_iload_9 R dX11_joinedOnce_113 ?_
      refine cV2_br R dX11_joinedOnce_115 (c_Md_doTouch hP) rc_Md ml_X11_103 mv_Md_doTouch (by decide) (Nat.le_of_ble_eq_true rfl) (fun v115 hP => ?_)
      refine jn_v (fun K => ∀ (z140_0 : Int32), K z140_0 → V 140 [some (.ref (φ 7)), none, some (.ref (φ e2)), some (.int a3), some (.ref (φ e4)), some (.ref (φ e5)), some (.int a6), some (.int a7), none, some (.int a9), none, some (.int a11), none] [.int z140_0] h) ?_ ?_ hP
      · intro z140_0 hP
        refine v_istore_8 R dX11_joinedOnce_140 (by decide) rfl ?_
        refine v_iincL_11 R (1 : Int32) dX11_joinedOnce_142 (by decide) rfl (by decide) hP (fun x142 hP => ?_)
        refine v_goto (tgt := 103) R dX11_joinedOnce_145 (by decide) ?_
        exact ih z140_0 x142 hP
      · intro K J140 hP
        refine v_ifb_eq (tgt := 138) R dX11_joinedOnce_118 (by decide) (fun q118 => ?_) (fun q118 => ?_)
        · have hP := hP.1 q118
          refine v_iload_8 R dX11_joinedOnce_138 ?_
          refine v_wk R [some (.ref (φ 7)), none, some (.ref (φ e2)), some (.int a3), some (.ref (φ e4)), some (.ref (φ e5)), some (.int a6), some (.int a7), none, some (.int a9), none, some (.int a11), none] ⟨rfl, ⟨rfl, ⟨rfl, ⟨rfl, ⟨rfl, ⟨rfl, ⟨rfl, ⟨rfl, ⟨rfl, trivial⟩⟩⟩⟩⟩⟩⟩⟩⟩ ?_
          exact J140 a8 hP
        · have hP := hP.2 q118
          refine v_iload_8 R dX11_joinedOnce_121 ?_
          refine v_iconst R dX11_joinedOnce_123 (v := (1 : Int32)) (by decide) ?_
          refine v_iload_11 R dX11_joinedOnce_124 ?_
          refine v_ishl R dX11_joinedOnce_126 ?_
          refine v_iconst R dX11_joinedOnce_127 (v := (1 : Int32)) (by decide) ?_
          refine v_iload_9 R dX11_joinedOnce_128 ?_
          refine v_ishl R dX11_joinedOnce_130 ?_
          refine v_ior R dX11_joinedOnce_131 ?_
          refine cS2_ir R dX11_joinedOnce_132 (c_Md_together hP) ml_X11_198 mv_Md_together (by decide) (Nat.le_of_ble_eq_true rfl) (fun v132 hP => ?_)
          refine v_goto (tgt := 140) R dX11_joinedOnce_135 (by decide) ?_
          refine v_wk R [some (.ref (φ 7)), none, some (.ref (φ e2)), some (.int a3), some (.ref (φ e4)), some (.ref (φ e5)), some (.int a6), some (.int a7), none, some (.int a9), none, some (.int a11), none] ⟨rfl, ⟨rfl, ⟨rfl, ⟨rfl, ⟨rfl, ⟨rfl, ⟨rfl, ⟨rfl, ⟨rfl, trivial⟩⟩⟩⟩⟩⟩⟩⟩⟩ ?_
          exact J140 v132 hP
set_option maxRecDepth 100000 in
set_option maxHeartbeats 4000000 in
theorem L_Md_joinedOnce_6 {l : Launch} {D : va_G} {cs : Nat → ClassId} {φ : Nat → Nat} {V : Nat → List (Option Value) → List Value → Hp → Prop} {e2 e4 e5 : Nat} {a3 a6 a7 : Int32} {h : Hp} {E : Int32 → Prop} (R : Ru l D cs φ RX11 cX11_joinedOnce 13 2 45 V) (hk_e2 : kd e2 = 12) (hk_e4 : kd e4 = 12) (hk_e5 : kd e5 = 12) (hE : ∀ (a8 : Int32), E a8 → V 154 [some (.ref (φ 7)), none, none, none, some (.ref (φ e4)), some (.ref (φ e5)), some (.int a6), none, some (.int a8), none, none, none, none] [] h) : ∀ (n : Nat) (a8 : Int32) (a9 : Int32), lp_Md_joinedOnce_6 n e2 a3 e4 e5 a6 a7 a8 a9 h E → V 6 [some (.ref (φ 7)), none, some (.ref (φ e2)), some (.int a3), some (.ref (φ e4)), some (.ref (φ e5)), some (.int a6), some (.int a7), some (.int a8), some (.int a9), none, none, none] [] h := by
  intro n
  induction n with
  | zero => intro a8 a9 hP; exact hP.elim
  | succ n ih =>
    intro a8 a9 hP
    unfold lp_Md_joinedOnce_6 at hP
    refine v_iload_9 R dX11_joinedOnce_6 ?_
    refine v_aload_0 R dX11_joinedOnce_8 ?_
    refine g_Md_wires R dX11_joinedOnce_9 fl_X11_81 ?_
    refine v_icmp_ge (tgt := 154) R dX11_joinedOnce_12 (by decide) (fun q12 => ?_) (fun q12 => ?_)
    · have hP := hP.1 q12
      refine v_wk R [some (.ref (φ 7)), none, none, none, some (.ref (φ e4)), some (.ref (φ e5)), some (.int a6), none, some (.int a8), none, none, none, none] ⟨rfl, ⟨rfl, ⟨rfl, ⟨rfl, ⟨rfl, trivial⟩⟩⟩⟩⟩ ?_
      exact hE a8 hP
    · have hP := hP.2 q12
      refine v_iload_7 R dX11_joinedOnce_15 ?_
      refine v_iload_9 R dX11_joinedOnce_17 ?_
      refine cS2_br R dX11_joinedOnce_19 (c_Md_has hP) ml_X11_99 mv_Md_has (by decide) (Nat.le_of_ble_eq_true rfl) (fun v19 hP => ?_)
      refine jn_v (fun K => ∀ (z36_0 : Int32), K z36_0 → V 36 [some (.ref (φ 7)), none, some (.ref (φ e2)), some (.int a3), some (.ref (φ e4)), some (.ref (φ e5)), some (.int a6), some (.int a7), some (.int a8), some (.int a9), none, none, none] [.int z36_0] h) ?_ ?_ hP
      · intro z36_0 hP
        refine v_istore_10 R dX11_joinedOnce_36 (by decide) rfl ?_
        refine v_iload_10 R dX11_joinedOnce_38 ?_
        refine v_iload_3 R dX11_joinedOnce_40 ?_
        refine cS2_br R dX11_joinedOnce_41 (c_Md_passesBy hP) ml_X11_191 mv_Md_passesBy (by decide) (Nat.le_of_ble_eq_true rfl) (fun v41 hP => ?_)
        refine jn_v (fun K => ∀ (z72_0 : Int32), K z72_0 → V 72 [some (.ref (φ 7)), none, some (.ref (φ e2)), some (.int a3), some (.ref (φ e4)), some (.ref (φ e5)), some (.int a6), some (.int a7), none, some (.int a9), some (.int z36_0), none, none] [.int z72_0] h) ?_ ?_ hP
        · intro z72_0 hP
          refine v_istore_8 R dX11_joinedOnce_72 (by decide) rfl ?_
          refine v_iload_10 R dX11_joinedOnce_74 ?_
          refine v_iconst R dX11_joinedOnce_76 (v := (2 : Int32)) (by decide) ?_
          refine jn_v (fun K => ∀ (z98_0 : Int32), K z98_0 → V 98 [some (.ref (φ 7)), none, some (.ref (φ e2)), some (.int a3), some (.ref (φ e4)), some (.ref (φ e5)), some (.int a6), some (.int a7), none, some (.int a9), none, none, none] [.int z98_0] h) ?_ ?_ hP
          · intro z98_0 hP
            refine v_istore_8 R dX11_joinedOnce_98 (by decide) rfl ?_
            refine v_iconst R dX11_joinedOnce_100 (v := (0 : Int32)) (by decide) ?_
            refine v_istore_11 R dX11_joinedOnce_101 (by decide) rfl ?_
            obtain ⟨n103, hP⟩ := hP
            refine L_Md_joinedOnce_103 R hk_e2 hk_e4 hk_e5 ?_ n103 _ _ hP
            intro w103_8 hP
            refine v_iincL_9 R (1 : Int32) dX11_joinedOnce_148 (by decide) rfl (by decide) hP (fun x148 hP => ?_)
            refine v_goto (tgt := 6) R dX11_joinedOnce_151 (by decide) ?_
            exact ih w103_8 x148 hP
          · intro K J98 hP
            refine v_icmp_ne (tgt := 96) R dX11_joinedOnce_77 (by decide) (fun q77 => ?_) (fun q77 => ?_)
            · have hP := hP.1 q77
              refine v_iload_8 R dX11_joinedOnce_96 ?_
              refine v_wk R [some (.ref (φ 7)), none, some (.ref (φ e2)), some (.int a3), some (.ref (φ e4)), some (.ref (φ e5)), some (.int a6), some (.int a7), none, some (.int a9), none, none, none] ⟨rfl, ⟨rfl, ⟨rfl, ⟨rfl, ⟨rfl, ⟨rfl, ⟨rfl, ⟨rfl, trivial⟩⟩⟩⟩⟩⟩⟩⟩ ?_
              exact J98 z72_0 hP
            · have hP := hP.2 q77
              refine v_iload_8 R dX11_joinedOnce_80 ?_
              refine v_iconst R dX11_joinedOnce_82 (v := (1 : Int32)) (by decide) ?_
              refine v_iload_9 R dX11_joinedOnce_83 ?_
              refine v_ishl R dX11_joinedOnce_85 ?_
              refine v_sipush R dX11_joinedOnce_86 (v := (1024 : Int32)) (by decide) ?_
              refine v_ior R dX11_joinedOnce_89 ?_
              refine cS2_ir R dX11_joinedOnce_90 (c_Md_together hP) ml_X11_198 mv_Md_together (by decide) (Nat.le_of_ble_eq_true rfl) (fun v90 hP => ?_)
              refine v_goto (tgt := 98) R dX11_joinedOnce_93 (by decide) ?_
              refine v_wk R [some (.ref (φ 7)), none, some (.ref (φ e2)), some (.int a3), some (.ref (φ e4)), some (.ref (φ e5)), some (.int a6), some (.int a7), none, some (.int a9), none, none, none] ⟨rfl, ⟨rfl, ⟨rfl, ⟨rfl, ⟨rfl, ⟨rfl, ⟨rfl, ⟨rfl, trivial⟩⟩⟩⟩⟩⟩⟩⟩ ?_
              exact J98 v90 hP
        · intro K J72 hP
          refine v_ifb_eq (tgt := 70) R dX11_joinedOnce_44 (by decide) (fun q44 => ?_) (fun q44 => ?_)
          · have hP := hP.1 q44
            refine v_iload_8 R dX11_joinedOnce_70 ?_
            refine v_wk R [some (.ref (φ 7)), none, some (.ref (φ e2)), some (.int a3), some (.ref (φ e4)), some (.ref (φ e5)), some (.int a6), some (.int a7), none, some (.int a9), some (.int z36_0), none, none] ⟨rfl, ⟨rfl, ⟨rfl, ⟨rfl, ⟨rfl, ⟨rfl, ⟨rfl, ⟨rfl, ⟨rfl, trivial⟩⟩⟩⟩⟩⟩⟩⟩⟩ ?_
            exact J72 a8 hP
          · have hP := hP.2 q44
            refine v_iload_8 R dX11_joinedOnce_47 ?_
            refine v_iconst R dX11_joinedOnce_49 (v := (1 : Int32)) (by decide) ?_
            refine v_iload_9 R dX11_joinedOnce_50 ?_
            refine v_ishl R dX11_joinedOnce_52 ?_
            refine v_bipush R dX11_joinedOnce_53 (v := (32 : Int32)) (by decide) ?_
            refine v_aload_0 R dX11_joinedOnce_55 ?_
            refine v_aload_2 R dX11_joinedOnce_56 ?_
            refine v_iload_9 R dX11_joinedOnce_57 ?_
            refine cV2_ir R dX11_joinedOnce_59 (c_Md_farEndOf hk_e2 hP) rc_Md ml_X11_194 mv_Md_farEndOf (by decide) (Nat.le_of_ble_eq_true rfl) (fun v59 hP => ?_)
            refine v_ishl R dX11_joinedOnce_62 ?_
            refine v_ior R dX11_joinedOnce_63 ?_
            refine cS2_ir R dX11_joinedOnce_64 (c_Md_together hP) ml_X11_198 mv_Md_together (by decide) (Nat.le_of_ble_eq_true rfl) (fun v64 hP => ?_)
            refine v_goto (tgt := 72) R dX11_joinedOnce_67 (by decide) ?_
            refine v_wk R [some (.ref (φ 7)), none, some (.ref (φ e2)), some (.int a3), some (.ref (φ e4)), some (.ref (φ e5)), some (.int a6), some (.int a7), none, some (.int a9), some (.int z36_0), none, none] ⟨rfl, ⟨rfl, ⟨rfl, ⟨rfl, ⟨rfl, ⟨rfl, ⟨rfl, ⟨rfl, ⟨rfl, trivial⟩⟩⟩⟩⟩⟩⟩⟩⟩ ?_
            exact J72 v64 hP
      · intro K J36 hP
        refine v_ifb_eq (tgt := 29) R dX11_joinedOnce_22 (by decide) (fun q22 => ?_) (fun q22 => ?_)
        · have hP := hP.1 q22
          refine v_aload_0 R dX11_joinedOnce_29 ?_
          refine g_Md_kindOf R dX11_joinedOnce_30 fl_X11_13 ?_
          refine v_iload_9 R dX11_joinedOnce_33 ?_
          obtain ⟨hi35, hP⟩ := hP
          refine v_iald R dX11_joinedOnce_35 rfl hi35 ?_
          exact J36 (h.1 78 (a9).toNatClampNeg) hP
        · have hP := hP.2 q22
          refine v_iconst R dX11_joinedOnce_25 (v := (1 : Int32)) (by decide) ?_
          refine v_goto (tgt := 36) R dX11_joinedOnce_26 (by decide) ?_
          exact J36 (1 : Int32) hP
set_option maxRecDepth 100000 in
set_option maxHeartbeats 4000000 in
theorem L_Md_joinedOnce_172 {l : Launch} {D : va_G} {cs : Nat → ClassId} {φ : Nat → Nat} {V : Nat → List (Option Value) → List Value → Hp → Prop} {e4 e5 : Nat} {a6 a8 a9 : Int32} {h : Hp} {E : Int32 → Int32 → Prop} (R : Ru l D cs φ RX11 cX11_joinedOnce 13 2 45 V) (hk_e4 : kd e4 = 12) (hk_e5 : kd e5 = 12) (hE : ∀ (a10 : Int32) (a11 : Int32), E a10 a11 → V 240 [some (.ref (φ 7)), none, none, none, some (.ref (φ e4)), some (.ref (φ e5)), some (.int a6), none, some (.int a8), some (.int a9), some (.int a10), some (.int a11), none] [] h) : ∀ (n : Nat) (a10 : Int32) (a11 : Int32) (a12 : Int32), lp_Md_joinedOnce_172 n e4 e5 a6 a8 a9 a10 a11 a12 h E → V 172 [some (.ref (φ 7)), none, none, none, some (.ref (φ e4)), some (.ref (φ e5)), some (.int a6), none, some (.int a8), some (.int a9), some (.int a10), some (.int a11), some (.int a12)] [] h := by
  intro n
  induction n with
  | zero => intro a10 a11 a12 hP; exact hP.elim
  | succ n ih =>
    intro a10 a11 a12 hP
    unfold lp_Md_joinedOnce_172 at hP
    refine v_iload_12 R dX11_joinedOnce_172 ?_
    refine v_aload_0 R dX11_joinedOnce_174 ?_
    refine g_Md_wires R dX11_joinedOnce_175 fl_X11_81 ?_
    refine v_icmp_ge (tgt := 240) R dX11_joinedOnce_178 (by decide) (fun q178 => ?_) (fun q178 => ?_)
    · have hP := hP.1 q178
      refine v_wk R [some (.ref (φ 7)), none, none, none, some (.ref (φ e4)), some (.ref (φ e5)), some (.int a6), none, some (.int a8), some (.int a9), some (.int a10), some (.int a11), none] ⟨rfl, ⟨rfl, ⟨rfl, ⟨rfl, ⟨rfl, ⟨rfl, ⟨rfl, ⟨rfl, trivial⟩⟩⟩⟩⟩⟩⟩⟩ ?_
      exact hE a10 a11 hP
    · have hP := hP.2 q178
      refine v_iload_10 R dX11_joinedOnce_181 ?_
      refine v_aload_4 R dX11_joinedOnce_183 ?_
      refine v_iload_6 R dX11_joinedOnce_185 ?_
      refine v_iload_12 R dX11_joinedOnce_187 ?_
      refine v_iadd R dX11_joinedOnce_189 ?_
      obtain ⟨hi190, hP⟩ := hP
      refine v_iald R dX11_joinedOnce_190 hk_e4 hi190 ?_
      refine v_iload_9 R dX11_joinedOnce_191 ?_
      refine jn_v (fun K => ∀ (z204_1 : Int32), K z204_1 → V 204 [some (.ref (φ 7)), none, none, none, some (.ref (φ e4)), some (.ref (φ e5)), some (.int a6), none, some (.int a8), some (.int a9), none, some (.int a11), some (.int a12)] [.int z204_1, .int a10] h) ?_ ?_ hP
      · intro z204_1 hP
        refine v_ior R dX11_joinedOnce_204 ?_
        refine v_istoreL_10 R dX11_joinedOnce_205 (by decide) rfl hP (fun x205 hP => ?_)
        refine v_iload_11 R dX11_joinedOnce_207 ?_
        refine v_aload_5 R dX11_joinedOnce_209 ?_
        refine v_iload_6 R dX11_joinedOnce_211 ?_
        refine v_iload_12 R dX11_joinedOnce_213 ?_
        refine v_iadd R dX11_joinedOnce_215 ?_
        obtain ⟨hi216, hP⟩ := hP
        refine v_iald R dX11_joinedOnce_216 hk_e5 hi216 ?_
        refine v_iload_9 R dX11_joinedOnce_217 ?_
        refine jn_v (fun K => ∀ (z231_1 : Int32), K z231_1 → V 231 [some (.ref (φ 7)), none, none, none, some (.ref (φ e4)), some (.ref (φ e5)), some (.int a6), none, some (.int a8), some (.int a9), some (.int x205), none, some (.int a12)] [.int z231_1, .int a11] h) ?_ ?_ hP
        · intro z231_1 hP
          refine v_ior R dX11_joinedOnce_231 ?_
          refine v_istoreL_11 R dX11_joinedOnce_232 (by decide) rfl hP (fun x232 hP => ?_)
          refine v_iincL_12 R (1 : Int32) dX11_joinedOnce_234 (by decide) rfl (by decide) hP (fun x234 hP => ?_)
          refine v_goto (tgt := 172) R dX11_joinedOnce_237 (by decide) ?_
          exact ih x205 x232 x234 hP
        · intro K J231 hP
          refine v_icmp_ne (tgt := 230) R dX11_joinedOnce_219 (by decide) (fun q219 => ?_) (fun q219 => ?_)
          · have hP := hP.1 q219
            refine v_iconst R dX11_joinedOnce_230 (v := (0 : Int32)) (by decide) ?_
            refine v_wk R [some (.ref (φ 7)), none, none, none, some (.ref (φ e4)), some (.ref (φ e5)), some (.int a6), none, some (.int a8), some (.int a9), some (.int x205), none, some (.int a12)] ⟨rfl, ⟨rfl, ⟨rfl, ⟨rfl, ⟨rfl, ⟨rfl, ⟨rfl, ⟨rfl, trivial⟩⟩⟩⟩⟩⟩⟩⟩ ?_
            exact J231 (0 : Int32) hP
          · have hP := hP.2 q219
            refine v_bipush R dX11_joinedOnce_222 (v := (32 : Int32)) (by decide) ?_
            refine v_iload_12 R dX11_joinedOnce_224 ?_
            refine v_ishl R dX11_joinedOnce_226 ?_
            refine v_goto (tgt := 231) R dX11_joinedOnce_227 (by decide) ?_
            refine v_wk R [some (.ref (φ 7)), none, none, none, some (.ref (φ e4)), some (.ref (φ e5)), some (.int a6), none, some (.int a8), some (.int a9), some (.int x205), none, some (.int a12)] ⟨rfl, ⟨rfl, ⟨rfl, ⟨rfl, ⟨rfl, ⟨rfl, ⟨rfl, ⟨rfl, trivial⟩⟩⟩⟩⟩⟩⟩⟩ ?_
            exact J231 ((32 : Int32) <<< (a12 &&& 31)) hP
      · intro K J204 hP
        refine v_icmp_ne (tgt := 203) R dX11_joinedOnce_193 (by decide) (fun q193 => ?_) (fun q193 => ?_)
        · have hP := hP.1 q193
          refine v_iconst R dX11_joinedOnce_203 (v := (0 : Int32)) (by decide) ?_
          refine v_wk R [some (.ref (φ 7)), none, none, none, some (.ref (φ e4)), some (.ref (φ e5)), some (.int a6), none, some (.int a8), some (.int a9), none, some (.int a11), some (.int a12)] ⟨rfl, ⟨rfl, ⟨rfl, ⟨rfl, ⟨rfl, ⟨rfl, ⟨rfl, ⟨rfl, trivial⟩⟩⟩⟩⟩⟩⟩⟩ ?_
          exact J204 (0 : Int32) hP
        · have hP := hP.2 q193
          refine v_iconst R dX11_joinedOnce_196 (v := (1 : Int32)) (by decide) ?_
          refine v_iload_12 R dX11_joinedOnce_197 ?_
          refine v_ishl R dX11_joinedOnce_199 ?_
          refine v_goto (tgt := 204) R dX11_joinedOnce_200 (by decide) ?_
          refine v_wk R [some (.ref (φ 7)), none, none, none, some (.ref (φ e4)), some (.ref (φ e5)), some (.int a6), none, some (.int a8), some (.int a9), none, some (.int a11), some (.int a12)] ⟨rfl, ⟨rfl, ⟨rfl, ⟨rfl, ⟨rfl, ⟨rfl, ⟨rfl, ⟨rfl, trivial⟩⟩⟩⟩⟩⟩⟩⟩ ?_
          exact J204 ((1 : Int32) <<< (a12 &&& 31)) hP
set_option maxRecDepth 100000 in
set_option maxHeartbeats 4000000 in
theorem L_Md_joinedOnce_157 {l : Launch} {D : va_G} {cs : Nat → ClassId} {φ : Nat → Nat} {V : Nat → List (Option Value) → List Value → Hp → Prop} {e4 e5 : Nat} {a6 : Int32} {h : Hp} {E : Int32 → Prop} (R : Ru l D cs φ RX11 cX11_joinedOnce 13 2 45 V) (hk_e4 : kd e4 = 12) (hk_e5 : kd e5 = 12) (hE : ∀ (a8 : Int32), E a8 → V 260 [none, none, none, none, none, none, none, none, some (.int a8), none, none, none, none] [] h) : ∀ (n : Nat) (a8 : Int32) (a9 : Int32), lp_Md_joinedOnce_157 n e4 e5 a6 a8 a9 h E → V 157 [some (.ref (φ 7)), none, none, none, some (.ref (φ e4)), some (.ref (φ e5)), some (.int a6), none, some (.int a8), some (.int a9), none, none, none] [] h := by
  intro n
  induction n with
  | zero => intro a8 a9 hP; exact hP.elim
  | succ n ih =>
    intro a8 a9 hP
    unfold lp_Md_joinedOnce_157 at hP
    refine v_iload_9 R dX11_joinedOnce_157 ?_
    refine v_iconst R dX11_joinedOnce_159 (v := (5 : Int32)) (by decide) ?_
    refine v_icmp_gt (tgt := 260) R dX11_joinedOnce_160 (by decide) (fun q160 => ?_) (fun q160 => ?_)
    · have hP := hP.1 q160
      refine v_wk R [none, none, none, none, none, none, none, none, some (.int a8), none, none, none, none] ⟨rfl, trivial⟩ ?_
      exact hE a8 hP
    · have hP := hP.2 q160
      refine v_iconst R dX11_joinedOnce_163 (v := (0 : Int32)) (by decide) ?_
      refine v_istore_10 R dX11_joinedOnce_164 (by decide) rfl ?_
      refine v_iconst R dX11_joinedOnce_166 (v := (0 : Int32)) (by decide) ?_
      refine v_istore_11 R dX11_joinedOnce_167 (by decide) rfl ?_
      refine v_iconst R dX11_joinedOnce_169 (v := (0 : Int32)) (by decide) ?_
      refine v_istore_12 R dX11_joinedOnce_170 (by decide) rfl ?_
      obtain ⟨n172, hP⟩ := hP
      refine L_Md_joinedOnce_172 R hk_e4 hk_e5 ?_ n172 _ _ _ hP
      intro w172_10 w172_11 hP
      refine v_iload_8 R dX11_joinedOnce_240 ?_
      refine v_iload_10 R dX11_joinedOnce_242 ?_
      refine cS2_ir R dX11_joinedOnce_244 (c_Md_together hP) ml_X11_198 mv_Md_together (by decide) (Nat.le_of_ble_eq_true rfl) (fun v244 hP => ?_)
      refine v_iload_11 R dX11_joinedOnce_247 ?_
      refine cS2_ir R dX11_joinedOnce_249 (c_Md_together hP) ml_X11_198 mv_Md_together (by decide) (Nat.le_of_ble_eq_true rfl) (fun v249 hP => ?_)
      refine v_istore_8 R dX11_joinedOnce_252 (by decide) rfl ?_
      refine v_iincL_9 R (1 : Int32) dX11_joinedOnce_254 (by decide) rfl (by decide) hP (fun x254 hP => ?_)
      refine v_goto (tgt := 157) R dX11_joinedOnce_257 (by decide) ?_
      refine v_wk R [some (.ref (φ 7)), none, none, none, some (.ref (φ e4)), some (.ref (φ e5)), some (.int a6), none, some (.int v249), some (.int x254), none, none, none] ⟨rfl, ⟨rfl, ⟨rfl, ⟨rfl, ⟨rfl, ⟨rfl, trivial⟩⟩⟩⟩⟩⟩ ?_
      exact ih v249 x254 hP
set_option maxRecDepth 100000 in
set_option maxHeartbeats 4000000 in
theorem c_Md_joinedOnce {l : Launch} {D : va_G} {cs : Nat → ClassId} {φ : Nat → Nat} {c1 c3 c4 : Nat} {p0 p2 p5 p6 : Int32} {h : Hp} {P : Int32 → Prop} (hk_c1 : kd c1 = 12) (hk_c3 : kd c3 = 12) (hk_c4 : kd c4 = 12) (hP : wp_Md_joinedOnce p0 c1 p2 c3 c4 p5 p6 h P) : Ct l D cs φ M_Md_joinedOnce [.ref (φ 7), .int p0, .ref (φ c1), .int p2, .ref (φ c3), .ref (φ c4), .int p5, .int p6] h (fun rv h2 => ∃ v, rv = some (.int v) ∧ h2 = h ∧ P v) := by
  refine Ct.of (lc := [some (.ref (φ 7)), some (.int p0), some (.ref (φ c1)), some (.int p2), some (.ref (φ c3)), some (.ref (φ c4)), some (.int p5), some (.int p6), none, none, none, none, none]) RX11 2 45 rfl (by decide +kernel) rfl (Nat.le_of_ble_eq_true rfl) rfl rfl (fun V R RI RV => ?_)
  have R : Ru l D cs φ RX11 cX11_joinedOnce 13 2 45 V := R
  have Rt : ∀ pc lc v, decode cX11_joinedOnce pc = .ok (.ireturn, 1) → P v → V pc lc [.int v] h := fun pc lc v hd hp => RI pc lc _ .int h rfl rfl hd ⟨v, rfl, rfl, hp⟩
  unfold wp_Md_joinedOnce at hP
  refine v_iload_1 R dX11_joinedOnce_0 ?_
  refine v_istore_8 R dX11_joinedOnce_1 (by decide) rfl ?_
  refine v_iconst R dX11_joinedOnce_3 (v := (0 : Int32)) (by decide) ?_
  refine v_istore_9 R dX11_joinedOnce_4 (by decide) rfl ?_
  refine v_wk R [some (.ref (φ 7)), none, some (.ref (φ c1)), some (.int p2), some (.ref (φ c3)), some (.ref (φ c4)), some (.int p5), some (.int p6), some (.int p0), some (.int (0 : Int32)), none, none, none] ⟨rfl, ⟨rfl, ⟨rfl, ⟨rfl, ⟨rfl, ⟨rfl, ⟨rfl, ⟨rfl, ⟨rfl, trivial⟩⟩⟩⟩⟩⟩⟩⟩⟩ ?_
  obtain ⟨n6, hP⟩ := hP
  refine L_Md_joinedOnce_6 R hk_c1 hk_c3 hk_c4 ?_ n6 _ _ hP
  intro w6_8 hP
  refine v_iconst R dX11_joinedOnce_154 (v := (1 : Int32)) (by decide) ?_
  refine v_istore_9 R dX11_joinedOnce_155 (by decide) rfl ?_
  obtain ⟨n157, hP⟩ := hP
  refine L_Md_joinedOnce_157 R hk_c3 hk_c4 ?_ n157 _ _ hP
  intro w157_8 hP
  refine v_iload_8 R dX11_joinedOnce_260 ?_
  exact Rt _ _ _ dX11_joinedOnce_262 hP
set_option maxRecDepth 100000 in
set_option maxHeartbeats 4000000 in
theorem L_Md_joined_23 {l : Launch} {D : va_G} {cs : Nat → ClassId} {φ : Nat → Nat} {V : Nat → List (Option Value) → List Value → Hp → Prop} {e2 e4 e5 : Nat} {a3 a6 a7 : Int32} {h : Hp} {E : Int32 → Prop} (R : Ru l D cs φ RX11 cX11_joined 10 3 77 V) (hk_e2 : kd e2 = 12) (hk_e4 : kd e4 = 12) (hk_e5 : kd e5 = 12) (hE : ∀ (a8 : Int32), E a8 → V 55 [none, none, none, none, none, none, none, none, some (.int a8), none] [] h) : ∀ (n : Nat) (a8 : Int32) (a9 : Int32), lp_Md_joined_23 n e2 a3 e4 e5 a6 a7 a8 a9 h E → V 23 [some (.ref (φ 7)), none, some (.ref (φ e2)), some (.int a3), some (.ref (φ e4)), some (.ref (φ e5)), some (.int a6), some (.int a7), some (.int a8), some (.int a9)] [] h := by
  intro n
  induction n with
  | zero => intro a8 a9 hP; exact hP.elim
  | succ n ih =>
    intro a8 a9 hP
    unfold lp_Md_joined_23 at hP
    refine v_iload_9 R dX11_joined_23 ?_
    refine v_iload_8 R dX11_joined_25 ?_
    refine v_icmp_eq (tgt := 55) R dX11_joined_27 (by decide) (fun q27 => ?_) (fun q27 => ?_)
    · have hP := hP.1 q27
      refine v_wk R [none, none, none, none, none, none, none, none, some (.int a8), none] ⟨rfl, trivial⟩ ?_
      exact hE a8 hP
    · have hP := hP.2 q27
      refine v_iload_9 R dX11_joined_30 ?_
      refine v_istore_8 R dX11_joined_32 (by decide) rfl ?_
      refine v_aload_0 R dX11_joined_34 ?_
      refine v_iload_8 R dX11_joined_35 ?_
      refine v_aload_2 R dX11_joined_37 ?_
      refine v_iload_3 R dX11_joined_38 ?_
      refine v_aload_4 R dX11_joined_39 ?_
      refine v_aload_5 R dX11_joined_41 ?_
      refine v_iload_6 R dX11_joined_43 ?_
      refine v_iload_7 R dX11_joined_45 ?_
      refine cV7_ir R dX11_joined_47 (c_Md_joinedOnce hk_e2 hk_e4 hk_e5 hP) rc_Md ml_X11_201 mv_Md_joinedOnce (by decide) (Nat.le_of_ble_eq_true rfl) (fun v47 hP => ?_)
      refine v_istore_9 R dX11_joined_50 (by decide) rfl ?_
      refine v_goto (tgt := 23) R dX11_joined_52 (by decide) ?_
      exact ih a9 v47 hP
set_option maxRecDepth 100000 in
set_option maxHeartbeats 4000000 in
theorem c_Md_joined {l : Launch} {D : va_G} {cs : Nat → ClassId} {φ : Nat → Nat} {c1 c3 c4 : Nat} {p0 p2 p5 p6 : Int32} {h : Hp} {P : Int32 → Prop} (hk_c1 : kd c1 = 12) (hk_c3 : kd c3 = 12) (hk_c4 : kd c4 = 12) (hP : wp_Md_joined p0 c1 p2 c3 c4 p5 p6 h P) : Ct l D cs φ M_Md_joined [.ref (φ 7), .int p0, .ref (φ c1), .int p2, .ref (φ c3), .ref (φ c4), .int p5, .int p6] h (fun rv h2 => ∃ v, rv = some (.int v) ∧ h2 = h ∧ P v) := by
  refine Ct.of (lc := [some (.ref (φ 7)), some (.int p0), some (.ref (φ c1)), some (.int p2), some (.ref (φ c3)), some (.ref (φ c4)), some (.int p5), some (.int p6), none, none]) RX11 3 77 rfl (by decide +kernel) rfl (Nat.le_of_ble_eq_true rfl) rfl rfl (fun V R RI RV => ?_)
  have R : Ru l D cs φ RX11 cX11_joined 10 3 77 V := R
  have Rt : ∀ pc lc v, decode cX11_joined pc = .ok (.ireturn, 1) → P v → V pc lc [.int v] h := fun pc lc v hd hp => RI pc lc _ .int h rfl rfl hd ⟨v, rfl, rfl, hp⟩
  unfold wp_Md_joined at hP
  refine v_iconst R dX11_joined_0 (v := (1 : Int32)) (by decide) ?_
  refine v_iload_1 R dX11_joined_1 ?_
  refine v_ishl R dX11_joined_2 ?_
  refine v_istoreL_8 R dX11_joined_3 (by decide) rfl hP (fun x3 hP => ?_)
  refine v_aload_0 R dX11_joined_5 ?_
  refine v_iload_8 R dX11_joined_6 ?_
  refine v_aload_2 R dX11_joined_8 ?_
  refine v_iload_3 R dX11_joined_9 ?_
  refine v_aload_4 R dX11_joined_10 ?_
  refine v_aload_5 R dX11_joined_12 ?_
  refine v_iload_6 R dX11_joined_14 ?_
  refine v_iload_7 R dX11_joined_16 ?_
  refine cV7_ir R dX11_joined_18 (c_Md_joinedOnce hk_c1 hk_c3 hk_c4 hP) rc_Md ml_X11_201 mv_Md_joinedOnce (by decide) (Nat.le_of_ble_eq_true rfl) (fun v18 hP => ?_)
  refine v_istore_9 R dX11_joined_21 (by decide) rfl ?_
  refine v_wk R [some (.ref (φ 7)), none, some (.ref (φ c1)), some (.int p2), some (.ref (φ c3)), some (.ref (φ c4)), some (.int p5), some (.int p6), some (.int x3), some (.int v18)] ⟨rfl, ⟨rfl, ⟨rfl, ⟨rfl, ⟨rfl, ⟨rfl, ⟨rfl, ⟨rfl, ⟨rfl, trivial⟩⟩⟩⟩⟩⟩⟩⟩⟩ ?_
  obtain ⟨n23, hP⟩ := hP
  refine L_Md_joined_23 R hk_c1 hk_c3 hk_c4 ?_ n23 _ _ hP
  intro w23_8 hP
  refine v_iload_8 R dX11_joined_55 ?_
  exact Rt _ _ _ dX11_joined_57 hP
set_option maxRecDepth 100000 in
set_option maxHeartbeats 4000000 in
theorem c_Md_netNow {l : Launch} {D : va_G} {cs : Nat → ClassId} {φ : Nat → Nat} {p0 p1 p2 : Int32} {h : Hp} {P : Int32 → Prop} (hP : wp_Md_netNow p0 p1 p2 h P) : Ct l D cs φ M_Md_netNow [.ref (φ 7), .int p0, .int p1, .int p2] h (fun rv h2 => ∃ v, rv = some (.int v) ∧ h2 = h ∧ P v) := by
  refine Ct.of (lc := [some (.ref (φ 7)), some (.int p0), some (.int p1), some (.int p2)]) RX11 4 106 rfl (by decide +kernel) rfl (Nat.le_of_ble_eq_true rfl) rfl rfl (fun V R RI RV => ?_)
  have R : Ru l D cs φ RX11 cX11_netNow 4 4 106 V := R
  have Rt : ∀ pc lc v, decode cX11_netNow pc = .ok (.ireturn, 1) → P v → V pc lc [.int v] h := fun pc lc v hd hp => RI pc lc _ .int h rfl rfl hd ⟨v, rfl, rfl, hp⟩
  unfold wp_Md_netNow at hP
  refine v_aload_0 R dX11_netNow_0 ?_
  refine v_iconst R dX11_netNow_1 (v := (5 : Int32)) (by decide) ?_
  refine v_iload_1 R dX11_netNow_2 ?_
  refine v_imul R dX11_netNow_3 ?_
  refine v_iload_2 R dX11_netNow_4 ?_
  refine v_iadd R dX11_netNow_5 ?_
  refine v_aload_0 R dX11_netNow_6 ?_
  refine g_Md_truly R dX11_netNow_7 fl_X11_7 ?_
  refine v_aload_0 R dX11_netNow_10 ?_
  refine g_Md_hour R dX11_netNow_11 fl_X11_173 ?_
  refine v_aload_0 R dX11_netNow_14 ?_
  refine g_Md_near R dX11_netNow_15 fl_X11_16 ?_
  refine v_aload_0 R dX11_netNow_18 ?_
  refine g_Md_far R dX11_netNow_19 fl_X11_19 ?_
  refine v_iconst R dX11_netNow_22 (v := (0 : Int32)) (by decide) ?_
  refine v_iload_3 R dX11_netNow_23 ?_
  refine cV7_ir R dX11_netNow_24 (c_Md_joined rfl rfl rfl hP) rc_Md ml_X11_205 mv_Md_joined (by decide) (Nat.le_of_ble_eq_true rfl) (fun v24 hP => ?_)
  exact Rt _ _ _ dX11_netNow_27 hP
set_option maxRecDepth 100000 in
set_option maxHeartbeats 4000000 in
theorem c_Md_bitOf {l : Launch} {D : va_G} {cs : Nat → ClassId} {φ : Nat → Nat} {p0 p1 : Int32} {h : Hp} {P : Int32 → Prop} (hP : wp_Md_bitOf p0 p1 P) : Ct l D cs φ M_Md_bitOf [.int p0, .int p1] h (fun rv h2 => ∃ v, rv = some (.int v) ∧ h2 = h ∧ P v) := by
  refine Ct.of (lc := [some (.int p0), some (.int p1)]) RX11 0 0 rfl (by decide +kernel) rfl (Nat.le_of_ble_eq_true rfl) rfl rfl (fun V R RI RV => ?_)
  have R : Ru l D cs φ RX11 cX11_bitOf 2 0 0 V := R
  have Rt : ∀ pc lc v, decode cX11_bitOf pc = .ok (.ireturn, 1) → P v → V pc lc [.int v] h := fun pc lc v hd hp => RI pc lc _ .int h rfl rfl hd ⟨v, rfl, rfl, hp⟩
  unfold wp_Md_bitOf at hP
  refine v_iload_1 R dX11_bitOf_0 ?_
  refine v_iconst R dX11_bitOf_1 (v := (-1 : Int32)) (by decide) ?_
  refine v_icmp_ne (tgt := 10) R dX11_bitOf_2 (by decide) (fun q2 => ?_) (fun q2 => ?_)
  · have hP := hP.1 q2
    refine v_iconst R dX11_bitOf_10 (v := (5 : Int32)) (by decide) ?_
    refine v_iload_0 R dX11_bitOf_11 ?_
    refine v_imul R dX11_bitOf_12 ?_
    refine v_iload_1 R dX11_bitOf_13 ?_
    refine v_iadd R dX11_bitOf_14 ?_
    exact Rt _ _ _ dX11_bitOf_15 hP
  · have hP := hP.2 q2
    refine v_bipush R dX11_bitOf_5 (v := (10 : Int32)) (by decide) ?_
    refine v_goto (tgt := 15) R dX11_bitOf_7 (by decide) ?_
    exact Rt _ _ _ dX11_bitOf_15 hP
set_option maxRecDepth 100000 in
set_option maxHeartbeats 4000000 in
theorem c_Md_ringsNow {l : Launch} {D : va_G} {cs : Nat → ClassId} {φ : Nat → Nat} {p0 p1 p2 : Int32} {h : Hp} {P : Bool → Prop} (hP : wp_Md_ringsNow p0 p1 p2 h P) : Ct l D cs φ M_Md_ringsNow [.ref (φ 7), .int p0, .int p1, .int p2] h (fun rv h2 => ∃ v, rv = some (.int (bI v)) ∧ h2 = h ∧ P v) := by
  refine Ct.of (lc := [some (.ref (φ 7)), some (.int p0), some (.int p1), some (.int p2)]) RX11 5 129 rfl (by decide +kernel) rfl (Nat.le_of_ble_eq_true rfl) rfl rfl (fun V R RI RV => ?_)
  have R : Ru l D cs φ RX11 cX11_ringsNow 4 5 129 V := R
  have Rt : ∀ pc lc v, decode cX11_ringsNow pc = .ok (.ireturn, 1) → P v → V pc lc [.int (bI v)] h := fun pc lc v hd hp => RI pc lc _ .boolean h rfl (bI_n v) hd ⟨v, rfl, rfl, hp⟩
  unfold wp_Md_ringsNow at hP
  refine v_aload_0 R dX11_ringsNow_0 ?_
  refine v_aload_0 R dX11_ringsNow_1 ?_
  refine g_Md_place R dX11_ringsNow_2 fl_X11_170 ?_
  refine v_iload_1 R dX11_ringsNow_5 ?_
  refine v_iload_3 R dX11_ringsNow_6 ?_
  refine cV3_ir R dX11_ringsNow_7 (c_Md_netNow hP) rc_Md ml_X11_208 mv_Md_netNow (by decide) (Nat.le_of_ble_eq_true rfl) (fun v7 hP => ?_)
  refine v_aload_0 R dX11_ringsNow_10 ?_
  refine g_Md_place R dX11_ringsNow_11 fl_X11_170 ?_
  refine v_iload_2 R dX11_ringsNow_14 ?_
  refine cS2_ir R dX11_ringsNow_15 (c_Md_bitOf hP) ml_X11_212 mv_Md_bitOf (by decide) (Nat.le_of_ble_eq_true rfl) (fun v15 hP => ?_)
  refine cS2_br R dX11_ringsNow_18 (c_Md_has hP) ml_X11_99 mv_Md_has (by decide) (Nat.le_of_ble_eq_true rfl) (fun v18 hP => ?_)
  exact Rt _ _ _ dX11_ringsNow_21 hP
set_option maxRecDepth 100000 in
set_option maxHeartbeats 4000000 in
theorem L_Md_goodSet_4 {l : Launch} {D : va_G} {cs : Nat → ClassId} {φ : Nat → Nat} {V : Nat → List (Option Value) → List Value → Hp → Prop} {h : Hp} {E : Int32 → Prop} (R : Ru l D cs φ RX11 cX11_goodSet 3 5 129 V) (hE : ∀ (a1 : Int32), E a1 → V 52 [none, some (.int a1), none] [] h) : ∀ (n : Nat) (a1 : Int32) (a2 : Int32), lp_Md_goodSet_4 n a1 a2 h E → V 4 [some (.ref (φ 7)), some (.int a1), some (.int a2)] [] h := by
  intro n
  induction n with
  | zero => intro a1 a2 hP; exact hP.elim
  | succ n ih =>
    intro a1 a2 hP
    unfold lp_Md_goodSet_4 at hP
    refine v_iload_2 R dX11_goodSet_4 ?_
    refine v_aload_0 R dX11_goodSet_5 ?_
    refine g_Md_wires R dX11_goodSet_6 fl_X11_81 ?_
    refine v_icmp_ge (tgt := 52) R dX11_goodSet_9 (by decide) (fun q9 => ?_) (fun q9 => ?_)
    · have hP := hP.1 q9
      refine v_wk R [none, some (.int a1), none] ⟨rfl, trivial⟩ ?_
      exact hE a1 hP
    · have hP := hP.2 q9
      refine v_iload_1 R dX11_goodSet_12 ?_
      refine v_aload_0 R dX11_goodSet_13 ?_
      refine v_iconst R dX11_goodSet_14 (v := (1 : Int32)) (by decide) ?_
      refine v_iload_2 R dX11_goodSet_15 ?_
      refine v_iconst R dX11_goodSet_16 (v := (0 : Int32)) (by decide) ?_
      refine cV3_ir R dX11_goodSet_17 (c_Md_netNow hP) rc_Md ml_X11_208 mv_Md_netNow (by decide) (Nat.le_of_ble_eq_true rfl) (fun v17 hP => ?_)
      refine v_aload_0 R dX11_goodSet_20 ?_
      refine g_Md_truly R dX11_goodSet_21 fl_X11_7 ?_
      refine v_iload_2 R dX11_goodSet_24 ?_
      obtain ⟨hi25, hP⟩ := hP
      refine v_iald R dX11_goodSet_25 rfl hi25 ?_
      refine cS2_br R dX11_goodSet_26 (c_Md_has hP) ml_X11_99 mv_Md_has (by decide) (Nat.le_of_ble_eq_true rfl) (fun v26 hP => ?_)
      refine jn_v (fun K => ∀ (z44_1 : Int32), K z44_1 → V 44 [some (.ref (φ 7)), none, some (.int a2)] [.int z44_1, .int a1] h) ?_ ?_ hP
      · intro z44_1 hP
        refine v_ior R dX11_goodSet_44 ?_
        refine v_istoreL_1 R dX11_goodSet_45 (by decide) rfl hP (fun x45 hP => ?_)
        refine v_iincL_2 R (1 : Int32) dX11_goodSet_46 (by decide) rfl (by decide) hP (fun x46 hP => ?_)
        refine v_goto (tgt := 4) R dX11_goodSet_49 (by decide) ?_
        exact ih x45 x46 hP
      · intro K J44 hP
        refine v_ifb_eq (tgt := 43) R dX11_goodSet_29 (by decide) (fun q29 => ?_) (fun q29 => ?_)
        · have hP := hP.1 q29
          refine v_iconst R dX11_goodSet_43 (v := (0 : Int32)) (by decide) ?_
          refine v_wk R [some (.ref (φ 7)), none, some (.int a2)] ⟨rfl, ⟨rfl, trivial⟩⟩ ?_
          exact J44 (0 : Int32) hP
        · have hP := hP.2 q29
          refine v_iconst R dX11_goodSet_32 (v := (1 : Int32)) (by decide) ?_
          refine v_aload_0 R dX11_goodSet_33 ?_
          refine g_Md_truly R dX11_goodSet_34 fl_X11_7 ?_
          refine v_iload_2 R dX11_goodSet_37 ?_
          obtain ⟨hi38, hP⟩ := hP
          refine v_iald R dX11_goodSet_38 rfl hi38 ?_
          refine v_ishl R dX11_goodSet_39 ?_
          refine v_goto (tgt := 44) R dX11_goodSet_40 (by decide) ?_
          refine v_wk R [some (.ref (φ 7)), none, some (.int a2)] ⟨rfl, ⟨rfl, trivial⟩⟩ ?_
          exact J44 ((1 : Int32) <<< ((h.1 77 (a2).toNatClampNeg) &&& 31)) hP
set_option maxRecDepth 100000 in
set_option maxHeartbeats 4000000 in
theorem c_Md_goodSet {l : Launch} {D : va_G} {cs : Nat → ClassId} {φ : Nat → Nat} {h : Hp} {P : Int32 → Prop} (hP : wp_Md_goodSet h P) : Ct l D cs φ M_Md_goodSet [.ref (φ 7)] h (fun rv h2 => ∃ v, rv = some (.int v) ∧ h2 = h ∧ P v) := by
  refine Ct.of (lc := [some (.ref (φ 7)), none, none]) RX11 5 129 rfl (by decide +kernel) rfl (Nat.le_of_ble_eq_true rfl) rfl rfl (fun V R RI RV => ?_)
  have R : Ru l D cs φ RX11 cX11_goodSet 3 5 129 V := R
  have Rt : ∀ pc lc v, decode cX11_goodSet pc = .ok (.ireturn, 1) → P v → V pc lc [.int v] h := fun pc lc v hd hp => RI pc lc _ .int h rfl rfl hd ⟨v, rfl, rfl, hp⟩
  unfold wp_Md_goodSet at hP
  refine v_iconst R dX11_goodSet_0 (v := (0 : Int32)) (by decide) ?_
  refine v_istore_1 R dX11_goodSet_1 (by decide) rfl ?_
  refine v_iconst R dX11_goodSet_2 (v := (0 : Int32)) (by decide) ?_
  refine v_istore_2 R dX11_goodSet_3 (by decide) rfl ?_
  obtain ⟨n4, hP⟩ := hP
  refine L_Md_goodSet_4 R ?_ n4 _ _ hP
  intro w4_1 hP
  refine v_iload_1 R dX11_goodSet_52 ?_
  exact Rt _ _ _ dX11_goodSet_53 hP
set_option maxRecDepth 100000 in
set_option maxHeartbeats 4000000 in
theorem c_Md_wire {l : Launch} {D : va_G} {cs : Nat → ClassId} {φ : Nat → Nat} {p0 p1 : Int32} {h : Hp} {P : Int32 → Prop} (hP : wp_Md_wire p0 p1 h P) : Ct l D cs φ M_Md_wire [.ref (φ 7), .int p0, .int p1] h (fun rv h2 => ∃ v, rv = some (.int v) ∧ h2 = h ∧ P v) := by
  refine Ct.of (lc := [some (.ref (φ 7)), some (.int p0), some (.int p1)]) RX11 2 43 rfl (by decide +kernel) rfl (Nat.le_of_ble_eq_true rfl) rfl rfl (fun V R RI RV => ?_)
  have R : Ru l D cs φ RX11 cX11_wire 3 2 43 V := R
  have Rt : ∀ pc lc v, decode cX11_wire pc = .ok (.ireturn, 1) → P v → V pc lc [.int v] h := fun pc lc v hd hp => RI pc lc _ .int h rfl rfl hd ⟨v, rfl, rfl, hp⟩
  unfold wp_Md_wire at hP
  refine v_aload_0 R dX11_wire_0 ?_
  refine v_iload_1 R dX11_wire_1 ?_
  refine cV1_br R dX11_wire_2 (c_Md_isWire hP) rc_Md ml_X11_88 mv_Md_isWire (by decide) (Nat.le_of_ble_eq_true rfl) (fun v2 hP => ?_)
  refine v_ifb_ne (tgt := 11) R dX11_wire_5 (by decide) (fun q5 => ?_) (fun q5 => ?_)
  · have hP := hP.1 q5
    refine v_iload_2 R dX11_wire_11 ?_
    refine v_iconst R dX11_wire_12 (v := (0 : Int32)) (by decide) ?_
    refine v_iconst R dX11_wire_13 (v := (3 : Int32)) (by decide) ?_
    refine cS3_br R dX11_wire_14 (c_Md_in hP) ml_X11_84 mv_Md_in (by decide) (Nat.le_of_ble_eq_true rfl) (fun v14 hP => ?_)
    refine v_ifb_ne (tgt := 23) R dX11_wire_17 (by decide) (fun q17 => ?_) (fun q17 => ?_)
    · have hP := hP.1 q17
      refine v_iload_2 R dX11_wire_23 ?_
      refine v_if_ne (tgt := 36) R dX11_wire_24 (by decide) (fun q24 => ?_) (fun q24 => ?_)
      · have hP := hP.1 q24
        refine v_iload_2 R dX11_wire_36 ?_
        refine v_iconst R dX11_wire_37 (v := (1 : Int32)) (by decide) ?_
        refine v_icmp_ne (tgt := 53) R dX11_wire_38 (by decide) (fun q38 => ?_) (fun q38 => ?_)
        · have hP := hP.1 q38
          refine v_iload_2 R dX11_wire_53 ?_
          refine v_iconst R dX11_wire_54 (v := (2 : Int32)) (by decide) ?_
          refine v_icmp_ne (tgt := 82) R dX11_wire_55 (by decide) (fun q55 => ?_) (fun q55 => ?_)
          · have hP := hP.1 q55
            refine v_aload_0 R dX11_wire_82 ?_
            refine g_Md_near R dX11_wire_83 fl_X11_16 ?_
            refine v_iload_1 R dX11_wire_86 ?_
            obtain ⟨hi87, hP⟩ := hP
            refine v_iald R dX11_wire_87 rfl hi87 ?_
            exact Rt _ _ _ dX11_wire_88 hP
          · have hP := hP.2 q55
            refine v_aload_0 R dX11_wire_58 ?_
            refine g_Md_kindOf R dX11_wire_59 fl_X11_13 ?_
            refine v_iload_1 R dX11_wire_62 ?_
            obtain ⟨hi63, hP⟩ := hP
            refine v_iald R dX11_wire_63 rfl hi63 ?_
            refine v_aload_0 R dX11_wire_64 ?_
            refine g_Md_hour R dX11_wire_65 fl_X11_173 ?_
            refine cS2_br R dX11_wire_68 (c_Md_passesBy hP) ml_X11_191 mv_Md_passesBy (by decide) (Nat.le_of_ble_eq_true rfl) (fun v68 hP => ?_)
            refine v_ifb_eq (tgt := 78) R dX11_wire_71 (by decide) (fun q71 => ?_) (fun q71 => ?_)
            · have hP := hP.1 q71
              refine v_iconst R dX11_wire_78 (v := (0 : Int32)) (by decide) ?_
              refine v_goto (tgt := 88) R dX11_wire_79 (by decide) ?_
              exact Rt _ _ _ dX11_wire_88 hP
            · have hP := hP.2 q71
              refine v_iconst R dX11_wire_74 (v := (1 : Int32)) (by decide) ?_
              refine v_goto (tgt := 88) R dX11_wire_75 (by decide) ?_
              exact Rt _ _ _ dX11_wire_88 hP
        · have hP := hP.2 q38
          refine v_aload_0 R dX11_wire_41 ?_
          refine v_aload_0 R dX11_wire_42 ?_
          refine g_Md_truly R dX11_wire_43 fl_X11_7 ?_
          refine v_iload_1 R dX11_wire_46 ?_
          refine cV2_ir R dX11_wire_47 (c_Md_farEndOf rfl hP) rc_Md ml_X11_194 mv_Md_farEndOf (by decide) (Nat.le_of_ble_eq_true rfl) (fun v47 hP => ?_)
          refine v_goto (tgt := 88) R dX11_wire_50 (by decide) ?_
          exact Rt _ _ _ dX11_wire_88 hP
      · have hP := hP.2 q24
        refine v_aload_0 R dX11_wire_27 ?_
        refine g_Md_kindOf R dX11_wire_28 fl_X11_13 ?_
        refine v_iload_1 R dX11_wire_31 ?_
        obtain ⟨hi32, hP⟩ := hP
        refine v_iald R dX11_wire_32 rfl hi32 ?_
        refine v_goto (tgt := 88) R dX11_wire_33 (by decide) ?_
        exact Rt _ _ _ dX11_wire_88 hP
    · have hP := hP.2 q17
      refine v_ldc R dX11_wire_20 ct_X11_106 ?_
      exact Rt _ _ _ dX11_wire_22 hP
  · have hP := hP.2 q5
    refine v_ldc R dX11_wire_8 ct_X11_215 ?_
    exact Rt _ _ _ dX11_wire_10 hP
set_option maxRecDepth 100000 in
set_option maxHeartbeats 4000000 in
theorem c_Md_net {l : Launch} {D : va_G} {cs : Nat → ClassId} {φ : Nat → Nat} {p0 p1 : Int32} {h : Hp} {P : Int32 → Prop} (hP : wp_Md_net p0 p1 h P) : Ct l D cs φ M_Md_net [.ref (φ 7), .int p0, .int p1] h (fun rv h2 => ∃ v, rv = some (.int v) ∧ h2 = h ∧ P v) := by
  refine Ct.of (lc := [some (.ref (φ 7)), some (.int p0), some (.int p1)]) RX11 5 129 rfl (by decide +kernel) rfl (Nat.le_of_ble_eq_true rfl) rfl rfl (fun V R RI RV => ?_)
  have R : Ru l D cs φ RX11 cX11_net 3 5 129 V := R
  have Rt : ∀ pc lc v, decode cX11_net pc = .ok (.ireturn, 1) → P v → V pc lc [.int v] h := fun pc lc v hd hp => RI pc lc _ .int h rfl rfl hd ⟨v, rfl, rfl, hp⟩
  unfold wp_Md_net at hP
  refine v_aload_0 R dX11_net_0 ?_
  refine v_iload_2 R dX11_net_1 ?_
  refine cV1_br R dX11_net_2 (c_Md_isWire hP) rc_Md ml_X11_88 mv_Md_isWire (by decide) (Nat.le_of_ble_eq_true rfl) (fun v2 hP => ?_)
  refine v_ifb_ne (tgt := 11) R dX11_net_5 (by decide) (fun q5 => ?_) (fun q5 => ?_)
  · have hP := hP.1 q5
    refine v_iload_1 R dX11_net_11 ?_
    refine v_iconst R dX11_net_12 (v := (0 : Int32)) (by decide) ?_
    refine v_iconst R dX11_net_13 (v := (1 : Int32)) (by decide) ?_
    refine cS3_br R dX11_net_14 (c_Md_in hP) ml_X11_84 mv_Md_in (by decide) (Nat.le_of_ble_eq_true rfl) (fun v14 hP => ?_)
    refine v_ifb_eq (tgt := 30) R dX11_net_17 (by decide) (fun q17 => ?_) (fun q17 => ?_)
    · have hP := hP.1 q17
      refine v_ldc R dX11_net_30 ct_X11_106 ?_
      exact Rt _ _ _ dX11_net_32 hP
    · have hP := hP.2 q17
      refine v_aload_0 R dX11_net_20 ?_
      refine v_iload_1 R dX11_net_21 ?_
      refine v_iload_2 R dX11_net_22 ?_
      refine v_iconst R dX11_net_23 (v := (0 : Int32)) (by decide) ?_
      refine cV3_ir R dX11_net_24 (c_Md_netNow hP) rc_Md ml_X11_208 mv_Md_netNow (by decide) (Nat.le_of_ble_eq_true rfl) (fun v24 hP => ?_)
      refine v_goto (tgt := 32) R dX11_net_27 (by decide) ?_
      exact Rt _ _ _ dX11_net_32 hP
  · have hP := hP.2 q5
    refine v_ldc R dX11_net_8 ct_X11_215 ?_
    exact Rt _ _ _ dX11_net_10 hP
set_option maxRecDepth 100000 in
set_option maxHeartbeats 4000000 in
theorem c_Md_rings {l : Launch} {D : va_G} {cs : Nat → ClassId} {φ : Nat → Nat} {p0 p1 : Int32} {h : Hp} {P : Int32 → Prop} (hP : wp_Md_rings p0 p1 h P) : Ct l D cs φ M_Md_rings [.ref (φ 7), .int p0, .int p1] h (fun rv h2 => ∃ v, rv = some (.int v) ∧ h2 = h ∧ P v) := by
  refine Ct.of (lc := [some (.ref (φ 7)), some (.int p0), some (.int p1)]) RX11 6 152 rfl (by decide +kernel) rfl (Nat.le_of_ble_eq_true rfl) rfl rfl (fun V R RI RV => ?_)
  have R : Ru l D cs φ RX11 cX11_rings 3 6 152 V := R
  have Rt : ∀ pc lc v, decode cX11_rings pc = .ok (.ireturn, 1) → P v → V pc lc [.int v] h := fun pc lc v hd hp => RI pc lc _ .int h rfl rfl hd ⟨v, rfl, rfl, hp⟩
  unfold wp_Md_rings at hP
  refine v_aload_0 R dX11_rings_0 ?_
  refine v_iload_1 R dX11_rings_1 ?_
  refine v_iload_2 R dX11_rings_2 ?_
  refine cV2_br R dX11_rings_3 (c_Md_areEnds hP) rc_Md ml_X11_216 mv_Md_areEnds (by decide) (Nat.le_of_ble_eq_true rfl) (fun v3 hP => ?_)
  refine v_ifb_ne (tgt := 12) R dX11_rings_6 (by decide) (fun q6 => ?_) (fun q6 => ?_)
  · have hP := hP.1 q6
    refine v_aload_0 R dX11_rings_12 ?_
    refine v_iload_1 R dX11_rings_13 ?_
    refine v_iload_2 R dX11_rings_14 ?_
    refine v_iconst R dX11_rings_15 (v := (0 : Int32)) (by decide) ?_
    refine cV3_br R dX11_rings_16 (c_Md_ringsNow hP) rc_Md ml_X11_219 mv_Md_ringsNow (by decide) (Nat.le_of_ble_eq_true rfl) (fun v16 hP => ?_)
    refine v_ifb_eq (tgt := 26) R dX11_rings_19 (by decide) (fun q19 => ?_) (fun q19 => ?_)
    · have hP := hP.1 q19
      refine v_iconst R dX11_rings_26 (v := (0 : Int32)) (by decide) ?_
      exact Rt _ _ _ dX11_rings_27 hP
    · have hP := hP.2 q19
      refine v_iconst R dX11_rings_22 (v := (1 : Int32)) (by decide) ?_
      refine v_goto (tgt := 27) R dX11_rings_23 (by decide) ?_
      exact Rt _ _ _ dX11_rings_27 hP
  · have hP := hP.2 q6
    refine v_ldc R dX11_rings_9 ct_X11_215 ?_
    exact Rt _ _ _ dX11_rings_11 hP
set_option maxRecDepth 100000 in
set_option maxHeartbeats 4000000 in
theorem c_Md_touches {l : Launch} {D : va_G} {cs : Nat → ClassId} {φ : Nat → Nat} {p0 p1 : Int32} {h : Hp} {P : Int32 → Prop} (hP : wp_Md_touches p0 p1 h P) : Ct l D cs φ M_Md_touches [.ref (φ 7), .int p0, .int p1] h (fun rv h2 => ∃ v, rv = some (.int v) ∧ h2 = h ∧ P v) := by
  refine Ct.of (lc := [some (.ref (φ 7)), some (.int p0), some (.int p1)]) RX11 2 45 rfl (by decide +kernel) rfl (Nat.le_of_ble_eq_true rfl) rfl rfl (fun V R RI RV => ?_)
  have R : Ru l D cs φ RX11 cX11_touches 3 2 45 V := R
  have Rt : ∀ pc lc v, decode cX11_touches pc = .ok (.ireturn, 1) → P v → V pc lc [.int v] h := fun pc lc v hd hp => RI pc lc _ .int h rfl rfl hd ⟨v, rfl, rfl, hp⟩
  unfold wp_Md_touches at hP
  refine v_aload_0 R dX11_touches_0 ?_
  refine v_iload_1 R dX11_touches_1 ?_
  refine cV1_br R dX11_touches_2 (c_Md_isWire hP) rc_Md ml_X11_88 mv_Md_isWire (by decide) (Nat.le_of_ble_eq_true rfl) (fun v2 hP => ?_)
  refine v_ifb_eq (tgt := 21) R dX11_touches_5 (by decide) (fun q5 => ?_) (fun q5 => ?_)
  · have hP := hP.1 q5
    refine v_ldc R dX11_touches_21 ct_X11_215 ?_
    exact Rt _ _ _ dX11_touches_23 hP
  · have hP := hP.2 q5
    refine v_aload_0 R dX11_touches_8 ?_
    refine v_iload_2 R dX11_touches_9 ?_
    refine cV1_br R dX11_touches_10 (c_Md_isWire hP) rc_Md ml_X11_88 mv_Md_isWire (by decide) (Nat.le_of_ble_eq_true rfl) (fun v10 hP => ?_)
    refine v_ifb_eq (tgt := 21) R dX11_touches_13 (by decide) (fun q13 => ?_) (fun q13 => ?_)
    · have hP := hP.1 q13
      refine v_ldc R dX11_touches_21 ct_X11_215 ?_
      exact Rt _ _ _ dX11_touches_23 hP
    · have hP := hP.2 q13
      refine v_iload_1 R dX11_touches_16 ?_
      refine v_iload_2 R dX11_touches_17 ?_
      refine v_icmp_ne (tgt := 24) R dX11_touches_18 (by decide) (fun q18 => ?_) (fun q18 => ?_)
      · have hP := hP.1 q18
        refine v_aload_0 R dX11_touches_24 ?_
        refine v_iload_1 R dX11_touches_25 ?_
        refine v_iload_2 R dX11_touches_26 ?_
        refine cV2_br R dX11_touches_27 (c_Md_doTouch hP) rc_Md ml_X11_103 mv_Md_doTouch (by decide) (Nat.le_of_ble_eq_true rfl) (fun v27 hP => ?_)
        refine v_ifb_eq (tgt := 37) R dX11_touches_30 (by decide) (fun q30 => ?_) (fun q30 => ?_)
        · have hP := hP.1 q30
          refine v_iconst R dX11_touches_37 (v := (0 : Int32)) (by decide) ?_
          exact Rt _ _ _ dX11_touches_38 hP
        · have hP := hP.2 q30
          refine v_iconst R dX11_touches_33 (v := (1 : Int32)) (by decide) ?_
          refine v_goto (tgt := 38) R dX11_touches_34 (by decide) ?_
          exact Rt _ _ _ dX11_touches_38 hP
      · have hP := hP.2 q18
        refine v_ldc R dX11_touches_21 ct_X11_215 ?_
        exact Rt _ _ _ dX11_touches_23 hP
set_option maxRecDepth 100000 in
set_option maxHeartbeats 4000000 in
theorem L_Md_lays_45 {l : Launch} {D : va_G} {cs : Nat → ClassId} {φ : Nat → Nat} {V : Nat → List (Option Value) → List Value → Hp → Prop} {e1 : Nat} {a2 : Int32} {E : Hp → Prop} (R : Ru l D cs φ RX11 cX11_lays 4 0 0 V) (hk_e1 : kd e1 = 12) (hE : ∀ (h : Hp), E h → V 97 [none, none, none, none] [] h) : ∀ (n : Nat) (a3 : Int32) (h : Hp), lp_Md_lays_45 n e1 a2 a3 h E → V 45 [some (.ref (φ 7)), some (.ref (φ e1)), some (.int a2), some (.int a3)] [] h := by
  intro n
  induction n with
  | zero => intro a3 h hP; exact hP.elim
  | succ n ih =>
    intro a3 h hP
    unfold lp_Md_lays_45 at hP
    refine v_iload_3 R dX11_lays_45 ?_
    refine v_iconst R dX11_lays_46 (v := (5 : Int32)) (by decide) ?_
    refine v_icmp_ge (tgt := 97) R dX11_lays_47 (by decide) (fun q47 => ?_) (fun q47 => ?_)
    · have hP := hP.1 q47
      refine v_wk R [none, none, none, none] trivial ?_
      exact hE h hP
    · have hP := hP.2 q47
      refine v_aload_1 R dX11_lays_50 ?_
      refine v_iload_2 R dX11_lays_51 ?_
      refine v_iconst R dX11_lays_52 (v := (5 : Int32)) (by decide) ?_
      refine v_iadd R dX11_lays_53 ?_
      refine v_iload_3 R dX11_lays_54 ?_
      refine v_iadd R dX11_lays_55 ?_
      refine v_aload_0 R dX11_lays_56 ?_
      refine g_Md_kindOf R dX11_lays_57 fl_X11_13 ?_
      refine v_iload_3 R dX11_lays_60 ?_
      obtain ⟨hi61, hP⟩ := hP
      refine v_iald R dX11_lays_61 rfl hi61 ?_
      obtain ⟨hi62, hP⟩ := hP
      refine v_iastL R dX11_lays_62 hk_e1 hi62 hP (fun h62 hP => ?_)
      refine v_aload_1 R dX11_lays_63 ?_
      refine v_iload_2 R dX11_lays_64 ?_
      refine v_bipush R dX11_lays_65 (v := (10 : Int32)) (by decide) ?_
      refine v_iadd R dX11_lays_67 ?_
      refine v_iload_3 R dX11_lays_68 ?_
      refine v_iadd R dX11_lays_69 ?_
      refine v_aload_0 R dX11_lays_70 ?_
      refine g_Md_near R dX11_lays_71 fl_X11_16 ?_
      refine v_iload_3 R dX11_lays_74 ?_
      obtain ⟨hi75, hP⟩ := hP
      refine v_iald R dX11_lays_75 rfl hi75 ?_
      obtain ⟨hi76, hP⟩ := hP
      refine v_iastL R dX11_lays_76 hk_e1 hi76 hP (fun h76 hP => ?_)
      refine v_aload_1 R dX11_lays_77 ?_
      refine v_iload_2 R dX11_lays_78 ?_
      refine v_bipush R dX11_lays_79 (v := (15 : Int32)) (by decide) ?_
      refine v_iadd R dX11_lays_81 ?_
      refine v_iload_3 R dX11_lays_82 ?_
      refine v_iadd R dX11_lays_83 ?_
      refine v_aload_0 R dX11_lays_84 ?_
      refine g_Md_far R dX11_lays_85 fl_X11_19 ?_
      refine v_iload_3 R dX11_lays_88 ?_
      obtain ⟨hi89, hP⟩ := hP
      refine v_iald R dX11_lays_89 rfl hi89 ?_
      obtain ⟨hi90, hP⟩ := hP
      refine v_iastL R dX11_lays_90 hk_e1 hi90 hP (fun h90 hP => ?_)
      refine v_iincL_3 R (1 : Int32) dX11_lays_91 (by decide) rfl (by decide) hP (fun x91 hP => ?_)
      refine v_goto (tgt := 45) R dX11_lays_94 (by decide) ?_
      exact ih x91 h90 hP
set_option maxRecDepth 100000 in
set_option maxHeartbeats 4000000 in
theorem c_Md_lays {l : Launch} {D : va_G} {cs : Nat → ClassId} {φ : Nat → Nat} {c0 : Nat} {p1 : Int32} {h : Hp} {P : Hp → Prop} (hk_c0 : kd c0 = 12) (hP : wp_Md_lays c0 p1 h P) : Ct l D cs φ M_Md_lays [.ref (φ 7), .ref (φ c0), .int p1] h (fun rv h2 => rv = none ∧ P h2) := by
  refine Ct.of (lc := [some (.ref (φ 7)), some (.ref (φ c0)), some (.int p1), none]) RX11 0 0 rfl (by decide +kernel) rfl (Nat.le_of_ble_eq_true rfl) rfl rfl (fun V R RI RV => ?_)
  have R : Ru l D cs φ RX11 cX11_lays 4 0 0 V := R
  have Rt : ∀ pc lc h, decode cX11_lays pc = .ok (.return_, 1) → P h → V pc lc [] h := fun pc lc h hd hp => RV pc lc h rfl hd ⟨rfl, hp⟩
  unfold wp_Md_lays at hP
  refine v_aload_1 R dX11_lays_0 ?_
  refine v_iload_2 R dX11_lays_1 ?_
  refine v_aload_0 R dX11_lays_2 ?_
  refine g_Md_place R dX11_lays_3 fl_X11_170 ?_
  obtain ⟨hi6, hP⟩ := hP
  refine v_iastL R dX11_lays_6 hk_c0 hi6 hP (fun h6 hP => ?_)
  refine v_aload_1 R dX11_lays_7 ?_
  refine v_iload_2 R dX11_lays_8 ?_
  refine v_iconst R dX11_lays_9 (v := (1 : Int32)) (by decide) ?_
  refine v_iadd R dX11_lays_10 ?_
  refine v_aload_0 R dX11_lays_11 ?_
  refine g_Md_hour R dX11_lays_12 fl_X11_173 ?_
  obtain ⟨hi15, hP⟩ := hP
  refine v_iastL R dX11_lays_15 hk_c0 hi15 hP (fun h15 hP => ?_)
  refine v_aload_1 R dX11_lays_16 ?_
  refine v_iload_2 R dX11_lays_17 ?_
  refine v_iconst R dX11_lays_18 (v := (2 : Int32)) (by decide) ?_
  refine v_iadd R dX11_lays_19 ?_
  refine v_aload_0 R dX11_lays_20 ?_
  refine g_Md_crossed R dX11_lays_21 fl_X11_176 ?_
  obtain ⟨hi24, hP⟩ := hP
  refine v_iastL R dX11_lays_24 hk_c0 hi24 hP (fun h24 hP => ?_)
  refine v_aload_1 R dX11_lays_25 ?_
  refine v_iload_2 R dX11_lays_26 ?_
  refine v_iconst R dX11_lays_27 (v := (3 : Int32)) (by decide) ?_
  refine v_iadd R dX11_lays_28 ?_
  refine v_aload_0 R dX11_lays_29 ?_
  refine g_Md_tests R dX11_lays_30 fl_X11_179 ?_
  obtain ⟨hi33, hP⟩ := hP
  refine v_iastL R dX11_lays_33 hk_c0 hi33 hP (fun h33 hP => ?_)
  refine v_aload_1 R dX11_lays_34 ?_
  refine v_iload_2 R dX11_lays_35 ?_
  refine v_iconst R dX11_lays_36 (v := (4 : Int32)) (by decide) ?_
  refine v_iadd R dX11_lays_37 ?_
  refine v_aload_0 R dX11_lays_38 ?_
  refine g_Md_touching R dX11_lays_39 fl_X11_92 ?_
  obtain ⟨hi42, hP⟩ := hP
  refine v_iastL R dX11_lays_42 hk_c0 hi42 hP (fun h42 hP => ?_)
  refine v_iconst R dX11_lays_43 (v := (0 : Int32)) (by decide) ?_
  refine v_istore_3 R dX11_lays_44 (by decide) rfl ?_
  obtain ⟨n45, hP⟩ := hP
  refine L_Md_lays_45 R hk_c0 ?_ n45 _ _ hP
  intro h45x hP
  exact Rt _ _ _ dX11_lays_97 hP
set_option maxRecDepth 100000 in
set_option maxHeartbeats 4000000 in
theorem L_Md_takes_45 {l : Launch} {D : va_G} {cs : Nat → ClassId} {φ : Nat → Nat} {V : Nat → List (Option Value) → List Value → Hp → Prop} {e1 : Nat} {a2 : Int32} {E : Hp → Prop} (R : Ru l D cs φ RX11 cX11_takes 4 0 0 V) (hk_e1 : kd e1 = 12) (hE : ∀ (h : Hp), E h → V 97 [none, none, none, none] [] h) : ∀ (n : Nat) (a3 : Int32) (h : Hp), lp_Md_takes_45 n e1 a2 a3 h E → V 45 [some (.ref (φ 7)), some (.ref (φ e1)), some (.int a2), some (.int a3)] [] h := by
  intro n
  induction n with
  | zero => intro a3 h hP; exact hP.elim
  | succ n ih =>
    intro a3 h hP
    unfold lp_Md_takes_45 at hP
    refine v_iload_3 R dX11_takes_45 ?_
    refine v_iconst R dX11_takes_46 (v := (5 : Int32)) (by decide) ?_
    refine v_icmp_ge (tgt := 97) R dX11_takes_47 (by decide) (fun q47 => ?_) (fun q47 => ?_)
    · have hP := hP.1 q47
      refine v_wk R [none, none, none, none] trivial ?_
      exact hE h hP
    · have hP := hP.2 q47
      refine v_aload_0 R dX11_takes_50 ?_
      refine g_Md_kindOf R dX11_takes_51 fl_X11_13 ?_
      refine v_iload_3 R dX11_takes_54 ?_
      refine v_aload_1 R dX11_takes_55 ?_
      refine v_iload_2 R dX11_takes_56 ?_
      refine v_iconst R dX11_takes_57 (v := (5 : Int32)) (by decide) ?_
      refine v_iadd R dX11_takes_58 ?_
      refine v_iload_3 R dX11_takes_59 ?_
      refine v_iadd R dX11_takes_60 ?_
      obtain ⟨hi61, hP⟩ := hP
      refine v_iald R dX11_takes_61 hk_e1 hi61 ?_
      obtain ⟨hi62, hP⟩ := hP
      refine v_iastL R dX11_takes_62 rfl hi62 hP (fun h62 hP => ?_)
      refine v_aload_0 R dX11_takes_63 ?_
      refine g_Md_near R dX11_takes_64 fl_X11_16 ?_
      refine v_iload_3 R dX11_takes_67 ?_
      refine v_aload_1 R dX11_takes_68 ?_
      refine v_iload_2 R dX11_takes_69 ?_
      refine v_bipush R dX11_takes_70 (v := (10 : Int32)) (by decide) ?_
      refine v_iadd R dX11_takes_72 ?_
      refine v_iload_3 R dX11_takes_73 ?_
      refine v_iadd R dX11_takes_74 ?_
      obtain ⟨hi75, hP⟩ := hP
      refine v_iald R dX11_takes_75 hk_e1 hi75 ?_
      obtain ⟨hi76, hP⟩ := hP
      refine v_iastL R dX11_takes_76 rfl hi76 hP (fun h76 hP => ?_)
      refine v_aload_0 R dX11_takes_77 ?_
      refine g_Md_far R dX11_takes_78 fl_X11_19 ?_
      refine v_iload_3 R dX11_takes_81 ?_
      refine v_aload_1 R dX11_takes_82 ?_
      refine v_iload_2 R dX11_takes_83 ?_
      refine v_bipush R dX11_takes_84 (v := (15 : Int32)) (by decide) ?_
      refine v_iadd R dX11_takes_86 ?_
      refine v_iload_3 R dX11_takes_87 ?_
      refine v_iadd R dX11_takes_88 ?_
      obtain ⟨hi89, hP⟩ := hP
      refine v_iald R dX11_takes_89 hk_e1 hi89 ?_
      obtain ⟨hi90, hP⟩ := hP
      refine v_iastL R dX11_takes_90 rfl hi90 hP (fun h90 hP => ?_)
      refine v_iincL_3 R (1 : Int32) dX11_takes_91 (by decide) rfl (by decide) hP (fun x91 hP => ?_)
      refine v_goto (tgt := 45) R dX11_takes_94 (by decide) ?_
      exact ih x91 h90 hP
set_option maxRecDepth 100000 in
set_option maxHeartbeats 4000000 in
theorem c_Md_takes {l : Launch} {D : va_G} {cs : Nat → ClassId} {φ : Nat → Nat} {c0 : Nat} {p1 : Int32} {h : Hp} {P : Hp → Prop} (hk_c0 : kd c0 = 12) (hP : wp_Md_takes c0 p1 h P) : Ct l D cs φ M_Md_takes [.ref (φ 7), .ref (φ c0), .int p1] h (fun rv h2 => rv = none ∧ P h2) := by
  refine Ct.of (lc := [some (.ref (φ 7)), some (.ref (φ c0)), some (.int p1), none]) RX11 0 0 rfl (by decide +kernel) rfl (Nat.le_of_ble_eq_true rfl) rfl rfl (fun V R RI RV => ?_)
  have R : Ru l D cs φ RX11 cX11_takes 4 0 0 V := R
  have Rt : ∀ pc lc h, decode cX11_takes pc = .ok (.return_, 1) → P h → V pc lc [] h := fun pc lc h hd hp => RV pc lc h rfl hd ⟨rfl, hp⟩
  unfold wp_Md_takes at hP
  refine v_aload_0 R dX11_takes_0 ?_
  refine v_aload_1 R dX11_takes_1 ?_
  refine v_iload_2 R dX11_takes_2 ?_
  obtain ⟨hi3, hP⟩ := hP
  refine v_iald R dX11_takes_3 hk_c0 hi3 ?_
  refine p_Md_place R dX11_takes_4 fl_X11_170 hP (fun h4 hP => ?_)
  refine v_aload_0 R dX11_takes_7 ?_
  refine v_aload_1 R dX11_takes_8 ?_
  refine v_iload_2 R dX11_takes_9 ?_
  refine v_iconst R dX11_takes_10 (v := (1 : Int32)) (by decide) ?_
  refine v_iadd R dX11_takes_11 ?_
  obtain ⟨hi12, hP⟩ := hP
  refine v_iald R dX11_takes_12 hk_c0 hi12 ?_
  refine p_Md_hour R dX11_takes_13 fl_X11_173 hP (fun h13 hP => ?_)
  refine v_aload_0 R dX11_takes_16 ?_
  refine v_aload_1 R dX11_takes_17 ?_
  refine v_iload_2 R dX11_takes_18 ?_
  refine v_iconst R dX11_takes_19 (v := (2 : Int32)) (by decide) ?_
  refine v_iadd R dX11_takes_20 ?_
  obtain ⟨hi21, hP⟩ := hP
  refine v_iald R dX11_takes_21 hk_c0 hi21 ?_
  refine p_Md_crossed R dX11_takes_22 fl_X11_176 hP (fun h22 hP => ?_)
  refine v_aload_0 R dX11_takes_25 ?_
  refine v_aload_1 R dX11_takes_26 ?_
  refine v_iload_2 R dX11_takes_27 ?_
  refine v_iconst R dX11_takes_28 (v := (3 : Int32)) (by decide) ?_
  refine v_iadd R dX11_takes_29 ?_
  obtain ⟨hi30, hP⟩ := hP
  refine v_iald R dX11_takes_30 hk_c0 hi30 ?_
  refine p_Md_tests R dX11_takes_31 fl_X11_179 hP (fun h31 hP => ?_)
  refine v_aload_0 R dX11_takes_34 ?_
  refine v_aload_1 R dX11_takes_35 ?_
  refine v_iload_2 R dX11_takes_36 ?_
  refine v_iconst R dX11_takes_37 (v := (4 : Int32)) (by decide) ?_
  refine v_iadd R dX11_takes_38 ?_
  obtain ⟨hi39, hP⟩ := hP
  refine v_iald R dX11_takes_39 hk_c0 hi39 ?_
  refine p_Md_touching R dX11_takes_40 fl_X11_92 hP (fun h40 hP => ?_)
  refine v_iconst R dX11_takes_43 (v := (0 : Int32)) (by decide) ?_
  refine v_istore_3 R dX11_takes_44 (by decide) rfl ?_
  obtain ⟨n45, hP⟩ := hP
  refine L_Md_takes_45 R hk_c0 ?_ n45 _ _ hP
  intro h45x hP
  exact Rt _ _ _ dX11_takes_97 hP
set_option maxRecDepth 100000 in
set_option maxHeartbeats 4000000 in
theorem L_Md_notes_11 {l : Launch} {D : va_G} {cs : Nat → ClassId} {φ : Nat → Nat} {V : Nat → List (Option Value) → List Value → Hp → Prop} {E : Hp → Prop} (R : Ru l D cs φ RX11 cX11_notes 2 1 23 V) (hE : ∀ (h : Hp), E h → V 39 [some (.ref (φ 7)), none] [] h) : ∀ (n : Nat) (a1 : Int32) (h : Hp), lp_Md_notes_11 n a1 h E → V 11 [some (.ref (φ 7)), some (.int a1)] [] h := by
  intro n
  induction n with
  | zero => intro a1 h hP; exact hP.elim
  | succ n ih =>
    intro a1 h hP
    unfold lp_Md_notes_11 at hP
    refine v_iload_1 R dX11_notes_11 ?_
    refine v_sipush R dX11_notes_12 (v := (300 : Int32)) (by decide) ?_
    refine v_icmp_ge (tgt := 39) R dX11_notes_15 (by decide) (fun q15 => ?_) (fun q15 => ?_)
    · have hP := hP.1 q15
      refine v_wk R [some (.ref (φ 7)), none] ⟨rfl, trivial⟩ ?_
      exact hE h hP
    · have hP := hP.2 q15
      refine v_aload_0 R dX11_notes_18 ?_
      refine g_Md_ahead R dX11_notes_19 fl_X11_44 ?_
      refine v_iload_1 R dX11_notes_22 ?_
      refine v_aload_0 R dX11_notes_23 ?_
      refine g_Md_ahead R dX11_notes_24 fl_X11_44 ?_
      refine v_iload_1 R dX11_notes_27 ?_
      refine v_bipush R dX11_notes_28 (v := (20 : Int32)) (by decide) ?_
      refine v_iadd R dX11_notes_30 ?_
      obtain ⟨hi31, hP⟩ := hP
      refine v_iald R dX11_notes_31 rfl hi31 ?_
      obtain ⟨hi32, hP⟩ := hP
      refine v_iastL R dX11_notes_32 rfl hi32 hP (fun h32 hP => ?_)
      refine v_iincL_1 R (1 : Int32) dX11_notes_33 (by decide) rfl (by decide) hP (fun x33 hP => ?_)
      refine v_goto (tgt := 11) R dX11_notes_36 (by decide) ?_
      exact ih x33 h32 hP
set_option maxRecDepth 100000 in
set_option maxHeartbeats 4000000 in
theorem c_Md_notes {l : Launch} {D : va_G} {cs : Nat → ClassId} {φ : Nat → Nat} {h : Hp} {P : Hp → Prop} (hP : wp_Md_notes h P) : Ct l D cs φ M_Md_notes [.ref (φ 7)] h (fun rv h2 => rv = none ∧ P h2) := by
  refine Ct.of (lc := [some (.ref (φ 7)), none]) RX11 1 23 rfl (by decide +kernel) rfl (Nat.le_of_ble_eq_true rfl) rfl rfl (fun V R RI RV => ?_)
  have R : Ru l D cs φ RX11 cX11_notes 2 1 23 V := R
  have Rt : ∀ pc lc h, decode cX11_notes pc = .ok (.return_, 1) → P h → V pc lc [] h := fun pc lc h hd hp => RV pc lc h rfl hd ⟨rfl, hp⟩
  unfold wp_Md_notes at hP
  refine v_aload_0 R dX11_notes_0 ?_
  refine g_Md_undoMany R dX11_notes_1 fl_X11_188 ?_
  refine v_bipush R dX11_notes_4 (v := (16 : Int32)) (by decide) ?_
  refine jn_v (fun K => ∀ (h49 : Hp), K h49 → V 49 [some (.ref (φ 7)), none] [] h49) ?_ ?_ hP
  · intro h49 hP
    refine v_aload_0 R dX11_notes_49 ?_
    refine v_aload_0 R dX11_notes_50 ?_
    refine g_Md_ahead R dX11_notes_51 fl_X11_44 ?_
    refine v_bipush R dX11_notes_54 (v := (20 : Int32)) (by decide) ?_
    refine v_aload_0 R dX11_notes_56 ?_
    refine g_Md_undoMany R dX11_notes_57 fl_X11_188 ?_
    refine v_imul R dX11_notes_60 ?_
    refine cV2_vw R dX11_notes_61 (c_Md_lays rfl hP) rc_Md ml_X11_222 mv_Md_lays (by decide) (Nat.le_of_ble_eq_true rfl) (fun h61 hP => ?_)
    refine v_aload_0 R dX11_notes_64 ?_
    refine v_dup R dX11_notes_65 rfl ?_
    refine g_Md_undoMany R dX11_notes_66 fl_X11_188 ?_
    refine v_iconst R dX11_notes_69 (v := (1 : Int32)) (by decide) ?_
    refine v_iadd R dX11_notes_70 ?_
    refine p_Md_undoMany R dX11_notes_71 fl_X11_188 hP (fun h71 hP => ?_)
    exact Rt _ _ _ dX11_notes_74 hP
  · intro K J49 hP
    refine v_icmp_ne (tgt := 49) R dX11_notes_6 (by decide) (fun q6 => ?_) (fun q6 => ?_)
    · have hP := hP.1 q6
      exact J49 h hP
    · have hP := hP.2 q6
      refine v_iconst R dX11_notes_9 (v := (0 : Int32)) (by decide) ?_
      refine v_istore_1 R dX11_notes_10 (by decide) rfl ?_
      obtain ⟨n11, hP⟩ := hP
      refine L_Md_notes_11 R ?_ n11 _ _ hP
      intro h11x hP
      refine v_aload_0 R dX11_notes_39 ?_
      refine v_dup R dX11_notes_40 rfl ?_
      refine g_Md_undoMany R dX11_notes_41 fl_X11_188 ?_
      refine v_iconst R dX11_notes_44 (v := (1 : Int32)) (by decide) ?_
      refine v_isub R dX11_notes_45 ?_
      refine p_Md_undoMany R dX11_notes_46 fl_X11_188 hP (fun h46 hP => ?_)
      exact J49 h46 hP
set_option maxRecDepth 100000 in
set_option maxHeartbeats 4000000 in
theorem c_Md_groupOf {l : Launch} {D : va_G} {cs : Nat → ClassId} {φ : Nat → Nat} {p0 : Int32} {h : Hp} {P : Int32 → Prop} (hP : wp_Md_groupOf p0 h P) : Ct l D cs φ M_Md_groupOf [.ref (φ 7), .int p0] h (fun rv h2 => ∃ v, rv = some (.int v) ∧ h2 = h ∧ P v) := by
  refine Ct.of (lc := [some (.ref (φ 7)), some (.int p0)]) RX11 0 0 rfl (by decide +kernel) rfl (Nat.le_of_ble_eq_true rfl) rfl rfl (fun V R RI RV => ?_)
  have R : Ru l D cs φ RX11 cX11_groupOf 2 0 0 V := R
  have Rt : ∀ pc lc v, decode cX11_groupOf pc = .ok (.ireturn, 1) → P v → V pc lc [.int v] h := fun pc lc v hd hp => RI pc lc _ .int h rfl rfl hd ⟨v, rfl, rfl, hp⟩
  unfold wp_Md_groupOf at hP
  refine v_aload_0 R dX11_groupOf_0 ?_
  refine g_Md_place R dX11_groupOf_1 fl_X11_170 ?_
  refine v_if_ne (tgt := 16) R dX11_groupOf_4 (by decide) (fun q4 => ?_) (fun q4 => ?_)
  · have hP := hP.1 q4
    refine v_aload_0 R dX11_groupOf_16 ?_
    refine g_Md_far R dX11_groupOf_17 fl_X11_19 ?_
    refine v_iload_1 R dX11_groupOf_20 ?_
    obtain ⟨hi21, hP⟩ := hP
    refine v_iald R dX11_groupOf_21 rfl hi21 ?_
    exact Rt _ _ _ dX11_groupOf_22 hP
  · have hP := hP.2 q4
    refine v_aload_0 R dX11_groupOf_7 ?_
    refine g_Md_near R dX11_groupOf_8 fl_X11_16 ?_
    refine v_iload_1 R dX11_groupOf_11 ?_
    obtain ⟨hi12, hP⟩ := hP
    refine v_iald R dX11_groupOf_12 rfl hi12 ?_
    refine v_goto (tgt := 22) R dX11_groupOf_13 (by decide) ?_
    exact Rt _ _ _ dX11_groupOf_22 hP
set_option maxRecDepth 100000 in
set_option maxHeartbeats 4000000 in
theorem c_Md_comesInto {l : Launch} {D : va_G} {cs : Nat → ClassId} {φ : Nat → Nat} {p0 p1 : Int32} {h : Hp} {P : Hp → Prop} (hP : wp_Md_comesInto p0 p1 h P) : Ct l D cs φ M_Md_comesInto [.ref (φ 7), .int p0, .int p1] h (fun rv h2 => rv = none ∧ P h2) := by
  refine Ct.of (lc := [some (.ref (φ 7)), some (.int p0), some (.int p1)]) RX11 0 0 rfl (by decide +kernel) rfl (Nat.le_of_ble_eq_true rfl) rfl rfl (fun V R RI RV => ?_)
  have R : Ru l D cs φ RX11 cX11_comesInto 3 0 0 V := R
  have Rt : ∀ pc lc h, decode cX11_comesInto pc = .ok (.return_, 1) → P h → V pc lc [] h := fun pc lc h hd hp => RV pc lc h rfl hd ⟨rfl, hp⟩
  unfold wp_Md_comesInto at hP
  refine v_aload_0 R dX11_comesInto_0 ?_
  refine g_Md_place R dX11_comesInto_1 fl_X11_170 ?_
  refine v_if_ne (tgt := 17) R dX11_comesInto_4 (by decide) (fun q4 => ?_) (fun q4 => ?_)
  · have hP := hP.1 q4
    refine v_aload_0 R dX11_comesInto_17 ?_
    refine g_Md_far R dX11_comesInto_18 fl_X11_19 ?_
    refine v_iload_1 R dX11_comesInto_21 ?_
    refine v_iload_2 R dX11_comesInto_22 ?_
    obtain ⟨hi23, hP⟩ := hP
    refine v_iastL R dX11_comesInto_23 rfl hi23 hP (fun h23 hP => ?_)
    exact Rt _ _ _ dX11_comesInto_24 hP
  · have hP := hP.2 q4
    refine v_aload_0 R dX11_comesInto_7 ?_
    refine g_Md_near R dX11_comesInto_8 fl_X11_16 ?_
    refine v_iload_1 R dX11_comesInto_11 ?_
    refine v_iload_2 R dX11_comesInto_12 ?_
    obtain ⟨hi13, hP⟩ := hP
    refine v_iastL R dX11_comesInto_13 rfl hi13 hP (fun h13 hP => ?_)
    refine v_goto (tgt := 24) R dX11_comesInto_14 (by decide) ?_
    exact Rt _ _ _ dX11_comesInto_24 hP
set_option maxRecDepth 100000 in
set_option maxHeartbeats 4000000 in
theorem c_Md_goesOver {l : Launch} {D : va_G} {cs : Nat → ClassId} {φ : Nat → Nat} {h : Hp} {P : Hp → Prop} (hP : wp_Md_goesOver h P) : Ct l D cs φ M_Md_goesOver [.ref (φ 7)] h (fun rv h2 => rv = none ∧ P h2) := by
  refine Ct.of (lc := [some (.ref (φ 7))]) RX11 0 0 rfl (by decide +kernel) rfl (Nat.le_of_ble_eq_true rfl) rfl rfl (fun V R RI RV => ?_)
  have R : Ru l D cs φ RX11 cX11_goesOver 1 0 0 V := R
  have Rt : ∀ pc lc h, decode cX11_goesOver pc = .ok (.return_, 1) → P h → V pc lc [] h := fun pc lc h hd hp => RV pc lc h rfl hd ⟨rfl, hp⟩
  unfold wp_Md_goesOver at hP
  refine v_aload_0 R dX11_goesOver_0 ?_
  refine v_iconst R dX11_goesOver_1 (v := (1 : Int32)) (by decide) ?_
  refine v_aload_0 R dX11_goesOver_2 ?_
  refine g_Md_place R dX11_goesOver_3 fl_X11_170 ?_
  refine v_isub R dX11_goesOver_6 ?_
  refine p_Md_place R dX11_goesOver_7 fl_X11_170 hP (fun h7 hP => ?_)
  refine v_aload_0 R dX11_goesOver_10 ?_
  refine v_dup R dX11_goesOver_11 rfl ?_
  refine g_Md_crossed R dX11_goesOver_12 fl_X11_176 ?_
  refine v_aload_0 R dX11_goesOver_15 ?_
  refine g_Md_crossed R dX11_goesOver_16 fl_X11_176 ?_
  refine v_sipush R dX11_goesOver_19 (v := (9999 : Int32)) (by decide) ?_
  refine jn_v (fun K => ∀ (z30_2 : Int32), K z30_2 → V 30 [none] [.int z30_2, .int (h7.1 7 4), .ref (φ 7)] h7) ?_ ?_ hP
  · intro z30_2 hP
    refine v_iadd R dX11_goesOver_30 ?_
    refine p_Md_crossed R dX11_goesOver_31 fl_X11_176 hP (fun h31 hP => ?_)
    exact Rt _ _ _ dX11_goesOver_34 hP
  · intro K J30 hP
    refine v_icmp_ge (tgt := 29) R dX11_goesOver_22 (by decide) (fun q22 => ?_) (fun q22 => ?_)
    · have hP := hP.1 q22
      refine v_iconst R dX11_goesOver_29 (v := (0 : Int32)) (by decide) ?_
      refine v_wk R [none] trivial ?_
      exact J30 (0 : Int32) hP
    · have hP := hP.2 q22
      refine v_iconst R dX11_goesOver_25 (v := (1 : Int32)) (by decide) ?_
      refine v_goto (tgt := 30) R dX11_goesOver_26 (by decide) ?_
      refine v_wk R [none] trivial ?_
      exact J30 (1 : Int32) hP
set_option maxRecDepth 100000 in
set_option maxHeartbeats 4000000 in
theorem c_Md_tested {l : Launch} {D : va_G} {cs : Nat → ClassId} {φ : Nat → Nat} {h : Hp} {P : Hp → Prop} (hP : wp_Md_tested h P) : Ct l D cs φ M_Md_tested [.ref (φ 7)] h (fun rv h2 => rv = none ∧ P h2) := by
  refine Ct.of (lc := [some (.ref (φ 7))]) RX11 0 0 rfl (by decide +kernel) rfl (Nat.le_of_ble_eq_true rfl) rfl rfl (fun V R RI RV => ?_)
  have R : Ru l D cs φ RX11 cX11_tested 1 0 0 V := R
  have Rt : ∀ pc lc h, decode cX11_tested pc = .ok (.return_, 1) → P h → V pc lc [] h := fun pc lc h hd hp => RV pc lc h rfl hd ⟨rfl, hp⟩
  unfold wp_Md_tested at hP
  refine v_aload_0 R dX11_tested_0 ?_
  refine v_dup R dX11_tested_1 rfl ?_
  refine g_Md_tests R dX11_tested_2 fl_X11_179 ?_
  refine v_aload_0 R dX11_tested_5 ?_
  refine g_Md_tests R dX11_tested_6 fl_X11_179 ?_
  refine v_sipush R dX11_tested_9 (v := (9999 : Int32)) (by decide) ?_
  refine jn_v (fun K => ∀ (z20_2 : Int32), K z20_2 → V 20 [none] [.int z20_2, .int (h.1 7 5), .ref (φ 7)] h) ?_ ?_ hP
  · intro z20_2 hP
    refine v_iadd R dX11_tested_20 ?_
    refine p_Md_tests R dX11_tested_21 fl_X11_179 hP (fun h21 hP => ?_)
    exact Rt _ _ _ dX11_tested_24 hP
  · intro K J20 hP
    refine v_icmp_ge (tgt := 19) R dX11_tested_12 (by decide) (fun q12 => ?_) (fun q12 => ?_)
    · have hP := hP.1 q12
      refine v_iconst R dX11_tested_19 (v := (0 : Int32)) (by decide) ?_
      refine v_wk R [none] trivial ?_
      exact J20 (0 : Int32) hP
    · have hP := hP.2 q12
      refine v_iconst R dX11_tested_15 (v := (1 : Int32)) (by decide) ?_
      refine v_goto (tgt := 20) R dX11_tested_16 (by decide) ?_
      refine v_wk R [none] trivial ?_
      exact J20 (1 : Int32) hP
set_option maxRecDepth 100000 in
set_option maxHeartbeats 4000000 in
theorem c_Md_tie {l : Launch} {D : va_G} {cs : Nat → ClassId} {φ : Nat → Nat} {p0 p1 : Int32} {h : Hp} {P : Int32 → Hp → Prop} (hP : wp_Md_tie p0 p1 h P) : Ct l D cs φ M_Md_tie [.ref (φ 7), .int p0, .int p1] h (fun rv h2 => ∃ v, rv = some (.int v) ∧ P v h2) := by
  refine Ct.of (lc := [some (.ref (φ 7)), some (.int p0), some (.int p1), none]) RX11 2 44 rfl (by decide +kernel) rfl (Nat.le_of_ble_eq_true rfl) rfl rfl (fun V R RI RV => ?_)
  have R : Ru l D cs φ RX11 cX11_tie 4 2 44 V := R
  have Rt : ∀ pc lc v h, decode cX11_tie pc = .ok (.ireturn, 1) → P v h → V pc lc [.int v] h := fun pc lc v h hd hp => RI pc lc _ .int h rfl rfl hd ⟨v, rfl, hp⟩
  unfold wp_Md_tie at hP
  refine v_aload_0 R dX11_tie_0 ?_
  refine v_iload_1 R dX11_tie_1 ?_
  refine cV1_br R dX11_tie_2 (c_Md_isWire hP) rc_Md ml_X11_88 mv_Md_isWire (by decide) (Nat.le_of_ble_eq_true rfl) (fun v2 hP => ?_)
  refine v_ifb_ne (tgt := 11) R dX11_tie_5 (by decide) (fun q5 => ?_) (fun q5 => ?_)
  · have hP := hP.1 q5
    refine v_iload_2 R dX11_tie_11 ?_
    refine v_iconst R dX11_tie_12 (v := (0 : Int32)) (by decide) ?_
    refine v_iconst R dX11_tie_13 (v := (3 : Int32)) (by decide) ?_
    refine cS3_br R dX11_tie_14 (c_Md_in hP) ml_X11_84 mv_Md_in (by decide) (Nat.le_of_ble_eq_true rfl) (fun v14 hP => ?_)
    refine v_ifb_ne (tgt := 23) R dX11_tie_17 (by decide) (fun q17 => ?_) (fun q17 => ?_)
    · have hP := hP.1 q17
      refine v_aload_0 R dX11_tie_23 ?_
      refine v_iload_1 R dX11_tie_24 ?_
      refine cV1_ir R dX11_tie_25 (c_Md_groupOf hP) rc_Md ml_X11_226 mv_Md_groupOf (by decide) (Nat.le_of_ble_eq_true rfl) (fun v25 hP => ?_)
      refine v_istore_3 R dX11_tie_28 (by decide) rfl ?_
      refine v_iload_3 R dX11_tie_29 ?_
      refine v_iload_2 R dX11_tie_30 ?_
      refine v_icmp_ne (tgt := 37) R dX11_tie_31 (by decide) (fun q31 => ?_) (fun q31 => ?_)
      · have hP := hP.1 q31
        refine v_aload_0 R dX11_tie_37 ?_
        refine cV0_vw R dX11_tie_38 (c_Md_notes hP) rc_Md ml_X11_231 mv_Md_notes (by decide) (Nat.le_of_ble_eq_true rfl) (fun h38 hP => ?_)
        refine v_aload_0 R dX11_tie_41 ?_
        refine v_iload_1 R dX11_tie_42 ?_
        refine v_iload_2 R dX11_tie_43 ?_
        refine cV2_vw R dX11_tie_44 (c_Md_comesInto hP) rc_Md ml_X11_234 mv_Md_comesInto (by decide) (Nat.le_of_ble_eq_true rfl) (fun h44 hP => ?_)
        refine v_iload_3 R dX11_tie_47 ?_
        exact Rt _ _ _ _ dX11_tie_48 hP
      · have hP := hP.2 q31
        refine v_ldc R dX11_tie_34 ct_X11_230 ?_
        exact Rt _ _ _ _ dX11_tie_36 hP
    · have hP := hP.2 q17
      refine v_ldc R dX11_tie_20 ct_X11_106 ?_
      exact Rt _ _ _ _ dX11_tie_22 hP
  · have hP := hP.2 q5
    refine v_ldc R dX11_tie_8 ct_X11_215 ?_
    exact Rt _ _ _ _ dX11_tie_10 hP
set_option maxRecDepth 100000 in
set_option maxHeartbeats 4000000 in
theorem c_Md_cross {l : Launch} {D : va_G} {cs : Nat → ClassId} {φ : Nat → Nat} {h : Hp} {P : Int32 → Hp → Prop} (hP : wp_Md_cross h P) : Ct l D cs φ M_Md_cross [.ref (φ 7)] h (fun rv h2 => ∃ v, rv = some (.int v) ∧ P v h2) := by
  refine Ct.of (lc := [some (.ref (φ 7))]) RX11 2 44 rfl (by decide +kernel) rfl (Nat.le_of_ble_eq_true rfl) rfl rfl (fun V R RI RV => ?_)
  have R : Ru l D cs φ RX11 cX11_cross 1 2 44 V := R
  have Rt : ∀ pc lc v h, decode cX11_cross pc = .ok (.ireturn, 1) → P v h → V pc lc [.int v] h := fun pc lc v h hd hp => RI pc lc _ .int h rfl rfl hd ⟨v, rfl, hp⟩
  unfold wp_Md_cross at hP
  refine v_aload_0 R dX11_cross_0 ?_
  refine g_Md_wires R dX11_cross_1 fl_X11_81 ?_
  refine v_if_ne (tgt := 10) R dX11_cross_4 (by decide) (fun q4 => ?_) (fun q4 => ?_)
  · have hP := hP.1 q4
    refine v_aload_0 R dX11_cross_10 ?_
    refine g_Md_hour R dX11_cross_11 fl_X11_173 ?_
    refine v_sipush R dX11_cross_14 (v := (9000 : Int32)) (by decide) ?_
    refine v_icmp_le (tgt := 23) R dX11_cross_17 (by decide) (fun q17 => ?_) (fun q17 => ?_)
    · have hP := hP.1 q17
      refine v_aload_0 R dX11_cross_23 ?_
      refine cV0_vw R dX11_cross_24 (c_Md_notes hP) rc_Md ml_X11_231 mv_Md_notes (by decide) (Nat.le_of_ble_eq_true rfl) (fun h24 hP => ?_)
      refine v_aload_0 R dX11_cross_27 ?_
      refine cV0_vw R dX11_cross_28 (c_Md_goesOver hP) rc_Md ml_X11_238 mv_Md_goesOver (by decide) (Nat.le_of_ble_eq_true rfl) (fun h28 hP => ?_)
      refine v_aload_0 R dX11_cross_31 ?_
      refine v_dup R dX11_cross_32 rfl ?_
      refine g_Md_hour R dX11_cross_33 fl_X11_173 ?_
      refine v_iconst R dX11_cross_36 (v := (1 : Int32)) (by decide) ?_
      refine v_iadd R dX11_cross_37 ?_
      refine p_Md_hour R dX11_cross_38 fl_X11_173 hP (fun h38 hP => ?_)
      refine v_aload_0 R dX11_cross_41 ?_
      refine g_Md_hour R dX11_cross_42 fl_X11_173 ?_
      exact Rt _ _ _ _ dX11_cross_45 hP
    · have hP := hP.2 q17
      refine v_ldc R dX11_cross_20 ct_X11_110 ?_
      exact Rt _ _ _ _ dX11_cross_22 hP
  · have hP := hP.2 q4
    refine v_ldc R dX11_cross_7 ct_X11_230 ?_
    exact Rt _ _ _ _ dX11_cross_9 hP
set_option maxRecDepth 100000 in
set_option maxHeartbeats 4000000 in
theorem c_Md_test {l : Launch} {D : va_G} {cs : Nat → ClassId} {φ : Nat → Nat} {p0 p1 : Int32} {h : Hp} {P : Int32 → Hp → Prop} (hP : wp_Md_test p0 p1 h P) : Ct l D cs φ M_Md_test [.ref (φ 7), .int p0, .int p1] h (fun rv h2 => ∃ v, rv = some (.int v) ∧ P v h2) := by
  refine Ct.of (lc := [some (.ref (φ 7)), some (.int p0), some (.int p1)]) RX11 6 152 rfl (by decide +kernel) rfl (Nat.le_of_ble_eq_true rfl) rfl rfl (fun V R RI RV => ?_)
  have R : Ru l D cs φ RX11 cX11_test 3 6 152 V := R
  have Rt : ∀ pc lc v h, decode cX11_test pc = .ok (.ireturn, 1) → P v h → V pc lc [.int v] h := fun pc lc v h hd hp => RI pc lc _ .int h rfl rfl hd ⟨v, rfl, hp⟩
  unfold wp_Md_test at hP
  refine v_aload_0 R dX11_test_0 ?_
  refine v_iload_1 R dX11_test_1 ?_
  refine v_iload_2 R dX11_test_2 ?_
  refine cV2_br R dX11_test_3 (c_Md_areEnds hP) rc_Md ml_X11_216 mv_Md_areEnds (by decide) (Nat.le_of_ble_eq_true rfl) (fun v3 hP => ?_)
  refine v_ifb_ne (tgt := 12) R dX11_test_6 (by decide) (fun q6 => ?_) (fun q6 => ?_)
  · have hP := hP.1 q6
    refine v_aload_0 R dX11_test_12 ?_
    refine cV0_vw R dX11_test_13 (c_Md_notes hP) rc_Md ml_X11_231 mv_Md_notes (by decide) (Nat.le_of_ble_eq_true rfl) (fun h13 hP => ?_)
    refine v_aload_0 R dX11_test_16 ?_
    refine cV0_vw R dX11_test_17 (c_Md_tested hP) rc_Md ml_X11_241 mv_Md_tested (by decide) (Nat.le_of_ble_eq_true rfl) (fun h17 hP => ?_)
    refine v_aload_0 R dX11_test_20 ?_
    refine v_iload_1 R dX11_test_21 ?_
    refine v_iload_2 R dX11_test_22 ?_
    refine v_iconst R dX11_test_23 (v := (0 : Int32)) (by decide) ?_
    refine cV3_br R dX11_test_24 (c_Md_ringsNow hP) rc_Md ml_X11_219 mv_Md_ringsNow (by decide) (Nat.le_of_ble_eq_true rfl) (fun v24 hP => ?_)
    refine v_ifb_eq (tgt := 34) R dX11_test_27 (by decide) (fun q27 => ?_) (fun q27 => ?_)
    · have hP := hP.1 q27
      refine v_iconst R dX11_test_34 (v := (0 : Int32)) (by decide) ?_
      exact Rt _ _ _ _ dX11_test_35 hP
    · have hP := hP.2 q27
      refine v_iconst R dX11_test_30 (v := (1 : Int32)) (by decide) ?_
      refine v_goto (tgt := 35) R dX11_test_31 (by decide) ?_
      exact Rt _ _ _ _ dX11_test_35 hP
  · have hP := hP.2 q6
    refine v_ldc R dX11_test_9 ct_X11_215 ?_
    exact Rt _ _ _ _ dX11_test_11 hP
set_option maxRecDepth 100000 in
set_option maxHeartbeats 4000000 in
theorem c_Md_mayGoOn {l : Launch} {D : va_G} {cs : Nat → ClassId} {φ : Nat → Nat} {p0 : Int32} {h : Hp} {P : Int32 → Prop} (hP : wp_Md_mayGoOn p0 h P) : Ct l D cs φ M_Md_mayGoOn [.ref (φ 7), .int p0] h (fun rv h2 => ∃ v, rv = some (.int v) ∧ h2 = h ∧ P v) := by
  refine Ct.of (lc := [some (.ref (φ 7)), some (.int p0)]) RX11 1 22 rfl (by decide +kernel) rfl (Nat.le_of_ble_eq_true rfl) rfl rfl (fun V R RI RV => ?_)
  have R : Ru l D cs φ RX11 cX11_mayGoOn 2 1 22 V := R
  have Rt : ∀ pc lc v, decode cX11_mayGoOn pc = .ok (.ireturn, 1) → P v → V pc lc [.int v] h := fun pc lc v hd hp => RI pc lc _ .int h rfl rfl hd ⟨v, rfl, rfl, hp⟩
  unfold wp_Md_mayGoOn at hP
  refine v_iload_1 R dX11_mayGoOn_0 ?_
  refine v_iconst R dX11_mayGoOn_1 (v := (1 : Int32)) (by decide) ?_
  refine v_bipush R dX11_mayGoOn_2 (v := (60 : Int32)) (by decide) ?_
  refine cS3_br R dX11_mayGoOn_4 (c_Md_in hP) ml_X11_84 mv_Md_in (by decide) (Nat.le_of_ble_eq_true rfl) (fun v4 hP => ?_)
  refine v_ifb_ne (tgt := 13) R dX11_mayGoOn_7 (by decide) (fun q7 => ?_) (fun q7 => ?_)
  · have hP := hP.1 q7
    refine v_aload_0 R dX11_mayGoOn_13 ?_
    refine g_Md_wires R dX11_mayGoOn_14 fl_X11_81 ?_
    refine v_if_ne (tgt := 25) R dX11_mayGoOn_17 (by decide) (fun q17 => ?_) (fun q17 => ?_)
    · have hP := hP.1 q17
      refine v_aload_0 R dX11_mayGoOn_25 ?_
      refine g_Md_hour R dX11_mayGoOn_26 fl_X11_173 ?_
      refine v_sipush R dX11_mayGoOn_29 (v := (9000 : Int32)) (by decide) ?_
      refine v_icmp_le (tgt := 40) R dX11_mayGoOn_32 (by decide) (fun q32 => ?_) (fun q32 => ?_)
      · have hP := hP.1 q32
        refine v_iconst R dX11_mayGoOn_40 (v := (0 : Int32)) (by decide) ?_
        exact Rt _ _ _ dX11_mayGoOn_41 hP
      · have hP := hP.2 q32
        refine v_ldc R dX11_mayGoOn_35 ct_X11_110 ?_
        refine v_goto (tgt := 41) R dX11_mayGoOn_37 (by decide) ?_
        exact Rt _ _ _ dX11_mayGoOn_41 hP
    · have hP := hP.2 q17
      refine v_ldc R dX11_mayGoOn_20 ct_X11_230 ?_
      refine v_goto (tgt := 41) R dX11_mayGoOn_22 (by decide) ?_
      exact Rt _ _ _ dX11_mayGoOn_41 hP
  · have hP := hP.2 q7
    refine v_ldc R dX11_mayGoOn_10 ct_X11_106 ?_
    exact Rt _ _ _ dX11_mayGoOn_12 hP
set_option maxRecDepth 100000 in
set_option maxHeartbeats 4000000 in
theorem c_Md_rest {l : Launch} {D : va_G} {cs : Nat → ClassId} {φ : Nat → Nat} {p0 : Int32} {h : Hp} {P : Int32 → Hp → Prop} (hP : wp_Md_rest p0 h P) : Ct l D cs φ M_Md_rest [.ref (φ 7), .int p0] h (fun rv h2 => ∃ v, rv = some (.int v) ∧ P v h2) := by
  refine Ct.of (lc := [some (.ref (φ 7)), some (.int p0), none]) RX11 2 44 rfl (by decide +kernel) rfl (Nat.le_of_ble_eq_true rfl) rfl rfl (fun V R RI RV => ?_)
  have R : Ru l D cs φ RX11 cX11_rest 3 2 44 V := R
  have Rt : ∀ pc lc v h, decode cX11_rest pc = .ok (.ireturn, 1) → P v h → V pc lc [.int v] h := fun pc lc v h hd hp => RI pc lc _ .int h rfl rfl hd ⟨v, rfl, hp⟩
  unfold wp_Md_rest at hP
  refine v_aload_0 R dX11_rest_0 ?_
  refine v_iload_1 R dX11_rest_1 ?_
  refine cV1_ir R dX11_rest_2 (c_Md_mayGoOn hP) rc_Md ml_X11_244 mv_Md_mayGoOn (by decide) (Nat.le_of_ble_eq_true rfl) (fun v2 hP => ?_)
  refine v_istore_2 R dX11_rest_5 (by decide) rfl ?_
  refine v_iload_2 R dX11_rest_6 ?_
  refine v_if_ge (tgt := 12) R dX11_rest_7 (by decide) (fun q7 => ?_) (fun q7 => ?_)
  · have hP := hP.1 q7
    refine v_aload_0 R dX11_rest_12 ?_
    refine cV0_vw R dX11_rest_13 (c_Md_notes hP) rc_Md ml_X11_231 mv_Md_notes (by decide) (Nat.le_of_ble_eq_true rfl) (fun h13 hP => ?_)
    refine v_aload_0 R dX11_rest_16 ?_
    refine v_dup R dX11_rest_17 rfl ?_
    refine g_Md_hour R dX11_rest_18 fl_X11_173 ?_
    refine v_iload_1 R dX11_rest_21 ?_
    refine v_iadd R dX11_rest_22 ?_
    refine p_Md_hour R dX11_rest_23 fl_X11_173 hP (fun h23 hP => ?_)
    refine v_aload_0 R dX11_rest_26 ?_
    refine g_Md_hour R dX11_rest_27 fl_X11_173 ?_
    exact Rt _ _ _ _ dX11_rest_30 hP
  · have hP := hP.2 q7
    refine v_iload_2 R dX11_rest_10 ?_
    exact Rt _ _ _ _ dX11_rest_11 hP
set_option maxRecDepth 100000 in
set_option maxHeartbeats 4000000 in
theorem c_Md_mend {l : Launch} {D : va_G} {cs : Nat → ClassId} {φ : Nat → Nat} {p0 p1 : Int32} {h : Hp} {P : Int32 → Hp → Prop} (hP : wp_Md_mend p0 p1 h P) : Ct l D cs φ M_Md_mend [.ref (φ 7), .int p0, .int p1] h (fun rv h2 => ∃ v, rv = some (.int v) ∧ P v h2) := by
  refine Ct.of (lc := [some (.ref (φ 7)), some (.int p0), some (.int p1), none]) RX11 2 44 rfl (by decide +kernel) rfl (Nat.le_of_ble_eq_true rfl) rfl rfl (fun V R RI RV => ?_)
  have R : Ru l D cs φ RX11 cX11_mend 4 2 44 V := R
  have Rt : ∀ pc lc v h, decode cX11_mend pc = .ok (.ireturn, 1) → P v h → V pc lc [.int v] h := fun pc lc v h hd hp => RI pc lc _ .int h rfl rfl hd ⟨v, rfl, hp⟩
  unfold wp_Md_mend at hP
  refine v_aload_0 R dX11_mend_0 ?_
  refine v_iload_1 R dX11_mend_1 ?_
  refine cV1_br R dX11_mend_2 (c_Md_isWire hP) rc_Md ml_X11_88 mv_Md_isWire (by decide) (Nat.le_of_ble_eq_true rfl) (fun v2 hP => ?_)
  refine v_ifb_ne (tgt := 11) R dX11_mend_5 (by decide) (fun q5 => ?_) (fun q5 => ?_)
  · have hP := hP.1 q5
    refine v_iload_2 R dX11_mend_11 ?_
    refine v_iconst R dX11_mend_12 (v := (0 : Int32)) (by decide) ?_
    refine v_iconst R dX11_mend_13 (v := (3 : Int32)) (by decide) ?_
    refine cS3_br R dX11_mend_14 (c_Md_in hP) ml_X11_84 mv_Md_in (by decide) (Nat.le_of_ble_eq_true rfl) (fun v14 hP => ?_)
    refine v_ifb_ne (tgt := 23) R dX11_mend_17 (by decide) (fun q17 => ?_) (fun q17 => ?_)
    · have hP := hP.1 q17
      refine v_aload_0 R dX11_mend_23 ?_
      refine g_Md_kindOf R dX11_mend_24 fl_X11_13 ?_
      refine v_iload_1 R dX11_mend_27 ?_
      obtain ⟨hi28, hP⟩ := hP
      refine v_iald R dX11_mend_28 rfl hi28 ?_
      refine v_istoreL_3 R dX11_mend_29 (by decide) rfl hP (fun x29 hP => ?_)
      refine v_iload_3 R dX11_mend_30 ?_
      refine v_iload_2 R dX11_mend_31 ?_
      refine v_icmp_ne (tgt := 38) R dX11_mend_32 (by decide) (fun q32 => ?_) (fun q32 => ?_)
      · have hP := hP.1 q32
        refine v_aload_0 R dX11_mend_38 ?_
        refine cV0_vw R dX11_mend_39 (c_Md_notes hP) rc_Md ml_X11_231 mv_Md_notes (by decide) (Nat.le_of_ble_eq_true rfl) (fun h39 hP => ?_)
        refine v_aload_0 R dX11_mend_42 ?_
        refine g_Md_kindOf R dX11_mend_43 fl_X11_13 ?_
        refine v_iload_1 R dX11_mend_46 ?_
        refine v_iload_2 R dX11_mend_47 ?_
        obtain ⟨hi48, hP⟩ := hP
        refine v_iastL R dX11_mend_48 rfl hi48 hP (fun h48 hP => ?_)
        refine v_iload_3 R dX11_mend_49 ?_
        exact Rt _ _ _ _ dX11_mend_50 hP
      · have hP := hP.2 q32
        refine v_ldc R dX11_mend_35 ct_X11_230 ?_
        exact Rt _ _ _ _ dX11_mend_37 hP
    · have hP := hP.2 q17
      refine v_ldc R dX11_mend_20 ct_X11_106 ?_
      exact Rt _ _ _ _ dX11_mend_22 hP
  · have hP := hP.2 q5
    refine v_ldc R dX11_mend_8 ct_X11_215 ?_
    exact Rt _ _ _ _ dX11_mend_10 hP
set_option maxRecDepth 100000 in
set_option maxHeartbeats 4000000 in
theorem c_Md_touch {l : Launch} {D : va_G} {cs : Nat → ClassId} {φ : Nat → Nat} {p0 p1 p2 : Int32} {h : Hp} {P : Int32 → Hp → Prop} (hP : wp_Md_touch p0 p1 p2 h P) : Ct l D cs φ M_Md_touch [.ref (φ 7), .int p0, .int p1, .int p2] h (fun rv h2 => ∃ v, rv = some (.int v) ∧ P v h2) := by
  refine Ct.of (lc := [some (.ref (φ 7)), some (.int p0), some (.int p1), some (.int p2)]) RX11 3 68 rfl (by decide +kernel) rfl (Nat.le_of_ble_eq_true rfl) rfl rfl (fun V R RI RV => ?_)
  have R : Ru l D cs φ RX11 cX11_touch 4 3 68 V := R
  have Rt : ∀ pc lc v h, decode cX11_touch pc = .ok (.ireturn, 1) → P v h → V pc lc [.int v] h := fun pc lc v h hd hp => RI pc lc _ .int h rfl rfl hd ⟨v, rfl, hp⟩
  unfold wp_Md_touch at hP
  refine v_aload_0 R dX11_touch_0 ?_
  refine v_iload_1 R dX11_touch_1 ?_
  refine cV1_br R dX11_touch_2 (c_Md_isWire hP) rc_Md ml_X11_88 mv_Md_isWire (by decide) (Nat.le_of_ble_eq_true rfl) (fun v2 hP => ?_)
  refine v_ifb_eq (tgt := 21) R dX11_touch_5 (by decide) (fun q5 => ?_) (fun q5 => ?_)
  · have hP := hP.1 q5
    refine v_ldc R dX11_touch_21 ct_X11_215 ?_
    exact Rt _ _ _ _ dX11_touch_23 hP
  · have hP := hP.2 q5
    refine v_aload_0 R dX11_touch_8 ?_
    refine v_iload_2 R dX11_touch_9 ?_
    refine cV1_br R dX11_touch_10 (c_Md_isWire hP) rc_Md ml_X11_88 mv_Md_isWire (by decide) (Nat.le_of_ble_eq_true rfl) (fun v10 hP => ?_)
    refine v_ifb_eq (tgt := 21) R dX11_touch_13 (by decide) (fun q13 => ?_) (fun q13 => ?_)
    · have hP := hP.1 q13
      refine v_ldc R dX11_touch_21 ct_X11_215 ?_
      exact Rt _ _ _ _ dX11_touch_23 hP
    · have hP := hP.2 q13
      refine v_iload_1 R dX11_touch_16 ?_
      refine v_iload_2 R dX11_touch_17 ?_
      refine v_icmp_ne (tgt := 24) R dX11_touch_18 (by decide) (fun q18 => ?_) (fun q18 => ?_)
      · have hP := hP.1 q18
        refine v_aload_0 R dX11_touch_24 ?_
        refine v_iload_1 R dX11_touch_25 ?_
        refine v_iload_2 R dX11_touch_26 ?_
        refine cV2_br R dX11_touch_27 (c_Md_doTouch hP) rc_Md ml_X11_103 mv_Md_doTouch (by decide) (Nat.le_of_ble_eq_true rfl) (fun v27 hP => ?_)
        refine v_iload_3 R dX11_touch_30 ?_
        refine v_icmp_ne (tgt := 37) R dX11_touch_31 (by decide) (fun q31 => ?_) (fun q31 => ?_)
        · have hP := hP.1 q31
          refine v_aload_0 R dX11_touch_37 ?_
          refine cV0_vw R dX11_touch_38 (c_Md_notes hP) rc_Md ml_X11_231 mv_Md_notes (by decide) (Nat.le_of_ble_eq_true rfl) (fun h38 hP => ?_)
          refine v_aload_0 R dX11_touch_41 ?_
          refine v_dup R dX11_touch_42 rfl ?_
          refine g_Md_touching R dX11_touch_43 fl_X11_92 ?_
          refine v_iconst R dX11_touch_46 (v := (1 : Int32)) (by decide) ?_
          refine v_iload_1 R dX11_touch_47 ?_
          refine v_iload_2 R dX11_touch_48 ?_
          refine cS2_ir R dX11_touch_49 (c_Md_pair hP) ml_X11_95 mv_Md_pair (by decide) (Nat.le_of_ble_eq_true rfl) (fun v49 hP => ?_)
          refine v_ishl R dX11_touch_52 ?_
          refine v_ixor R dX11_touch_53 ?_
          refine p_Md_touching R dX11_touch_54 fl_X11_92 hP (fun h54 hP => ?_)
          refine v_aload_0 R dX11_touch_57 ?_
          refine cV0_ir R dX11_touch_58 (c_Md_touchMany hP) rc_Md ml_X11_247 mv_Md_touchMany (by decide) (Nat.le_of_ble_eq_true rfl) (fun v58 hP => ?_)
          exact Rt _ _ _ _ dX11_touch_61 hP
        · have hP := hP.2 q31
          refine v_ldc R dX11_touch_34 ct_X11_230 ?_
          exact Rt _ _ _ _ dX11_touch_36 hP
      · have hP := hP.2 q18
        refine v_ldc R dX11_touch_21 ct_X11_215 ?_
        exact Rt _ _ _ _ dX11_touch_23 hP
set_option maxRecDepth 100000 in
set_option maxHeartbeats 4000000 in
theorem c_Md_draw {l : Launch} {D : va_G} {cs : Nat → ClassId} {φ : Nat → Nat} {p0 : Int32} {h : Hp} {P : Int32 → Hp → Prop} (hP : wp_Md_draw p0 h P) : Ct l D cs φ M_Md_draw [.ref (φ 7), .int p0] h (fun rv h2 => ∃ v, rv = some (.int v) ∧ P v h2) := by
  refine Ct.of (lc := [some (.ref (φ 7)), some (.int p0)]) RX11 0 0 rfl (by decide +kernel) rfl (Nat.le_of_ble_eq_true rfl) rfl rfl (fun V R RI RV => ?_)
  have R : Ru l D cs φ RX11 cX11_draw 2 0 0 V := R
  have Rt : ∀ pc lc v h, decode cX11_draw pc = .ok (.ireturn, 1) → P v h → V pc lc [.int v] h := fun pc lc v h hd hp => RI pc lc _ .int h rfl rfl hd ⟨v, rfl, hp⟩
  unfold wp_Md_draw at hP
  refine v_aload_0 R dX11_draw_0 ?_
  refine v_aload_0 R dX11_draw_1 ?_
  refine g_Md_seed R dX11_draw_2 fl_X11_250 ?_
  refine v_ldc2 R dX11_draw_5 ct_X11_254 ?_
  refine v_lmul R dX11_draw_8 ?_
  refine v_ldc2 R dX11_draw_9 ct_X11_256 ?_
  refine v_ladd R dX11_draw_12 ?_
  refine v_ldc2 R dX11_draw_13 ct_X11_258 ?_
  refine v_lrem2 R dX11_draw_16 (by decide) ?_
  refine p_Md_seed R dX11_draw_17 fl_X11_250 hP (fun h17 hP => ?_)
  refine v_aload_0 R dX11_draw_20 ?_
  refine g_Md_seed R dX11_draw_21 fl_X11_250 ?_
  refine v_ldc2 R dX11_draw_24 ct_X11_260 ?_
  refine v_ldiv R dX11_draw_27 (by decide) ?_
  refine v_iload_1 R dX11_draw_28 ?_
  refine v_i2l R dX11_draw_29 ?_
  obtain ⟨hd30, hP⟩ := hP
  refine v_lrem2 R dX11_draw_30 hd30 ?_
  refine v_l2i R dX11_draw_31 ?_
  exact Rt _ _ _ _ dX11_draw_32 hP
set_option maxRecDepth 100000 in
set_option maxHeartbeats 4000000 in
theorem c_Md_driftsHour {l : Launch} {D : va_G} {cs : Nat → ClassId} {φ : Nat → Nat} {h : Hp} {P : Hp → Prop} (hP : wp_Md_driftsHour h P) : Ct l D cs φ M_Md_driftsHour [.ref (φ 7)] h (fun rv h2 => rv = none ∧ P h2) := by
  refine Ct.of (lc := [some (.ref (φ 7)), none, none]) RX11 1 22 rfl (by decide +kernel) rfl (Nat.le_of_ble_eq_true rfl) rfl rfl (fun V R RI RV => ?_)
  have R : Ru l D cs φ RX11 cX11_driftsHour 3 1 22 V := R
  have Rt : ∀ pc lc h, decode cX11_driftsHour pc = .ok (.return_, 1) → P h → V pc lc [] h := fun pc lc h hd hp => RV pc lc h rfl hd ⟨rfl, hp⟩
  unfold wp_Md_driftsHour at hP
  refine v_aload_0 R dX11_driftsHour_0 ?_
  refine v_iconst R dX11_driftsHour_1 (v := (4 : Int32)) (by decide) ?_
  refine cV1_iw R dX11_driftsHour_2 (c_Md_draw hP) rc_Md ml_X11_262 mv_Md_draw (by decide) (Nat.le_of_ble_eq_true rfl) (fun v2 h2 hP => ?_)
  refine v_istore_1 R dX11_driftsHour_5 (by decide) rfl ?_
  refine v_aload_0 R dX11_driftsHour_6 ?_
  refine v_aload_0 R dX11_driftsHour_7 ?_
  refine g_Md_wires R dX11_driftsHour_8 fl_X11_81 ?_
  refine cV1_iw R dX11_driftsHour_11 (c_Md_draw hP) rc_Md ml_X11_262 mv_Md_draw (by decide) (Nat.le_of_ble_eq_true rfl) (fun v11 h11 hP => ?_)
  refine v_istore_2 R dX11_driftsHour_14 (by decide) rfl ?_
  refine v_iload_1 R dX11_driftsHour_15 ?_
  refine jn_v (fun K => ∀ (h79 : Hp), K h79 → V 79 [some (.ref (φ 7)), none, none] [] h79) ?_ ?_ hP
  · intro h79 hP
    refine v_aload_0 R dX11_driftsHour_79 ?_
    refine v_dup R dX11_driftsHour_80 rfl ?_
    refine g_Md_hour R dX11_driftsHour_81 fl_X11_173 ?_
    refine v_iconst R dX11_driftsHour_84 (v := (1 : Int32)) (by decide) ?_
    refine v_iadd R dX11_driftsHour_85 ?_
    refine p_Md_hour R dX11_driftsHour_86 fl_X11_173 hP (fun h86 hP => ?_)
    exact Rt _ _ _ dX11_driftsHour_89 hP
  · intro K J79 hP
    refine v_if_ne (tgt := 32) R dX11_driftsHour_16 (by decide) (fun q16 => ?_) (fun q16 => ?_)
    · have hP := hP.1 q16
      refine v_iload_1 R dX11_driftsHour_32 ?_
      refine v_iconst R dX11_driftsHour_33 (v := (1 : Int32)) (by decide) ?_
      refine v_icmp_ne (tgt := 56) R dX11_driftsHour_34 (by decide) (fun q34 => ?_) (fun q34 => ?_)
      · have hP := hP.1 q34
        refine v_iload_1 R dX11_driftsHour_56 ?_
        refine v_iconst R dX11_driftsHour_57 (v := (2 : Int32)) (by decide) ?_
        refine v_icmp_ne (tgt := 68) R dX11_driftsHour_58 (by decide) (fun q58 => ?_) (fun q58 => ?_)
        · have hP := hP.1 q58
          refine v_aload_0 R dX11_driftsHour_68 ?_
          refine g_Md_kindOf R dX11_driftsHour_69 fl_X11_13 ?_
          refine v_iload_2 R dX11_driftsHour_72 ?_
          refine v_aload_0 R dX11_driftsHour_73 ?_
          refine v_iconst R dX11_driftsHour_74 (v := (4 : Int32)) (by decide) ?_
          refine cV1_iw R dX11_driftsHour_75 (c_Md_draw hP) rc_Md ml_X11_262 mv_Md_draw (by decide) (Nat.le_of_ble_eq_true rfl) (fun v75 h75 hP => ?_)
          obtain ⟨hi78, hP⟩ := hP
          refine v_iastL R dX11_driftsHour_78 rfl hi78 hP (fun h78 hP => ?_)
          refine v_wk R [some (.ref (φ 7)), none, none] ⟨rfl, trivial⟩ ?_
          exact J79 h78 hP
        · have hP := hP.2 q58
          refine v_aload_0 R dX11_driftsHour_61 ?_
          refine cV0_vw R dX11_driftsHour_62 (c_Md_goesOver hP) rc_Md ml_X11_238 mv_Md_goesOver (by decide) (Nat.le_of_ble_eq_true rfl) (fun h62 hP => ?_)
          refine v_goto (tgt := 79) R dX11_driftsHour_65 (by decide) ?_
          refine v_wk R [some (.ref (φ 7)), none, none] ⟨rfl, trivial⟩ ?_
          exact J79 h62 hP
      · have hP := hP.2 q34
        refine v_aload_0 R dX11_driftsHour_37 ?_
        refine v_aload_0 R dX11_driftsHour_38 ?_
        refine g_Md_wires R dX11_driftsHour_39 fl_X11_81 ?_
        refine cV1_iw R dX11_driftsHour_42 (c_Md_draw hP) rc_Md ml_X11_262 mv_Md_draw (by decide) (Nat.le_of_ble_eq_true rfl) (fun v42 h42 hP => ?_)
        refine v_iload_2 R dX11_driftsHour_45 ?_
        refine v_icmp_eq (tgt := 79) R dX11_driftsHour_46 (by decide) (fun q46 => ?_) (fun q46 => ?_)
        · have hP := hP.1 q46
          refine v_wk R [some (.ref (φ 7)), none, none] ⟨rfl, trivial⟩ ?_
          exact J79 h42 hP
        · have hP := hP.2 q46
          refine v_aload_0 R dX11_driftsHour_49 ?_
          refine cV0_vw R dX11_driftsHour_50 (c_Md_tested hP) rc_Md ml_X11_241 mv_Md_tested (by decide) (Nat.le_of_ble_eq_true rfl) (fun h50 hP => ?_)
          refine v_goto (tgt := 79) R dX11_driftsHour_53 (by decide) ?_
          refine v_wk R [some (.ref (φ 7)), none, none] ⟨rfl, trivial⟩ ?_
          exact J79 h50 hP
    · have hP := hP.2 q16
      refine v_aload_0 R dX11_driftsHour_19 ?_
      refine v_iload_2 R dX11_driftsHour_20 ?_
      refine v_aload_0 R dX11_driftsHour_21 ?_
      refine v_iconst R dX11_driftsHour_22 (v := (4 : Int32)) (by decide) ?_
      refine cV1_iw R dX11_driftsHour_23 (c_Md_draw hP) rc_Md ml_X11_262 mv_Md_draw (by decide) (Nat.le_of_ble_eq_true rfl) (fun v23 h23 hP => ?_)
      refine cV2_vw R dX11_driftsHour_26 (c_Md_comesInto hP) rc_Md ml_X11_234 mv_Md_comesInto (by decide) (Nat.le_of_ble_eq_true rfl) (fun h26 hP => ?_)
      refine v_goto (tgt := 79) R dX11_driftsHour_29 (by decide) ?_
      refine v_wk R [some (.ref (φ 7)), none, none] ⟨rfl, trivial⟩ ?_
      exact J79 h26 hP
set_option maxRecDepth 100000 in
set_option maxHeartbeats 4000000 in
theorem L_Md_drift_18 {l : Launch} {D : va_G} {cs : Nat → ClassId} {φ : Nat → Nat} {V : Nat → List (Option Value) → List Value → Hp → Prop} {a1 : Int32} {E : Hp → Prop} (R : Ru l D cs φ RX11 cX11_drift 4 2 44 V) (hE : ∀ (h : Hp), E h → V 33 [some (.ref (φ 7)), none, none, none] [] h) : ∀ (n : Nat) (a3 : Int32) (h : Hp), lp_Md_drift_18 n a1 a3 h E → V 18 [some (.ref (φ 7)), some (.int a1), none, some (.int a3)] [] h := by
  intro n
  induction n with
  | zero => intro a3 h hP; exact hP.elim
  | succ n ih =>
    intro a3 h hP
    unfold lp_Md_drift_18 at hP
    refine v_iload_3 R dX11_drift_18 ?_
    refine v_iload_1 R dX11_drift_19 ?_
    refine v_icmp_ge (tgt := 33) R dX11_drift_20 (by decide) (fun q20 => ?_) (fun q20 => ?_)
    · have hP := hP.1 q20
      refine v_wk R [some (.ref (φ 7)), none, none, none] ⟨rfl, trivial⟩ ?_
      exact hE h hP
    · have hP := hP.2 q20
      refine v_aload_0 R dX11_drift_23 ?_
      refine cV0_vw R dX11_drift_24 (c_Md_driftsHour hP) rc_Md ml_X11_265 mv_Md_driftsHour (by decide) (Nat.le_of_ble_eq_true rfl) (fun h24 hP => ?_)
      refine v_iincL_3 R (1 : Int32) dX11_drift_27 (by decide) rfl (by decide) hP (fun x27 hP => ?_)
      refine v_goto (tgt := 18) R dX11_drift_30 (by decide) ?_
      exact ih x27 h24 hP
set_option maxRecDepth 100000 in
set_option maxHeartbeats 4000000 in
theorem c_Md_drift {l : Launch} {D : va_G} {cs : Nat → ClassId} {φ : Nat → Nat} {p0 : Int32} {h : Hp} {P : Int32 → Hp → Prop} (hP : wp_Md_drift p0 h P) : Ct l D cs φ M_Md_drift [.ref (φ 7), .int p0] h (fun rv h2 => ∃ v, rv = some (.int v) ∧ P v h2) := by
  refine Ct.of (lc := [some (.ref (φ 7)), some (.int p0), none, none]) RX11 2 44 rfl (by decide +kernel) rfl (Nat.le_of_ble_eq_true rfl) rfl rfl (fun V R RI RV => ?_)
  have R : Ru l D cs φ RX11 cX11_drift 4 2 44 V := R
  have Rt : ∀ pc lc v h, decode cX11_drift pc = .ok (.ireturn, 1) → P v h → V pc lc [.int v] h := fun pc lc v h hd hp => RI pc lc _ .int h rfl rfl hd ⟨v, rfl, hp⟩
  unfold wp_Md_drift at hP
  refine v_aload_0 R dX11_drift_0 ?_
  refine v_iload_1 R dX11_drift_1 ?_
  refine cV1_ir R dX11_drift_2 (c_Md_mayGoOn hP) rc_Md ml_X11_244 mv_Md_mayGoOn (by decide) (Nat.le_of_ble_eq_true rfl) (fun v2 hP => ?_)
  refine v_istore_2 R dX11_drift_5 (by decide) rfl ?_
  refine v_iload_2 R dX11_drift_6 ?_
  refine v_if_ge (tgt := 12) R dX11_drift_7 (by decide) (fun q7 => ?_) (fun q7 => ?_)
  · have hP := hP.1 q7
    refine v_aload_0 R dX11_drift_12 ?_
    refine cV0_vw R dX11_drift_13 (c_Md_notes hP) rc_Md ml_X11_231 mv_Md_notes (by decide) (Nat.le_of_ble_eq_true rfl) (fun h13 hP => ?_)
    refine v_iconst R dX11_drift_16 (v := (0 : Int32)) (by decide) ?_
    refine v_istore_3 R dX11_drift_17 (by decide) rfl ?_
    refine v_wk R [some (.ref (φ 7)), some (.int p0), none, some (.int (0 : Int32))] ⟨rfl, ⟨rfl, ⟨rfl, trivial⟩⟩⟩ ?_
    obtain ⟨n18, hP⟩ := hP
    refine L_Md_drift_18 R ?_ n18 _ _ hP
    intro h18x hP
    refine v_aload_0 R dX11_drift_33 ?_
    refine g_Md_hour R dX11_drift_34 fl_X11_173 ?_
    exact Rt _ _ _ _ dX11_drift_37 hP
  · have hP := hP.2 q7
    refine v_iload_2 R dX11_drift_10 ?_
    exact Rt _ _ _ _ dX11_drift_11 hP
set_option maxRecDepth 100000 in
set_option maxHeartbeats 4000000 in
theorem c_Md_undo {l : Launch} {D : va_G} {cs : Nat → ClassId} {φ : Nat → Nat} {h : Hp} {P : Int32 → Hp → Prop} (hP : wp_Md_undo h P) : Ct l D cs φ M_Md_undo [.ref (φ 7)] h (fun rv h2 => ∃ v, rv = some (.int v) ∧ P v h2) := by
  refine Ct.of (lc := [some (.ref (φ 7))]) RX11 1 23 rfl (by decide +kernel) rfl (Nat.le_of_ble_eq_true rfl) rfl rfl (fun V R RI RV => ?_)
  have R : Ru l D cs φ RX11 cX11_undo 1 1 23 V := R
  have Rt : ∀ pc lc v h, decode cX11_undo pc = .ok (.ireturn, 1) → P v h → V pc lc [.int v] h := fun pc lc v h hd hp => RI pc lc _ .int h rfl rfl hd ⟨v, rfl, hp⟩
  unfold wp_Md_undo at hP
  refine v_aload_0 R dX11_undo_0 ?_
  refine g_Md_undoMany R dX11_undo_1 fl_X11_188 ?_
  refine v_if_ne (tgt := 10) R dX11_undo_4 (by decide) (fun q4 => ?_) (fun q4 => ?_)
  · have hP := hP.1 q4
    refine v_aload_0 R dX11_undo_10 ?_
    refine v_dup R dX11_undo_11 rfl ?_
    refine g_Md_undoMany R dX11_undo_12 fl_X11_188 ?_
    refine v_iconst R dX11_undo_15 (v := (1 : Int32)) (by decide) ?_
    refine v_isub R dX11_undo_16 ?_
    refine p_Md_undoMany R dX11_undo_17 fl_X11_188 hP (fun h17 hP => ?_)
    refine v_aload_0 R dX11_undo_20 ?_
    refine v_aload_0 R dX11_undo_21 ?_
    refine g_Md_ahead R dX11_undo_22 fl_X11_44 ?_
    refine v_bipush R dX11_undo_25 (v := (20 : Int32)) (by decide) ?_
    refine v_aload_0 R dX11_undo_27 ?_
    refine g_Md_undoMany R dX11_undo_28 fl_X11_188 ?_
    refine v_imul R dX11_undo_31 ?_
    refine cV2_vw R dX11_undo_32 (c_Md_takes rfl hP) rc_Md ml_X11_268 mv_Md_takes (by decide) (Nat.le_of_ble_eq_true rfl) (fun h32 hP => ?_)
    refine v_aload_0 R dX11_undo_35 ?_
    refine g_Md_undoMany R dX11_undo_36 fl_X11_188 ?_
    exact Rt _ _ _ _ dX11_undo_39 hP
  · have hP := hP.2 q4
    refine v_ldc R dX11_undo_7 ct_X11_230 ?_
    exact Rt _ _ _ _ dX11_undo_9 hP
set_option maxRecDepth 100000 in
set_option maxHeartbeats 4000000 in
theorem L_Md_cut_27 {l : Launch} {D : va_G} {cs : Nat → ClassId} {φ : Nat → Nat} {V : Nat → List (Option Value) → List Value → Hp → Prop} {a1 a2 : Int32} {h : Hp} {E : Int32 → Prop} (R : Ru l D cs φ RX11 cX11_cut 6 6 152 V) (hE : ∀ (a3 : Int32), E a3 → V 75 [none, none, none, some (.int a3), none, none] [] h) : ∀ (n : Nat) (a3 : Int32) (a4 : Int32) (a5 : Int32), lp_Md_cut_27 n a1 a2 a3 a4 a5 h E → V 27 [some (.ref (φ 7)), some (.int a1), some (.int a2), some (.int a3), some (.int a4), some (.int a5)] [] h := by
  intro n
  induction n with
  | zero => intro a3 a4 a5 hP; exact hP.elim
  | succ n ih =>
    intro a3 a4 a5 hP
    unfold lp_Md_cut_27 at hP
    refine v_iload_5 R dX11_cut_27 ?_
    refine v_iconst R dX11_cut_29 (v := (1 : Int32)) (by decide) ?_
    refine v_aload_0 R dX11_cut_30 ?_
    refine g_Md_wires R dX11_cut_31 fl_X11_81 ?_
    refine v_ishl R dX11_cut_34 ?_
    refine v_icmp_ge (tgt := 75) R dX11_cut_35 (by decide) (fun q35 => ?_) (fun q35 => ?_)
    · have hP := hP.1 q35
      refine v_wk R [none, none, none, some (.int a3), none, none] ⟨rfl, trivial⟩ ?_
      exact hE a3 hP
    · have hP := hP.2 q35
      refine v_iload_5 R dX11_cut_38 ?_
      refine cS1_ir R dX11_cut_40 (c_Md_bits hP) ml_X11_272 mv_Md_bits (by decide) (Nat.le_of_ble_eq_true rfl) (fun v40 hP => ?_)
      refine v_iload_4 R dX11_cut_43 ?_
      refine jn_v (fun K => ∀ (y69_3 : Int32) (y69_4 : Int32), K y69_3 y69_4 → V 69 [some (.ref (φ 7)), some (.int a1), some (.int a2), some (.int y69_3), some (.int y69_4), some (.int a5)] [] h) ?_ ?_ hP
      · intro y69_3 y69_4 hP
        refine v_iincL_5 R (1 : Int32) dX11_cut_69 (by decide) rfl (by decide) hP (fun x69 hP => ?_)
        refine v_goto (tgt := 27) R dX11_cut_72 (by decide) ?_
        exact ih y69_3 y69_4 x69 hP
      · intro K J69 hP
        refine v_icmp_ge (tgt := 69) R dX11_cut_45 (by decide) (fun q45 => ?_) (fun q45 => ?_)
        · have hP := hP.1 q45
          exact J69 a3 a4 hP
        · have hP := hP.2 q45
          refine v_aload_0 R dX11_cut_48 ?_
          refine v_iload_1 R dX11_cut_49 ?_
          refine v_iload_2 R dX11_cut_50 ?_
          refine v_iload_5 R dX11_cut_51 ?_
          refine cV3_br R dX11_cut_53 (c_Md_ringsNow hP) rc_Md ml_X11_219 mv_Md_ringsNow (by decide) (Nat.le_of_ble_eq_true rfl) (fun v53 hP => ?_)
          refine v_ifb_ne (tgt := 69) R dX11_cut_56 (by decide) (fun q56 => ?_) (fun q56 => ?_)
          · have hP := hP.1 q56
            exact J69 a3 a4 hP
          · have hP := hP.2 q56
            refine v_iload_5 R dX11_cut_59 ?_
            refine v_istore_3 R dX11_cut_61 (by decide) rfl ?_
            refine v_iload_5 R dX11_cut_62 ?_
            refine cS1_ir R dX11_cut_64 (c_Md_bits hP) ml_X11_272 mv_Md_bits (by decide) (Nat.le_of_ble_eq_true rfl) (fun v64 hP => ?_)
            refine v_istore_4 R dX11_cut_67 (by decide) rfl ?_
            exact J69 a5 v64 hP
set_option maxRecDepth 100000 in
set_option maxHeartbeats 4000000 in
theorem c_Md_cut {l : Launch} {D : va_G} {cs : Nat → ClassId} {φ : Nat → Nat} {p0 p1 : Int32} {h : Hp} {P : Int32 → Prop} (hP : wp_Md_cut p0 p1 h P) : Ct l D cs φ M_Md_cut [.ref (φ 7), .int p0, .int p1] h (fun rv h2 => ∃ v, rv = some (.int v) ∧ h2 = h ∧ P v) := by
  refine Ct.of (lc := [some (.ref (φ 7)), some (.int p0), some (.int p1), none, none, none]) RX11 6 152 rfl (by decide +kernel) rfl (Nat.le_of_ble_eq_true rfl) rfl rfl (fun V R RI RV => ?_)
  have R : Ru l D cs φ RX11 cX11_cut 6 6 152 V := R
  have Rt : ∀ pc lc v, decode cX11_cut pc = .ok (.ireturn, 1) → P v → V pc lc [.int v] h := fun pc lc v hd hp => RI pc lc _ .int h rfl rfl hd ⟨v, rfl, rfl, hp⟩
  unfold wp_Md_cut at hP
  refine v_iload_2 R dX11_cut_0 ?_
  refine v_iconst R dX11_cut_1 (v := (-1 : Int32)) (by decide) ?_
  refine v_icmp_eq (tgt := 14) R dX11_cut_2 (by decide) (fun q2 => ?_) (fun q2 => ?_)
  · have hP := hP.1 q2
    refine v_ldc R dX11_cut_14 ct_X11_215 ?_
    exact Rt _ _ _ dX11_cut_16 hP
  · have hP := hP.2 q2
    refine v_aload_0 R dX11_cut_5 ?_
    refine v_iload_1 R dX11_cut_6 ?_
    refine v_iload_2 R dX11_cut_7 ?_
    refine cV2_br R dX11_cut_8 (c_Md_areEnds hP) rc_Md ml_X11_216 mv_Md_areEnds (by decide) (Nat.le_of_ble_eq_true rfl) (fun v8 hP => ?_)
    refine v_ifb_ne (tgt := 17) R dX11_cut_11 (by decide) (fun q11 => ?_) (fun q11 => ?_)
    · have hP := hP.1 q11
      refine v_iconst R dX11_cut_17 (v := (-1 : Int32)) (by decide) ?_
      refine v_istore_3 R dX11_cut_18 (by decide) rfl ?_
      refine v_ldcw R dX11_cut_19 ct_X11_271 ?_
      refine v_istore_4 R dX11_cut_22 (by decide) rfl ?_
      refine v_iconst R dX11_cut_24 (v := (0 : Int32)) (by decide) ?_
      refine v_istore_5 R dX11_cut_25 (by decide) rfl ?_
      obtain ⟨n27, hP⟩ := hP
      refine L_Md_cut_27 R ?_ n27 _ _ _ hP
      intro w27_3 hP
      refine v_iload_3 R dX11_cut_75 ?_
      exact Rt _ _ _ dX11_cut_76 hP
    · have hP := hP.2 q11
      refine v_ldc R dX11_cut_14 ct_X11_215 ?_
      exact Rt _ _ _ dX11_cut_16 hP
set_option maxRecDepth 100000 in
set_option maxHeartbeats 4000000 in
theorem L_Md_firstOrder_2 {l : Launch} {D : va_G} {cs : Nat → ClassId} {φ : Nat → Nat} {V : Nat → List (Option Value) → List Value → Hp → Prop} {E : Hp → Prop} (R : Ru l D cs φ RX11 cX11_firstOrder 2 0 0 V) (hE : ∀ (h : Hp), E h → V 20 [none, none] [] h) : ∀ (n : Nat) (a1 : Int32) (h : Hp), lp_Md_firstOrder_2 n a1 h E → V 2 [some (.ref (φ 7)), some (.int a1)] [] h := by
  intro n
  induction n with
  | zero => intro a1 h hP; exact hP.elim
  | succ n ih =>
    intro a1 h hP
    unfold lp_Md_firstOrder_2 at hP
    refine v_iload_1 R dX11_firstOrder_2 ?_
    refine v_iconst R dX11_firstOrder_3 (v := (5 : Int32)) (by decide) ?_
    refine v_icmp_ge (tgt := 20) R dX11_firstOrder_4 (by decide) (fun q4 => ?_) (fun q4 => ?_)
    · have hP := hP.1 q4
      refine v_wk R [none, none] trivial ?_
      exact hE h hP
    · have hP := hP.2 q4
      refine v_aload_0 R dX11_firstOrder_7 ?_
      refine g_Md_order R dX11_firstOrder_8 fl_X11_57 ?_
      refine v_iload_1 R dX11_firstOrder_11 ?_
      refine v_iload_1 R dX11_firstOrder_12 ?_
      obtain ⟨hi13, hP⟩ := hP
      refine v_iastL R dX11_firstOrder_13 rfl hi13 hP (fun h13 hP => ?_)
      refine v_iincL_1 R (1 : Int32) dX11_firstOrder_14 (by decide) rfl (by decide) hP (fun x14 hP => ?_)
      refine v_goto (tgt := 2) R dX11_firstOrder_17 (by decide) ?_
      exact ih x14 h13 hP
set_option maxRecDepth 100000 in
set_option maxHeartbeats 4000000 in
theorem c_Md_firstOrder {l : Launch} {D : va_G} {cs : Nat → ClassId} {φ : Nat → Nat} {h : Hp} {P : Hp → Prop} (hP : wp_Md_firstOrder h P) : Ct l D cs φ M_Md_firstOrder [.ref (φ 7)] h (fun rv h2 => rv = none ∧ P h2) := by
  refine Ct.of (lc := [some (.ref (φ 7)), none]) RX11 0 0 rfl (by decide +kernel) rfl (Nat.le_of_ble_eq_true rfl) rfl rfl (fun V R RI RV => ?_)
  have R : Ru l D cs φ RX11 cX11_firstOrder 2 0 0 V := R
  have Rt : ∀ pc lc h, decode cX11_firstOrder pc = .ok (.return_, 1) → P h → V pc lc [] h := fun pc lc h hd hp => RV pc lc h rfl hd ⟨rfl, hp⟩
  unfold wp_Md_firstOrder at hP
  refine v_iconst R dX11_firstOrder_0 (v := (0 : Int32)) (by decide) ?_
  refine v_istore_1 R dX11_firstOrder_1 (by decide) rfl ?_
  obtain ⟨n2, hP⟩ := hP
  refine L_Md_firstOrder_2 R ?_ n2 _ _ hP
  intro h2x hP
  exact Rt _ _ _ dX11_firstOrder_20 hP
