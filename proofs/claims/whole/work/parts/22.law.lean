set_option maxRecDepth 100000 in
set_option maxHeartbeats 8000000 in
/-- the law's loop, over a relation Rel of the world that every pair of calls keeps -/
theorem law_loop {l : Launch} {D : va_G} {cs : Nat → ClassId} {φ : Nat → Nat} {V : Nat → List (Option Value) → List Value → Hp → Prop} {b L : Nat} {xs : Nat → Int32} (Rel : Hp → Prop) (hL : L ≤ 2048) (R : Ru l D cs φ RL cL_law 4 10 396 V) (SL : ∀ pc lc st h i, decode cL_law pc = .ok (.iaload, 1) → vp_in i L → V (pc + 1) lc (.int (xs i.toNatClampNeg) :: st) h → V pc lc (.int i :: .ref b :: st) h) (SA : ∀ pc lc st h, decode cL_law pc = .ok (.arraylength, 1) → V (pc + 1) lc (.int (Int32.ofNat L) :: st) h → V pc lc (.ref b :: st) h) (RT : ∀ pc lc h, decode cL_law pc = .ok (.ireturn, 1) → V pc lc [.int 1] h)
    (G0 : ∀ (h : Hp) (p0 : Int32), Rel h → wp_Fe_feed p0 h (fun v1 h1 => wp_Md_feed p0 h1 (fun v2 h2 => v1 = v2 ∧ Rel h2)))
  (G1 : ∀ (h : Hp), Rel h → wp_Fe_cable h (fun v1 h1 => wp_Md_cable h1 (fun v2 h2 => v1 = v2 ∧ Rel h2)))
  (G2 : ∀ (h : Hp), Rel h → wp_Fe_fault h (fun v1 => wp_Md_fault h (fun v2 => v1 = v2 ∧ Rel h)))
  (G3 : ∀ (h : Hp) (p0 : Int32), Rel h → wp_Fe_told p0 h (fun v1 h1 => wp_Md_told p0 h1 (fun v2 h2 => v1 = v2 ∧ Rel h2)))
  (G4 : ∀ (h : Hp) (p0 p1 : Int32), Rel h → wp_Fe_wire p0 p1 h (fun v1 => wp_Md_wire p0 p1 h (fun v2 => v1 = v2 ∧ Rel h)))
  (G5 : ∀ (h : Hp) (p0 p1 : Int32), Rel h → wp_Fe_end p0 p1 h (fun v1 h1 => wp_Md_end p0 p1 h1 (fun v2 h2 => v1 = v2 ∧ Rel h2)))
  (G6 : ∀ (h : Hp) (p0 p1 : Int32), Rel h → wp_Fe_net p0 p1 h (fun v1 h1 => wp_Md_net p0 p1 h1 (fun v2 => v1 = v2 ∧ Rel h1)))
  (G7 : ∀ (h : Hp) (p0 p1 : Int32), Rel h → wp_Fe_rings p0 p1 h (fun v1 h1 => wp_Md_rings p0 p1 h1 (fun v2 => v1 = v2 ∧ Rel h1)))
  (G8 : ∀ (h : Hp) (p0 p1 : Int32), Rel h → wp_Fe_touches p0 p1 h (fun v1 => wp_Md_touches p0 p1 h (fun v2 => v1 = v2 ∧ Rel h)))
  (G9 : ∀ (h : Hp) (p0 p1 : Int32), Rel h → wp_Fe_tie p0 p1 h (fun v1 h1 => wp_Md_tie p0 p1 h1 (fun v2 h2 => v1 = v2 ∧ Rel h2)))
  (G10 : ∀ (h : Hp), Rel h → wp_Fe_cross h (fun v1 h1 => wp_Md_cross h1 (fun v2 h2 => v1 = v2 ∧ Rel h2)))
  (G11 : ∀ (h : Hp) (p0 p1 : Int32), Rel h → wp_Fe_test p0 p1 h (fun v1 h1 => wp_Md_test p0 p1 h1 (fun v2 h2 => v1 = v2 ∧ Rel h2)))
  (G12 : ∀ (h : Hp) (p0 : Int32), Rel h → wp_Fe_rest p0 h (fun v1 h1 => wp_Md_rest p0 h1 (fun v2 h2 => v1 = v2 ∧ Rel h2)))
  (G13 : ∀ (h : Hp) (p0 p1 : Int32), Rel h → wp_Fe_mend p0 p1 h (fun v1 h1 => wp_Md_mend p0 p1 h1 (fun v2 h2 => v1 = v2 ∧ Rel h2)))
  (G14 : ∀ (h : Hp) (p0 p1 p2 : Int32), Rel h → (p2 = 0 ∨ p2 = 1) → wp_Fe_touch p0 p1 p2 h (fun v1 h1 => wp_Md_touch p0 p1 p2 h1 (fun v2 h2 => v1 = v2 ∧ Rel h2)))
  (G15 : ∀ (h : Hp) (p0 : Int32), Rel h → wp_Fe_drift p0 h (fun v1 h1 => wp_Md_drift p0 h1 (fun v2 h2 => v1 = v2 ∧ Rel h2)))
  (G16 : ∀ (h : Hp), Rel h → wp_Fe_undo h (fun v1 h1 => wp_Md_undo h1 (fun v2 h2 => v1 = v2 ∧ Rel h2)))
  (G17 : ∀ (h : Hp) (p0 p1 : Int32), Rel h → wp_Fe_cut p0 p1 h (fun v1 h1 => wp_Md_cut p0 p1 h1 (fun v2 => v1 = v2 ∧ Rel h1)))
  (G18 : ∀ (h : Hp) (p0 : Int32), Rel h → wp_Fe_ties p0 h (fun v1 h1 => wp_Md_ties p0 h1 (fun v2 h2 => v1 = v2 ∧ Rel h2)))
  (G19 : ∀ (h : Hp) (p0 p1 : Int32), Rel h → wp_Fe_dry p0 p1 (fun v1 => wp_Md_dry p0 p1 (fun v2 => v1 = v2 ∧ Rel h)))
  (G20 : ∀ (h : Hp) (p0 p1 p2 : Int32), Rel h → (p2 = 0 ∨ p2 = 1) → wp_Fe_see p0 p1 p2 h (fun v1 h1 => wp_Md_see p0 p1 p2 h1 (fun v2 h2 => v1 = v2 ∧ Rel h2)))
  (G21 : ∀ (h : Hp) (p0 p1 : Int32), Rel h → wp_Fe_write p0 p1 h (fun v1 h1 => wp_Md_write p0 p1 h1 (fun v2 h2 => v1 = v2 ∧ Rel h2)))
  (G22 : ∀ (h : Hp), Rel h → wp_Fe_tear h (fun v1 h1 => wp_Md_tear h1 (fun v2 h2 => v1 = v2 ∧ Rel h2)))
  (G23 : ∀ (h : Hp), Rel h → wp_Fe_judge h (fun v1 => wp_Md_judge h (fun v2 => v1 = v2 ∧ Rel h)))
  (G24 : ∀ (h : Hp) (p0 : Int32), Rel h → wp_Fe_seed p0 h (fun v1 h1 => wp_Md_seed p0 h1 (fun v2 h2 => v1 = v2 ∧ Rel h2)))
  (G25 : ∀ (h : Hp) (p0 : Int32), Rel h → wp_Fe_keep p0 h (fun v1 h1 => wp_Md_keep p0 h1 (fun v2 h2 => v1 = v2 ∧ Rel h2)))
  (G26 : ∀ (h : Hp) (p0 : Int32), Rel h → wp_Fe_goBack p0 h (fun v1 h1 => wp_Md_goBack p0 h1 (fun v2 h2 => v1 = v2 ∧ Rel h2))) :
    ∀ (n i : Nat) (h : Hp), L + 4 ≤ i + n → i ≤ L + 3 → Rel h → V 18 [some (.ref b), some (.ref (φ 0)), some (.ref (φ 7)), some (.int (nI i))] [] h := by
  intro n
  induction n with
  | zero => intro i h h1 h2 _; omega
  | succ n ih =>
    intro i h h1 h2 hRel
    refine v_iload_3 R dL_law_18 ?_
    refine v_aload_0 R dL_law_19 ?_
    refine SA _ _ _ _ dL_law_20 ?_
    refine v_iconst R dL_law_21 (v := (4 : Int32)) (by decide) ?_
    refine v_isub R dL_law_22 ?_
    refine v_icmp_gt (tgt := 905) R dL_law_23 (by decide) (fun q => ?_) (fun q => ?_)
    · refine v_iconst R dL_law_905 (v := (1 : Int32)) (by decide) ?_
      exact RT _ _ _ dL_law_906
    have hiL : i + 4 ≤ L := by
      have e1 : (nI L - nI 4).toInt = (L : Int) - (4 : Nat) := pk_sub_toInt (by omega) (by omega)
      have e2 : (nI i).toInt = (i : Int) := nI_toInt (by omega)
      have q2 : ¬ (nI L - nI 4) < nI i := q
      rw [Int32.lt_iff_toInt_lt, e1, e2] at q2
      omega
    have hv0 : vp_in (nI i) L := vp_in_nI (by omega) (by omega)
    have hv1 : vp_in (nI i + 1) L := by rw [show nI i + 1 = nI (i + 1) from nI_add i 1]; exact vp_in_nI (by omega) (by omega)
    have hv2 : vp_in (nI i + 2) L := by rw [show nI i + 2 = nI (i + 2) from nI_add i 2]; exact vp_in_nI (by omega) (by omega)
    have hv3 : vp_in (nI i + 3) L := by rw [show nI i + 3 = nI (i + 3) from nI_add i 3]; exact vp_in_nI (by omega) (by omega)
    have TAIL : ∀ h2, Rel h2 → V 899 [some (.ref b), some (.ref (φ 0)), some (.ref (φ 7)), some (.int (nI i))] [] h2 := by
      intro h2 hR2
      refine v_iinc_3 R (4 : Int32) dL_law_899 (by decide) rfl (by decide) ?_
      refine v_goto (tgt := 18) R dL_law_902 (by decide) ?_
      rw [show nI i + 4 = nI (i + 4) from nI_add i 4]
      exact ih (i + 4) h2 (by omega) (by omega) hR2
    refine v_aload_0 R dL_law_26 ?_
    refine v_iload_3 R dL_law_27 ?_
    refine SL _ _ _ _ _ dL_law_28 hv0 ?_
    refine v_bipush R dL_law_29 (v := (31 : Int32)) (by decide) ?_
    refine v_iand R dL_law_31 ?_
    by_cases q0 : (xs (nI i).toNatClampNeg &&& 31) = (0 : Int32)
    · refine v_tabEq (tgt := 156) R dL_law_32 (0 : Int32) q0 (by decide) (by decide) rfl (by decide) ?_
      refine v_aload_1 R dL_law_156 ?_
      refine v_aload_0 R dL_law_157 ?_
      refine v_iload_3 R dL_law_158 ?_
      refine v_iconst R dL_law_159 (v := (1 : Int32)) (by decide) ?_
      refine v_iadd R dL_law_160 ?_
      refine SL _ _ _ _ _ dL_law_161 hv1 ?_
      refine cV1_iw R dL_law_162 (c_Fe_feed (G0 _ _ hRel)) rc_Fe ml_L_13 mv_Fe_feed (by decide) (Nat.le_of_ble_eq_true rfl) (fun v1 h1 hP => ?_)
      refine v_aload_2 R dL_law_165 ?_
      refine v_aload_0 R dL_law_166 ?_
      refine v_iload_3 R dL_law_167 ?_
      refine v_iconst R dL_law_168 (v := (1 : Int32)) (by decide) ?_
      refine v_iadd R dL_law_169 ?_
      refine SL _ _ _ _ _ dL_law_170 hv1 ?_
      refine cV1_iw R dL_law_171 (c_Md_feed hP) rc_Md ml_L_17 mv_Md_feed (by decide) (Nat.le_of_ble_eq_true rfl) (fun v2 h2 hP => ?_)
      refine v_icmp_eq (tgt := 899) R dL_law_174 (by decide) (fun q => ?_) (fun q => absurd hP.1 q)
      exact TAIL _ hP.2
    by_cases q1 : (xs (nI i).toNatClampNeg &&& 31) = (1 : Int32)
    · refine v_tabEq (tgt := 179) R dL_law_32 (1 : Int32) q1 (by decide) (by decide) rfl (by decide) ?_
      refine v_aload_1 R dL_law_179 ?_
      refine cV0_iw R dL_law_180 (c_Fe_cable (G1 _ hRel)) rc_Fe ml_L_18 mv_Fe_cable (by decide) (Nat.le_of_ble_eq_true rfl) (fun v1 h1 hP => ?_)
      refine v_aload_2 R dL_law_183 ?_
      refine cV0_iw R dL_law_184 (c_Md_cable hP) rc_Md ml_L_22 mv_Md_cable (by decide) (Nat.le_of_ble_eq_true rfl) (fun v2 h2 hP => ?_)
      refine v_icmp_eq (tgt := 899) R dL_law_187 (by decide) (fun q => ?_) (fun q => absurd hP.1 q)
      exact TAIL _ hP.2
    by_cases q2 : (xs (nI i).toNatClampNeg &&& 31) = (2 : Int32)
    · refine v_tabEq (tgt := 192) R dL_law_32 (2 : Int32) q2 (by decide) (by decide) rfl (by decide) ?_
      refine v_aload_1 R dL_law_192 ?_
      refine cV0_ir R dL_law_193 (c_Fe_fault (G2 _ hRel)) rc_Fe ml_L_23 mv_Fe_fault (by decide) (Nat.le_of_ble_eq_true rfl) (fun v1 hP => ?_)
      refine v_aload_2 R dL_law_196 ?_
      refine cV0_ir R dL_law_197 (c_Md_fault hP) rc_Md ml_L_26 mv_Md_fault (by decide) (Nat.le_of_ble_eq_true rfl) (fun v2 hP => ?_)
      refine v_icmp_eq (tgt := 899) R dL_law_200 (by decide) (fun q => ?_) (fun q => absurd hP.1 q)
      exact TAIL _ hP.2
    by_cases q3 : (xs (nI i).toNatClampNeg &&& 31) = (3 : Int32)
    · refine v_tabEq (tgt := 205) R dL_law_32 (3 : Int32) q3 (by decide) (by decide) rfl (by decide) ?_
      refine v_aload_1 R dL_law_205 ?_
      refine v_aload_0 R dL_law_206 ?_
      refine v_iload_3 R dL_law_207 ?_
      refine v_iconst R dL_law_208 (v := (1 : Int32)) (by decide) ?_
      refine v_iadd R dL_law_209 ?_
      refine SL _ _ _ _ _ dL_law_210 hv1 ?_
      refine cV1_iw R dL_law_211 (c_Fe_told (G3 _ _ hRel)) rc_Fe ml_L_27 mv_Fe_told (by decide) (Nat.le_of_ble_eq_true rfl) (fun v1 h1 hP => ?_)
      refine v_aload_2 R dL_law_214 ?_
      refine v_aload_0 R dL_law_215 ?_
      refine v_iload_3 R dL_law_216 ?_
      refine v_iconst R dL_law_217 (v := (1 : Int32)) (by decide) ?_
      refine v_iadd R dL_law_218 ?_
      refine SL _ _ _ _ _ dL_law_219 hv1 ?_
      refine cV1_iw R dL_law_220 (c_Md_told hP) rc_Md ml_L_30 mv_Md_told (by decide) (Nat.le_of_ble_eq_true rfl) (fun v2 h2 hP => ?_)
      refine v_icmp_eq (tgt := 899) R dL_law_223 (by decide) (fun q => ?_) (fun q => absurd hP.1 q)
      exact TAIL _ hP.2
    by_cases q4 : (xs (nI i).toNatClampNeg &&& 31) = (4 : Int32)
    · refine v_tabEq (tgt := 228) R dL_law_32 (4 : Int32) q4 (by decide) (by decide) rfl (by decide) ?_
      refine v_aload_1 R dL_law_228 ?_
      refine v_aload_0 R dL_law_229 ?_
      refine v_iload_3 R dL_law_230 ?_
      refine v_iconst R dL_law_231 (v := (1 : Int32)) (by decide) ?_
      refine v_iadd R dL_law_232 ?_
      refine SL _ _ _ _ _ dL_law_233 hv1 ?_
      refine v_aload_0 R dL_law_234 ?_
      refine v_iload_3 R dL_law_235 ?_
      refine v_iconst R dL_law_236 (v := (2 : Int32)) (by decide) ?_
      refine v_iadd R dL_law_237 ?_
      refine SL _ _ _ _ _ dL_law_238 hv2 ?_
      refine cV2_ir R dL_law_239 (c_Fe_wire (G4 _ _ _ hRel)) rc_Fe ml_L_31 mv_Fe_wire (by decide) (Nat.le_of_ble_eq_true rfl) (fun v1 hP => ?_)
      refine v_aload_2 R dL_law_242 ?_
      refine v_aload_0 R dL_law_243 ?_
      refine v_iload_3 R dL_law_244 ?_
      refine v_iconst R dL_law_245 (v := (1 : Int32)) (by decide) ?_
      refine v_iadd R dL_law_246 ?_
      refine SL _ _ _ _ _ dL_law_247 hv1 ?_
      refine v_aload_0 R dL_law_248 ?_
      refine v_iload_3 R dL_law_249 ?_
      refine v_iconst R dL_law_250 (v := (2 : Int32)) (by decide) ?_
      refine v_iadd R dL_law_251 ?_
      refine SL _ _ _ _ _ dL_law_252 hv2 ?_
      refine cV2_ir R dL_law_253 (c_Md_wire hP) rc_Md ml_L_35 mv_Md_wire (by decide) (Nat.le_of_ble_eq_true rfl) (fun v2 hP => ?_)
      refine v_icmp_eq (tgt := 899) R dL_law_256 (by decide) (fun q => ?_) (fun q => absurd hP.1 q)
      exact TAIL _ hP.2
    by_cases q5 : (xs (nI i).toNatClampNeg &&& 31) = (5 : Int32)
    · refine v_tabEq (tgt := 261) R dL_law_32 (5 : Int32) q5 (by decide) (by decide) rfl (by decide) ?_
      refine v_aload_1 R dL_law_261 ?_
      refine v_aload_0 R dL_law_262 ?_
      refine v_iload_3 R dL_law_263 ?_
      refine v_iconst R dL_law_264 (v := (1 : Int32)) (by decide) ?_
      refine v_iadd R dL_law_265 ?_
      refine SL _ _ _ _ _ dL_law_266 hv1 ?_
      refine v_aload_0 R dL_law_267 ?_
      refine v_iload_3 R dL_law_268 ?_
      refine v_iconst R dL_law_269 (v := (2 : Int32)) (by decide) ?_
      refine v_iadd R dL_law_270 ?_
      refine SL _ _ _ _ _ dL_law_271 hv2 ?_
      refine cV2_iw R dL_law_272 (c_Fe_end (G5 _ _ _ hRel)) rc_Fe ml_L_36 mv_Fe_end (by decide) (Nat.le_of_ble_eq_true rfl) (fun v1 h1 hP => ?_)
      refine v_aload_2 R dL_law_275 ?_
      refine v_aload_0 R dL_law_276 ?_
      refine v_iload_3 R dL_law_277 ?_
      refine v_iconst R dL_law_278 (v := (1 : Int32)) (by decide) ?_
      refine v_iadd R dL_law_279 ?_
      refine SL _ _ _ _ _ dL_law_280 hv1 ?_
      refine v_aload_0 R dL_law_281 ?_
      refine v_iload_3 R dL_law_282 ?_
      refine v_iconst R dL_law_283 (v := (2 : Int32)) (by decide) ?_
      refine v_iadd R dL_law_284 ?_
      refine SL _ _ _ _ _ dL_law_285 hv2 ?_
      refine cV2_iw R dL_law_286 (c_Md_end hP) rc_Md ml_L_39 mv_Md_end (by decide) (Nat.le_of_ble_eq_true rfl) (fun v2 h2 hP => ?_)
      refine v_icmp_eq (tgt := 899) R dL_law_289 (by decide) (fun q => ?_) (fun q => absurd hP.1 q)
      exact TAIL _ hP.2
    by_cases q6 : (xs (nI i).toNatClampNeg &&& 31) = (6 : Int32)
    · refine v_tabEq (tgt := 294) R dL_law_32 (6 : Int32) q6 (by decide) (by decide) rfl (by decide) ?_
      refine v_aload_1 R dL_law_294 ?_
      refine v_aload_0 R dL_law_295 ?_
      refine v_iload_3 R dL_law_296 ?_
      refine v_iconst R dL_law_297 (v := (1 : Int32)) (by decide) ?_
      refine v_iadd R dL_law_298 ?_
      refine SL _ _ _ _ _ dL_law_299 hv1 ?_
      refine v_aload_0 R dL_law_300 ?_
      refine v_iload_3 R dL_law_301 ?_
      refine v_iconst R dL_law_302 (v := (2 : Int32)) (by decide) ?_
      refine v_iadd R dL_law_303 ?_
      refine SL _ _ _ _ _ dL_law_304 hv2 ?_
      refine cV2_iw R dL_law_305 (c_Fe_net (G6 _ _ _ hRel)) rc_Fe ml_L_40 mv_Fe_net (by decide) (Nat.le_of_ble_eq_true rfl) (fun v1 h1 hP => ?_)
      refine v_aload_2 R dL_law_308 ?_
      refine v_aload_0 R dL_law_309 ?_
      refine v_iload_3 R dL_law_310 ?_
      refine v_iconst R dL_law_311 (v := (1 : Int32)) (by decide) ?_
      refine v_iadd R dL_law_312 ?_
      refine SL _ _ _ _ _ dL_law_313 hv1 ?_
      refine v_aload_0 R dL_law_314 ?_
      refine v_iload_3 R dL_law_315 ?_
      refine v_iconst R dL_law_316 (v := (2 : Int32)) (by decide) ?_
      refine v_iadd R dL_law_317 ?_
      refine SL _ _ _ _ _ dL_law_318 hv2 ?_
      refine cV2_ir R dL_law_319 (c_Md_net hP) rc_Md ml_L_43 mv_Md_net (by decide) (Nat.le_of_ble_eq_true rfl) (fun v2 hP => ?_)
      refine v_icmp_eq (tgt := 899) R dL_law_322 (by decide) (fun q => ?_) (fun q => absurd hP.1 q)
      exact TAIL _ hP.2
    by_cases q7 : (xs (nI i).toNatClampNeg &&& 31) = (7 : Int32)
    · refine v_tabEq (tgt := 327) R dL_law_32 (7 : Int32) q7 (by decide) (by decide) rfl (by decide) ?_
      refine v_aload_1 R dL_law_327 ?_
      refine v_aload_0 R dL_law_328 ?_
      refine v_iload_3 R dL_law_329 ?_
      refine v_iconst R dL_law_330 (v := (1 : Int32)) (by decide) ?_
      refine v_iadd R dL_law_331 ?_
      refine SL _ _ _ _ _ dL_law_332 hv1 ?_
      refine v_aload_0 R dL_law_333 ?_
      refine v_iload_3 R dL_law_334 ?_
      refine v_iconst R dL_law_335 (v := (2 : Int32)) (by decide) ?_
      refine v_iadd R dL_law_336 ?_
      refine SL _ _ _ _ _ dL_law_337 hv2 ?_
      refine cV2_iw R dL_law_338 (c_Fe_rings (G7 _ _ _ hRel)) rc_Fe ml_L_44 mv_Fe_rings (by decide) (Nat.le_of_ble_eq_true rfl) (fun v1 h1 hP => ?_)
      refine v_aload_2 R dL_law_341 ?_
      refine v_aload_0 R dL_law_342 ?_
      refine v_iload_3 R dL_law_343 ?_
      refine v_iconst R dL_law_344 (v := (1 : Int32)) (by decide) ?_
      refine v_iadd R dL_law_345 ?_
      refine SL _ _ _ _ _ dL_law_346 hv1 ?_
      refine v_aload_0 R dL_law_347 ?_
      refine v_iload_3 R dL_law_348 ?_
      refine v_iconst R dL_law_349 (v := (2 : Int32)) (by decide) ?_
      refine v_iadd R dL_law_350 ?_
      refine SL _ _ _ _ _ dL_law_351 hv2 ?_
      refine cV2_ir R dL_law_352 (c_Md_rings hP) rc_Md ml_L_47 mv_Md_rings (by decide) (Nat.le_of_ble_eq_true rfl) (fun v2 hP => ?_)
      refine v_icmp_eq (tgt := 899) R dL_law_355 (by decide) (fun q => ?_) (fun q => absurd hP.1 q)
      exact TAIL _ hP.2
    by_cases q8 : (xs (nI i).toNatClampNeg &&& 31) = (8 : Int32)
    · refine v_tabEq (tgt := 360) R dL_law_32 (8 : Int32) q8 (by decide) (by decide) rfl (by decide) ?_
      refine v_aload_1 R dL_law_360 ?_
      refine v_aload_0 R dL_law_361 ?_
      refine v_iload_3 R dL_law_362 ?_
      refine v_iconst R dL_law_363 (v := (1 : Int32)) (by decide) ?_
      refine v_iadd R dL_law_364 ?_
      refine SL _ _ _ _ _ dL_law_365 hv1 ?_
      refine v_aload_0 R dL_law_366 ?_
      refine v_iload_3 R dL_law_367 ?_
      refine v_iconst R dL_law_368 (v := (2 : Int32)) (by decide) ?_
      refine v_iadd R dL_law_369 ?_
      refine SL _ _ _ _ _ dL_law_370 hv2 ?_
      refine cV2_ir R dL_law_371 (c_Fe_touches (G8 _ _ _ hRel)) rc_Fe ml_L_48 mv_Fe_touches (by decide) (Nat.le_of_ble_eq_true rfl) (fun v1 hP => ?_)
      refine v_aload_2 R dL_law_374 ?_
      refine v_aload_0 R dL_law_375 ?_
      refine v_iload_3 R dL_law_376 ?_
      refine v_iconst R dL_law_377 (v := (1 : Int32)) (by decide) ?_
      refine v_iadd R dL_law_378 ?_
      refine SL _ _ _ _ _ dL_law_379 hv1 ?_
      refine v_aload_0 R dL_law_380 ?_
      refine v_iload_3 R dL_law_381 ?_
      refine v_iconst R dL_law_382 (v := (2 : Int32)) (by decide) ?_
      refine v_iadd R dL_law_383 ?_
      refine SL _ _ _ _ _ dL_law_384 hv2 ?_
      refine cV2_ir R dL_law_385 (c_Md_touches hP) rc_Md ml_L_51 mv_Md_touches (by decide) (Nat.le_of_ble_eq_true rfl) (fun v2 hP => ?_)
      refine v_icmp_eq (tgt := 899) R dL_law_388 (by decide) (fun q => ?_) (fun q => absurd hP.1 q)
      exact TAIL _ hP.2
    by_cases q9 : (xs (nI i).toNatClampNeg &&& 31) = (9 : Int32)
    · refine v_tabEq (tgt := 393) R dL_law_32 (9 : Int32) q9 (by decide) (by decide) rfl (by decide) ?_
      refine v_aload_1 R dL_law_393 ?_
      refine v_aload_0 R dL_law_394 ?_
      refine v_iload_3 R dL_law_395 ?_
      refine v_iconst R dL_law_396 (v := (1 : Int32)) (by decide) ?_
      refine v_iadd R dL_law_397 ?_
      refine SL _ _ _ _ _ dL_law_398 hv1 ?_
      refine v_aload_0 R dL_law_399 ?_
      refine v_iload_3 R dL_law_400 ?_
      refine v_iconst R dL_law_401 (v := (2 : Int32)) (by decide) ?_
      refine v_iadd R dL_law_402 ?_
      refine SL _ _ _ _ _ dL_law_403 hv2 ?_
      refine cV2_iw R dL_law_404 (c_Fe_tie (G9 _ _ _ hRel)) rc_Fe ml_L_52 mv_Fe_tie (by decide) (Nat.le_of_ble_eq_true rfl) (fun v1 h1 hP => ?_)
      refine v_aload_2 R dL_law_407 ?_
      refine v_aload_0 R dL_law_408 ?_
      refine v_iload_3 R dL_law_409 ?_
      refine v_iconst R dL_law_410 (v := (1 : Int32)) (by decide) ?_
      refine v_iadd R dL_law_411 ?_
      refine SL _ _ _ _ _ dL_law_412 hv1 ?_
      refine v_aload_0 R dL_law_413 ?_
      refine v_iload_3 R dL_law_414 ?_
      refine v_iconst R dL_law_415 (v := (2 : Int32)) (by decide) ?_
      refine v_iadd R dL_law_416 ?_
      refine SL _ _ _ _ _ dL_law_417 hv2 ?_
      refine cV2_iw R dL_law_418 (c_Md_tie hP) rc_Md ml_L_55 mv_Md_tie (by decide) (Nat.le_of_ble_eq_true rfl) (fun v2 h2 hP => ?_)
      refine v_icmp_eq (tgt := 899) R dL_law_421 (by decide) (fun q => ?_) (fun q => absurd hP.1 q)
      exact TAIL _ hP.2
    by_cases q10 : (xs (nI i).toNatClampNeg &&& 31) = (10 : Int32)
    · refine v_tabEq (tgt := 426) R dL_law_32 (10 : Int32) q10 (by decide) (by decide) rfl (by decide) ?_
      refine v_aload_1 R dL_law_426 ?_
      refine cV0_iw R dL_law_427 (c_Fe_cross (G10 _ hRel)) rc_Fe ml_L_56 mv_Fe_cross (by decide) (Nat.le_of_ble_eq_true rfl) (fun v1 h1 hP => ?_)
      refine v_aload_2 R dL_law_430 ?_
      refine cV0_iw R dL_law_431 (c_Md_cross hP) rc_Md ml_L_59 mv_Md_cross (by decide) (Nat.le_of_ble_eq_true rfl) (fun v2 h2 hP => ?_)
      refine v_icmp_eq (tgt := 899) R dL_law_434 (by decide) (fun q => ?_) (fun q => absurd hP.1 q)
      exact TAIL _ hP.2
    by_cases q11 : (xs (nI i).toNatClampNeg &&& 31) = (11 : Int32)
    · refine v_tabEq (tgt := 439) R dL_law_32 (11 : Int32) q11 (by decide) (by decide) rfl (by decide) ?_
      refine v_aload_1 R dL_law_439 ?_
      refine v_aload_0 R dL_law_440 ?_
      refine v_iload_3 R dL_law_441 ?_
      refine v_iconst R dL_law_442 (v := (1 : Int32)) (by decide) ?_
      refine v_iadd R dL_law_443 ?_
      refine SL _ _ _ _ _ dL_law_444 hv1 ?_
      refine v_aload_0 R dL_law_445 ?_
      refine v_iload_3 R dL_law_446 ?_
      refine v_iconst R dL_law_447 (v := (2 : Int32)) (by decide) ?_
      refine v_iadd R dL_law_448 ?_
      refine SL _ _ _ _ _ dL_law_449 hv2 ?_
      refine cV2_iw R dL_law_450 (c_Fe_test (G11 _ _ _ hRel)) rc_Fe ml_L_60 mv_Fe_test (by decide) (Nat.le_of_ble_eq_true rfl) (fun v1 h1 hP => ?_)
      refine v_aload_2 R dL_law_453 ?_
      refine v_aload_0 R dL_law_454 ?_
      refine v_iload_3 R dL_law_455 ?_
      refine v_iconst R dL_law_456 (v := (1 : Int32)) (by decide) ?_
      refine v_iadd R dL_law_457 ?_
      refine SL _ _ _ _ _ dL_law_458 hv1 ?_
      refine v_aload_0 R dL_law_459 ?_
      refine v_iload_3 R dL_law_460 ?_
      refine v_iconst R dL_law_461 (v := (2 : Int32)) (by decide) ?_
      refine v_iadd R dL_law_462 ?_
      refine SL _ _ _ _ _ dL_law_463 hv2 ?_
      refine cV2_iw R dL_law_464 (c_Md_test hP) rc_Md ml_L_63 mv_Md_test (by decide) (Nat.le_of_ble_eq_true rfl) (fun v2 h2 hP => ?_)
      refine v_icmp_eq (tgt := 899) R dL_law_467 (by decide) (fun q => ?_) (fun q => absurd hP.1 q)
      exact TAIL _ hP.2
    by_cases q12 : (xs (nI i).toNatClampNeg &&& 31) = (12 : Int32)
    · refine v_tabEq (tgt := 472) R dL_law_32 (12 : Int32) q12 (by decide) (by decide) rfl (by decide) ?_
      refine v_aload_1 R dL_law_472 ?_
      refine v_aload_0 R dL_law_473 ?_
      refine v_iload_3 R dL_law_474 ?_
      refine v_iconst R dL_law_475 (v := (1 : Int32)) (by decide) ?_
      refine v_iadd R dL_law_476 ?_
      refine SL _ _ _ _ _ dL_law_477 hv1 ?_
      refine cV1_iw R dL_law_478 (c_Fe_rest (G12 _ _ hRel)) rc_Fe ml_L_64 mv_Fe_rest (by decide) (Nat.le_of_ble_eq_true rfl) (fun v1 h1 hP => ?_)
      refine v_aload_2 R dL_law_481 ?_
      refine v_aload_0 R dL_law_482 ?_
      refine v_iload_3 R dL_law_483 ?_
      refine v_iconst R dL_law_484 (v := (1 : Int32)) (by decide) ?_
      refine v_iadd R dL_law_485 ?_
      refine SL _ _ _ _ _ dL_law_486 hv1 ?_
      refine cV1_iw R dL_law_487 (c_Md_rest hP) rc_Md ml_L_67 mv_Md_rest (by decide) (Nat.le_of_ble_eq_true rfl) (fun v2 h2 hP => ?_)
      refine v_icmp_eq (tgt := 899) R dL_law_490 (by decide) (fun q => ?_) (fun q => absurd hP.1 q)
      exact TAIL _ hP.2
    by_cases q13 : (xs (nI i).toNatClampNeg &&& 31) = (13 : Int32)
    · refine v_tabEq (tgt := 495) R dL_law_32 (13 : Int32) q13 (by decide) (by decide) rfl (by decide) ?_
      refine v_aload_1 R dL_law_495 ?_
      refine v_aload_0 R dL_law_496 ?_
      refine v_iload_3 R dL_law_497 ?_
      refine v_iconst R dL_law_498 (v := (1 : Int32)) (by decide) ?_
      refine v_iadd R dL_law_499 ?_
      refine SL _ _ _ _ _ dL_law_500 hv1 ?_
      refine v_aload_0 R dL_law_501 ?_
      refine v_iload_3 R dL_law_502 ?_
      refine v_iconst R dL_law_503 (v := (2 : Int32)) (by decide) ?_
      refine v_iadd R dL_law_504 ?_
      refine SL _ _ _ _ _ dL_law_505 hv2 ?_
      refine cV2_iw R dL_law_506 (c_Fe_mend (G13 _ _ _ hRel)) rc_Fe ml_L_68 mv_Fe_mend (by decide) (Nat.le_of_ble_eq_true rfl) (fun v1 h1 hP => ?_)
      refine v_aload_2 R dL_law_509 ?_
      refine v_aload_0 R dL_law_510 ?_
      refine v_iload_3 R dL_law_511 ?_
      refine v_iconst R dL_law_512 (v := (1 : Int32)) (by decide) ?_
      refine v_iadd R dL_law_513 ?_
      refine SL _ _ _ _ _ dL_law_514 hv1 ?_
      refine v_aload_0 R dL_law_515 ?_
      refine v_iload_3 R dL_law_516 ?_
      refine v_iconst R dL_law_517 (v := (2 : Int32)) (by decide) ?_
      refine v_iadd R dL_law_518 ?_
      refine SL _ _ _ _ _ dL_law_519 hv2 ?_
      refine cV2_iw R dL_law_520 (c_Md_mend hP) rc_Md ml_L_71 mv_Md_mend (by decide) (Nat.le_of_ble_eq_true rfl) (fun v2 h2 hP => ?_)
      refine v_icmp_eq (tgt := 899) R dL_law_523 (by decide) (fun q => ?_) (fun q => absurd hP.1 q)
      exact TAIL _ hP.2
    by_cases q14 : (xs (nI i).toNatClampNeg &&& 31) = (14 : Int32)
    · refine v_tabEq (tgt := 528) R dL_law_32 (14 : Int32) q14 (by decide) (by decide) rfl (by decide) ?_
      by_cases hz3 : xs (nI i + 3).toNatClampNeg = 0
      · have hz : (0 : Int32) = 0 ∨ (0 : Int32) = 1 := Or.inl rfl
        refine v_aload_1 R dL_law_528 ?_
        refine v_aload_0 R dL_law_529 ?_
        refine v_iload_3 R dL_law_530 ?_
        refine v_iconst R dL_law_531 (v := (1 : Int32)) (by decide) ?_
        refine v_iadd R dL_law_532 ?_
        refine SL _ _ _ _ _ dL_law_533 hv1 ?_
        refine v_aload_0 R dL_law_534 ?_
        refine v_iload_3 R dL_law_535 ?_
        refine v_iconst R dL_law_536 (v := (2 : Int32)) (by decide) ?_
        refine v_iadd R dL_law_537 ?_
        refine SL _ _ _ _ _ dL_law_538 hv2 ?_
        refine v_aload_0 R dL_law_539 ?_
        refine v_iload_3 R dL_law_540 ?_
        refine v_iconst R dL_law_541 (v := (3 : Int32)) (by decide) ?_
        refine v_iadd R dL_law_542 ?_
        refine SL _ _ _ _ _ dL_law_543 hv3 ?_
        refine v_if_eq (tgt := 551) R dL_law_544 (by decide) (fun q => ?_) (fun q => ?_)
        · refine v_iconst R dL_law_551 (v := (0 : Int32)) (by decide) ?_
          refine cV3_iw R dL_law_552 (c_Fe_touch (G14 _ _ _ _ hRel hz)) rc_Fe ml_L_72 mv_Fe_touch (by decide) (Nat.le_of_ble_eq_true rfl) (fun v1 h1 hP => ?_)
          refine v_aload_2 R dL_law_555 ?_
          refine v_aload_0 R dL_law_556 ?_
          refine v_iload_3 R dL_law_557 ?_
          refine v_iconst R dL_law_558 (v := (1 : Int32)) (by decide) ?_
          refine v_iadd R dL_law_559 ?_
          refine SL _ _ _ _ _ dL_law_560 hv1 ?_
          refine v_aload_0 R dL_law_561 ?_
          refine v_iload_3 R dL_law_562 ?_
          refine v_iconst R dL_law_563 (v := (2 : Int32)) (by decide) ?_
          refine v_iadd R dL_law_564 ?_
          refine SL _ _ _ _ _ dL_law_565 hv2 ?_
          refine v_aload_0 R dL_law_566 ?_
          refine v_iload_3 R dL_law_567 ?_
          refine v_iconst R dL_law_568 (v := (3 : Int32)) (by decide) ?_
          refine v_iadd R dL_law_569 ?_
          refine SL _ _ _ _ _ dL_law_570 hv3 ?_
          refine v_if_eq (tgt := 578) R dL_law_571 (by decide) (fun q => ?_) (fun q => ?_)
          · refine v_iconst R dL_law_578 (v := (0 : Int32)) (by decide) ?_
            refine cV3_iw R dL_law_579 (c_Md_touch hP) rc_Md ml_L_76 mv_Md_touch (by decide) (Nat.le_of_ble_eq_true rfl) (fun v2 h2 hP => ?_)
            refine v_icmp_eq (tgt := 899) R dL_law_582 (by decide) (fun q => ?_) (fun q => absurd hP.1 q)
            exact TAIL _ hP.2
          · exact absurd hz3 q
        · exact absurd hz3 q
      · have hz : (1 : Int32) = 0 ∨ (1 : Int32) = 1 := Or.inr rfl
        refine v_aload_1 R dL_law_528 ?_
        refine v_aload_0 R dL_law_529 ?_
        refine v_iload_3 R dL_law_530 ?_
        refine v_iconst R dL_law_531 (v := (1 : Int32)) (by decide) ?_
        refine v_iadd R dL_law_532 ?_
        refine SL _ _ _ _ _ dL_law_533 hv1 ?_
        refine v_aload_0 R dL_law_534 ?_
        refine v_iload_3 R dL_law_535 ?_
        refine v_iconst R dL_law_536 (v := (2 : Int32)) (by decide) ?_
        refine v_iadd R dL_law_537 ?_
        refine SL _ _ _ _ _ dL_law_538 hv2 ?_
        refine v_aload_0 R dL_law_539 ?_
        refine v_iload_3 R dL_law_540 ?_
        refine v_iconst R dL_law_541 (v := (3 : Int32)) (by decide) ?_
        refine v_iadd R dL_law_542 ?_
        refine SL _ _ _ _ _ dL_law_543 hv3 ?_
        refine v_if_eq (tgt := 551) R dL_law_544 (by decide) (fun q => ?_) (fun q => ?_)
        · exact absurd q hz3
        · refine v_iconst R dL_law_547 (v := (1 : Int32)) (by decide) ?_
          refine v_goto (tgt := 552) R dL_law_548 (by decide) ?_
          refine cV3_iw R dL_law_552 (c_Fe_touch (G14 _ _ _ _ hRel hz)) rc_Fe ml_L_72 mv_Fe_touch (by decide) (Nat.le_of_ble_eq_true rfl) (fun v1 h1 hP => ?_)
          refine v_aload_2 R dL_law_555 ?_
          refine v_aload_0 R dL_law_556 ?_
          refine v_iload_3 R dL_law_557 ?_
          refine v_iconst R dL_law_558 (v := (1 : Int32)) (by decide) ?_
          refine v_iadd R dL_law_559 ?_
          refine SL _ _ _ _ _ dL_law_560 hv1 ?_
          refine v_aload_0 R dL_law_561 ?_
          refine v_iload_3 R dL_law_562 ?_
          refine v_iconst R dL_law_563 (v := (2 : Int32)) (by decide) ?_
          refine v_iadd R dL_law_564 ?_
          refine SL _ _ _ _ _ dL_law_565 hv2 ?_
          refine v_aload_0 R dL_law_566 ?_
          refine v_iload_3 R dL_law_567 ?_
          refine v_iconst R dL_law_568 (v := (3 : Int32)) (by decide) ?_
          refine v_iadd R dL_law_569 ?_
          refine SL _ _ _ _ _ dL_law_570 hv3 ?_
          refine v_if_eq (tgt := 578) R dL_law_571 (by decide) (fun q => ?_) (fun q => ?_)
          · exact absurd q hz3
          · refine v_iconst R dL_law_574 (v := (1 : Int32)) (by decide) ?_
            refine v_goto (tgt := 579) R dL_law_575 (by decide) ?_
            refine cV3_iw R dL_law_579 (c_Md_touch hP) rc_Md ml_L_76 mv_Md_touch (by decide) (Nat.le_of_ble_eq_true rfl) (fun v2 h2 hP => ?_)
            refine v_icmp_eq (tgt := 899) R dL_law_582 (by decide) (fun q => ?_) (fun q => absurd hP.1 q)
            exact TAIL _ hP.2
    by_cases q15 : (xs (nI i).toNatClampNeg &&& 31) = (15 : Int32)
    · refine v_tabEq (tgt := 587) R dL_law_32 (15 : Int32) q15 (by decide) (by decide) rfl (by decide) ?_
      refine v_aload_1 R dL_law_587 ?_
      refine v_aload_0 R dL_law_588 ?_
      refine v_iload_3 R dL_law_589 ?_
      refine v_iconst R dL_law_590 (v := (1 : Int32)) (by decide) ?_
      refine v_iadd R dL_law_591 ?_
      refine SL _ _ _ _ _ dL_law_592 hv1 ?_
      refine cV1_iw R dL_law_593 (c_Fe_drift (G15 _ _ hRel)) rc_Fe ml_L_77 mv_Fe_drift (by decide) (Nat.le_of_ble_eq_true rfl) (fun v1 h1 hP => ?_)
      refine v_aload_2 R dL_law_596 ?_
      refine v_aload_0 R dL_law_597 ?_
      refine v_iload_3 R dL_law_598 ?_
      refine v_iconst R dL_law_599 (v := (1 : Int32)) (by decide) ?_
      refine v_iadd R dL_law_600 ?_
      refine SL _ _ _ _ _ dL_law_601 hv1 ?_
      refine cV1_iw R dL_law_602 (c_Md_drift hP) rc_Md ml_L_80 mv_Md_drift (by decide) (Nat.le_of_ble_eq_true rfl) (fun v2 h2 hP => ?_)
      refine v_icmp_eq (tgt := 899) R dL_law_605 (by decide) (fun q => ?_) (fun q => absurd hP.1 q)
      exact TAIL _ hP.2
    by_cases q16 : (xs (nI i).toNatClampNeg &&& 31) = (16 : Int32)
    · refine v_tabEq (tgt := 610) R dL_law_32 (16 : Int32) q16 (by decide) (by decide) rfl (by decide) ?_
      refine v_aload_1 R dL_law_610 ?_
      refine cV0_iw R dL_law_611 (c_Fe_undo (G16 _ hRel)) rc_Fe ml_L_81 mv_Fe_undo (by decide) (Nat.le_of_ble_eq_true rfl) (fun v1 h1 hP => ?_)
      refine v_aload_2 R dL_law_614 ?_
      refine cV0_iw R dL_law_615 (c_Md_undo hP) rc_Md ml_L_84 mv_Md_undo (by decide) (Nat.le_of_ble_eq_true rfl) (fun v2 h2 hP => ?_)
      refine v_icmp_eq (tgt := 899) R dL_law_618 (by decide) (fun q => ?_) (fun q => absurd hP.1 q)
      exact TAIL _ hP.2
    by_cases q17 : (xs (nI i).toNatClampNeg &&& 31) = (17 : Int32)
    · refine v_tabEq (tgt := 623) R dL_law_32 (17 : Int32) q17 (by decide) (by decide) rfl (by decide) ?_
      refine v_aload_1 R dL_law_623 ?_
      refine v_aload_0 R dL_law_624 ?_
      refine v_iload_3 R dL_law_625 ?_
      refine v_iconst R dL_law_626 (v := (1 : Int32)) (by decide) ?_
      refine v_iadd R dL_law_627 ?_
      refine SL _ _ _ _ _ dL_law_628 hv1 ?_
      refine v_aload_0 R dL_law_629 ?_
      refine v_iload_3 R dL_law_630 ?_
      refine v_iconst R dL_law_631 (v := (2 : Int32)) (by decide) ?_
      refine v_iadd R dL_law_632 ?_
      refine SL _ _ _ _ _ dL_law_633 hv2 ?_
      refine cV2_iw R dL_law_634 (c_Fe_cut (G17 _ _ _ hRel)) rc_Fe ml_L_85 mv_Fe_cut (by decide) (Nat.le_of_ble_eq_true rfl) (fun v1 h1 hP => ?_)
      refine v_aload_2 R dL_law_637 ?_
      refine v_aload_0 R dL_law_638 ?_
      refine v_iload_3 R dL_law_639 ?_
      refine v_iconst R dL_law_640 (v := (1 : Int32)) (by decide) ?_
      refine v_iadd R dL_law_641 ?_
      refine SL _ _ _ _ _ dL_law_642 hv1 ?_
      refine v_aload_0 R dL_law_643 ?_
      refine v_iload_3 R dL_law_644 ?_
      refine v_iconst R dL_law_645 (v := (2 : Int32)) (by decide) ?_
      refine v_iadd R dL_law_646 ?_
      refine SL _ _ _ _ _ dL_law_647 hv2 ?_
      refine cV2_ir R dL_law_648 (c_Md_cut hP) rc_Md ml_L_88 mv_Md_cut (by decide) (Nat.le_of_ble_eq_true rfl) (fun v2 hP => ?_)
      refine v_icmp_eq (tgt := 899) R dL_law_651 (by decide) (fun q => ?_) (fun q => absurd hP.1 q)
      exact TAIL _ hP.2
    by_cases q18 : (xs (nI i).toNatClampNeg &&& 31) = (18 : Int32)
    · refine v_tabEq (tgt := 656) R dL_law_32 (18 : Int32) q18 (by decide) (by decide) rfl (by decide) ?_
      refine v_aload_1 R dL_law_656 ?_
      refine v_aload_0 R dL_law_657 ?_
      refine v_iload_3 R dL_law_658 ?_
      refine v_iconst R dL_law_659 (v := (1 : Int32)) (by decide) ?_
      refine v_iadd R dL_law_660 ?_
      refine SL _ _ _ _ _ dL_law_661 hv1 ?_
      refine cV1_iw R dL_law_662 (c_Fe_ties (G18 _ _ hRel)) rc_Fe ml_L_89 mv_Fe_ties (by decide) (Nat.le_of_ble_eq_true rfl) (fun v1 h1 hP => ?_)
      refine v_aload_2 R dL_law_665 ?_
      refine v_aload_0 R dL_law_666 ?_
      refine v_iload_3 R dL_law_667 ?_
      refine v_iconst R dL_law_668 (v := (1 : Int32)) (by decide) ?_
      refine v_iadd R dL_law_669 ?_
      refine SL _ _ _ _ _ dL_law_670 hv1 ?_
      refine cV1_iw R dL_law_671 (c_Md_ties hP) rc_Md ml_L_92 mv_Md_ties (by decide) (Nat.le_of_ble_eq_true rfl) (fun v2 h2 hP => ?_)
      refine v_icmp_eq (tgt := 899) R dL_law_674 (by decide) (fun q => ?_) (fun q => absurd hP.1 q)
      exact TAIL _ hP.2
    by_cases q19 : (xs (nI i).toNatClampNeg &&& 31) = (19 : Int32)
    · refine v_tabEq (tgt := 679) R dL_law_32 (19 : Int32) q19 (by decide) (by decide) rfl (by decide) ?_
      refine v_aload_1 R dL_law_679 ?_
      refine v_aload_0 R dL_law_680 ?_
      refine v_iload_3 R dL_law_681 ?_
      refine v_iconst R dL_law_682 (v := (1 : Int32)) (by decide) ?_
      refine v_iadd R dL_law_683 ?_
      refine SL _ _ _ _ _ dL_law_684 hv1 ?_
      refine v_aload_0 R dL_law_685 ?_
      refine v_iload_3 R dL_law_686 ?_
      refine v_iconst R dL_law_687 (v := (2 : Int32)) (by decide) ?_
      refine v_iadd R dL_law_688 ?_
      refine SL _ _ _ _ _ dL_law_689 hv2 ?_
      refine cV2_ir R dL_law_690 (c_Fe_dry (G19 _ _ _ hRel)) rc_Fe ml_L_93 mv_Fe_dry (by decide) (Nat.le_of_ble_eq_true rfl) (fun v1 hP => ?_)
      refine v_aload_2 R dL_law_693 ?_
      refine v_aload_0 R dL_law_694 ?_
      refine v_iload_3 R dL_law_695 ?_
      refine v_iconst R dL_law_696 (v := (1 : Int32)) (by decide) ?_
      refine v_iadd R dL_law_697 ?_
      refine SL _ _ _ _ _ dL_law_698 hv1 ?_
      refine v_aload_0 R dL_law_699 ?_
      refine v_iload_3 R dL_law_700 ?_
      refine v_iconst R dL_law_701 (v := (2 : Int32)) (by decide) ?_
      refine v_iadd R dL_law_702 ?_
      refine SL _ _ _ _ _ dL_law_703 hv2 ?_
      refine cV2_ir R dL_law_704 (c_Md_dry hP) rc_Md ml_L_96 mv_Md_dry (by decide) (Nat.le_of_ble_eq_true rfl) (fun v2 hP => ?_)
      refine v_icmp_eq (tgt := 899) R dL_law_707 (by decide) (fun q => ?_) (fun q => absurd hP.1 q)
      exact TAIL _ hP.2
    by_cases q20 : (xs (nI i).toNatClampNeg &&& 31) = (20 : Int32)
    · refine v_tabEq (tgt := 712) R dL_law_32 (20 : Int32) q20 (by decide) (by decide) rfl (by decide) ?_
      by_cases hz3 : xs (nI i + 3).toNatClampNeg = 0
      · have hz : (0 : Int32) = 0 ∨ (0 : Int32) = 1 := Or.inl rfl
        refine v_aload_1 R dL_law_712 ?_
        refine v_aload_0 R dL_law_713 ?_
        refine v_iload_3 R dL_law_714 ?_
        refine v_iconst R dL_law_715 (v := (1 : Int32)) (by decide) ?_
        refine v_iadd R dL_law_716 ?_
        refine SL _ _ _ _ _ dL_law_717 hv1 ?_
        refine v_aload_0 R dL_law_718 ?_
        refine v_iload_3 R dL_law_719 ?_
        refine v_iconst R dL_law_720 (v := (2 : Int32)) (by decide) ?_
        refine v_iadd R dL_law_721 ?_
        refine SL _ _ _ _ _ dL_law_722 hv2 ?_
        refine v_aload_0 R dL_law_723 ?_
        refine v_iload_3 R dL_law_724 ?_
        refine v_iconst R dL_law_725 (v := (3 : Int32)) (by decide) ?_
        refine v_iadd R dL_law_726 ?_
        refine SL _ _ _ _ _ dL_law_727 hv3 ?_
        refine v_if_eq (tgt := 735) R dL_law_728 (by decide) (fun q => ?_) (fun q => ?_)
        · refine v_iconst R dL_law_735 (v := (0 : Int32)) (by decide) ?_
          refine cV3_iw R dL_law_736 (c_Fe_see (G20 _ _ _ _ hRel hz)) rc_Fe ml_L_97 mv_Fe_see (by decide) (Nat.le_of_ble_eq_true rfl) (fun v1 h1 hP => ?_)
          refine v_aload_2 R dL_law_739 ?_
          refine v_aload_0 R dL_law_740 ?_
          refine v_iload_3 R dL_law_741 ?_
          refine v_iconst R dL_law_742 (v := (1 : Int32)) (by decide) ?_
          refine v_iadd R dL_law_743 ?_
          refine SL _ _ _ _ _ dL_law_744 hv1 ?_
          refine v_aload_0 R dL_law_745 ?_
          refine v_iload_3 R dL_law_746 ?_
          refine v_iconst R dL_law_747 (v := (2 : Int32)) (by decide) ?_
          refine v_iadd R dL_law_748 ?_
          refine SL _ _ _ _ _ dL_law_749 hv2 ?_
          refine v_aload_0 R dL_law_750 ?_
          refine v_iload_3 R dL_law_751 ?_
          refine v_iconst R dL_law_752 (v := (3 : Int32)) (by decide) ?_
          refine v_iadd R dL_law_753 ?_
          refine SL _ _ _ _ _ dL_law_754 hv3 ?_
          refine v_if_eq (tgt := 762) R dL_law_755 (by decide) (fun q => ?_) (fun q => ?_)
          · refine v_iconst R dL_law_762 (v := (0 : Int32)) (by decide) ?_
            refine cV3_iw R dL_law_763 (c_Md_see hP) rc_Md ml_L_100 mv_Md_see (by decide) (Nat.le_of_ble_eq_true rfl) (fun v2 h2 hP => ?_)
            refine v_icmp_eq (tgt := 899) R dL_law_766 (by decide) (fun q => ?_) (fun q => absurd hP.1 q)
            exact TAIL _ hP.2
          · exact absurd hz3 q
        · exact absurd hz3 q
      · have hz : (1 : Int32) = 0 ∨ (1 : Int32) = 1 := Or.inr rfl
        refine v_aload_1 R dL_law_712 ?_
        refine v_aload_0 R dL_law_713 ?_
        refine v_iload_3 R dL_law_714 ?_
        refine v_iconst R dL_law_715 (v := (1 : Int32)) (by decide) ?_
        refine v_iadd R dL_law_716 ?_
        refine SL _ _ _ _ _ dL_law_717 hv1 ?_
        refine v_aload_0 R dL_law_718 ?_
        refine v_iload_3 R dL_law_719 ?_
        refine v_iconst R dL_law_720 (v := (2 : Int32)) (by decide) ?_
        refine v_iadd R dL_law_721 ?_
        refine SL _ _ _ _ _ dL_law_722 hv2 ?_
        refine v_aload_0 R dL_law_723 ?_
        refine v_iload_3 R dL_law_724 ?_
        refine v_iconst R dL_law_725 (v := (3 : Int32)) (by decide) ?_
        refine v_iadd R dL_law_726 ?_
        refine SL _ _ _ _ _ dL_law_727 hv3 ?_
        refine v_if_eq (tgt := 735) R dL_law_728 (by decide) (fun q => ?_) (fun q => ?_)
        · exact absurd q hz3
        · refine v_iconst R dL_law_731 (v := (1 : Int32)) (by decide) ?_
          refine v_goto (tgt := 736) R dL_law_732 (by decide) ?_
          refine cV3_iw R dL_law_736 (c_Fe_see (G20 _ _ _ _ hRel hz)) rc_Fe ml_L_97 mv_Fe_see (by decide) (Nat.le_of_ble_eq_true rfl) (fun v1 h1 hP => ?_)
          refine v_aload_2 R dL_law_739 ?_
          refine v_aload_0 R dL_law_740 ?_
          refine v_iload_3 R dL_law_741 ?_
          refine v_iconst R dL_law_742 (v := (1 : Int32)) (by decide) ?_
          refine v_iadd R dL_law_743 ?_
          refine SL _ _ _ _ _ dL_law_744 hv1 ?_
          refine v_aload_0 R dL_law_745 ?_
          refine v_iload_3 R dL_law_746 ?_
          refine v_iconst R dL_law_747 (v := (2 : Int32)) (by decide) ?_
          refine v_iadd R dL_law_748 ?_
          refine SL _ _ _ _ _ dL_law_749 hv2 ?_
          refine v_aload_0 R dL_law_750 ?_
          refine v_iload_3 R dL_law_751 ?_
          refine v_iconst R dL_law_752 (v := (3 : Int32)) (by decide) ?_
          refine v_iadd R dL_law_753 ?_
          refine SL _ _ _ _ _ dL_law_754 hv3 ?_
          refine v_if_eq (tgt := 762) R dL_law_755 (by decide) (fun q => ?_) (fun q => ?_)
          · exact absurd q hz3
          · refine v_iconst R dL_law_758 (v := (1 : Int32)) (by decide) ?_
            refine v_goto (tgt := 763) R dL_law_759 (by decide) ?_
            refine cV3_iw R dL_law_763 (c_Md_see hP) rc_Md ml_L_100 mv_Md_see (by decide) (Nat.le_of_ble_eq_true rfl) (fun v2 h2 hP => ?_)
            refine v_icmp_eq (tgt := 899) R dL_law_766 (by decide) (fun q => ?_) (fun q => absurd hP.1 q)
            exact TAIL _ hP.2
    by_cases q21 : (xs (nI i).toNatClampNeg &&& 31) = (21 : Int32)
    · refine v_tabEq (tgt := 771) R dL_law_32 (21 : Int32) q21 (by decide) (by decide) rfl (by decide) ?_
      refine v_aload_1 R dL_law_771 ?_
      refine v_aload_0 R dL_law_772 ?_
      refine v_iload_3 R dL_law_773 ?_
      refine v_iconst R dL_law_774 (v := (1 : Int32)) (by decide) ?_
      refine v_iadd R dL_law_775 ?_
      refine SL _ _ _ _ _ dL_law_776 hv1 ?_
      refine v_aload_0 R dL_law_777 ?_
      refine v_iload_3 R dL_law_778 ?_
      refine v_iconst R dL_law_779 (v := (2 : Int32)) (by decide) ?_
      refine v_iadd R dL_law_780 ?_
      refine SL _ _ _ _ _ dL_law_781 hv2 ?_
      refine cV2_iw R dL_law_782 (c_Fe_write (G21 _ _ _ hRel)) rc_Fe ml_L_101 mv_Fe_write (by decide) (Nat.le_of_ble_eq_true rfl) (fun v1 h1 hP => ?_)
      refine v_aload_2 R dL_law_785 ?_
      refine v_aload_0 R dL_law_786 ?_
      refine v_iload_3 R dL_law_787 ?_
      refine v_iconst R dL_law_788 (v := (1 : Int32)) (by decide) ?_
      refine v_iadd R dL_law_789 ?_
      refine SL _ _ _ _ _ dL_law_790 hv1 ?_
      refine v_aload_0 R dL_law_791 ?_
      refine v_iload_3 R dL_law_792 ?_
      refine v_iconst R dL_law_793 (v := (2 : Int32)) (by decide) ?_
      refine v_iadd R dL_law_794 ?_
      refine SL _ _ _ _ _ dL_law_795 hv2 ?_
      refine cV2_iw R dL_law_796 (c_Md_write hP) rc_Md ml_L_104 mv_Md_write (by decide) (Nat.le_of_ble_eq_true rfl) (fun v2 h2 hP => ?_)
      refine v_icmp_eq (tgt := 899) R dL_law_799 (by decide) (fun q => ?_) (fun q => absurd hP.1 q)
      exact TAIL _ hP.2
    by_cases q22 : (xs (nI i).toNatClampNeg &&& 31) = (22 : Int32)
    · refine v_tabEq (tgt := 804) R dL_law_32 (22 : Int32) q22 (by decide) (by decide) rfl (by decide) ?_
      refine v_aload_1 R dL_law_804 ?_
      refine cV0_iw R dL_law_805 (c_Fe_tear (G22 _ hRel)) rc_Fe ml_L_105 mv_Fe_tear (by decide) (Nat.le_of_ble_eq_true rfl) (fun v1 h1 hP => ?_)
      refine v_aload_2 R dL_law_808 ?_
      refine cV0_iw R dL_law_809 (c_Md_tear hP) rc_Md ml_L_108 mv_Md_tear (by decide) (Nat.le_of_ble_eq_true rfl) (fun v2 h2 hP => ?_)
      refine v_icmp_eq (tgt := 899) R dL_law_812 (by decide) (fun q => ?_) (fun q => absurd hP.1 q)
      exact TAIL _ hP.2
    by_cases q23 : (xs (nI i).toNatClampNeg &&& 31) = (23 : Int32)
    · refine v_tabEq (tgt := 817) R dL_law_32 (23 : Int32) q23 (by decide) (by decide) rfl (by decide) ?_
      refine v_aload_1 R dL_law_817 ?_
      refine cV0_ir R dL_law_818 (c_Fe_judge (G23 _ hRel)) rc_Fe ml_L_109 mv_Fe_judge (by decide) (Nat.le_of_ble_eq_true rfl) (fun v1 hP => ?_)
      refine v_aload_2 R dL_law_821 ?_
      refine cV0_ir R dL_law_822 (c_Md_judge hP) rc_Md ml_L_112 mv_Md_judge (by decide) (Nat.le_of_ble_eq_true rfl) (fun v2 hP => ?_)
      refine v_icmp_eq (tgt := 899) R dL_law_825 (by decide) (fun q => ?_) (fun q => absurd hP.1 q)
      exact TAIL _ hP.2
    by_cases q24 : (xs (nI i).toNatClampNeg &&& 31) = (24 : Int32)
    · refine v_tabEq (tgt := 830) R dL_law_32 (24 : Int32) q24 (by decide) (by decide) rfl (by decide) ?_
      refine v_aload_1 R dL_law_830 ?_
      refine v_aload_0 R dL_law_831 ?_
      refine v_iload_3 R dL_law_832 ?_
      refine v_iconst R dL_law_833 (v := (1 : Int32)) (by decide) ?_
      refine v_iadd R dL_law_834 ?_
      refine SL _ _ _ _ _ dL_law_835 hv1 ?_
      refine cV1_iw R dL_law_836 (c_Fe_seed (G24 _ _ hRel)) rc_Fe ml_L_113 mv_Fe_seed (by decide) (Nat.le_of_ble_eq_true rfl) (fun v1 h1 hP => ?_)
      refine v_aload_2 R dL_law_839 ?_
      refine v_aload_0 R dL_law_840 ?_
      refine v_iload_3 R dL_law_841 ?_
      refine v_iconst R dL_law_842 (v := (1 : Int32)) (by decide) ?_
      refine v_iadd R dL_law_843 ?_
      refine SL _ _ _ _ _ dL_law_844 hv1 ?_
      refine cV1_iw R dL_law_845 (c_Md_seed hP) rc_Md ml_L_116 mv_Md_seed (by decide) (Nat.le_of_ble_eq_true rfl) (fun v2 h2 hP => ?_)
      refine v_icmp_eq (tgt := 899) R dL_law_848 (by decide) (fun q => ?_) (fun q => absurd hP.1 q)
      exact TAIL _ hP.2
    by_cases q25 : (xs (nI i).toNatClampNeg &&& 31) = (25 : Int32)
    · refine v_tabEq (tgt := 853) R dL_law_32 (25 : Int32) q25 (by decide) (by decide) rfl (by decide) ?_
      refine v_aload_1 R dL_law_853 ?_
      refine v_aload_0 R dL_law_854 ?_
      refine v_iload_3 R dL_law_855 ?_
      refine v_iconst R dL_law_856 (v := (1 : Int32)) (by decide) ?_
      refine v_iadd R dL_law_857 ?_
      refine SL _ _ _ _ _ dL_law_858 hv1 ?_
      refine cV1_iw R dL_law_859 (c_Fe_keep (G25 _ _ hRel)) rc_Fe ml_L_117 mv_Fe_keep (by decide) (Nat.le_of_ble_eq_true rfl) (fun v1 h1 hP => ?_)
      refine v_aload_2 R dL_law_862 ?_
      refine v_aload_0 R dL_law_863 ?_
      refine v_iload_3 R dL_law_864 ?_
      refine v_iconst R dL_law_865 (v := (1 : Int32)) (by decide) ?_
      refine v_iadd R dL_law_866 ?_
      refine SL _ _ _ _ _ dL_law_867 hv1 ?_
      refine cV1_iw R dL_law_868 (c_Md_keep hP) rc_Md ml_L_120 mv_Md_keep (by decide) (Nat.le_of_ble_eq_true rfl) (fun v2 h2 hP => ?_)
      refine v_icmp_eq (tgt := 899) R dL_law_871 (by decide) (fun q => ?_) (fun q => absurd hP.1 q)
      exact TAIL _ hP.2
    by_cases q26 : (xs (nI i).toNatClampNeg &&& 31) = (26 : Int32)
    · refine v_tabEq (tgt := 876) R dL_law_32 (26 : Int32) q26 (by decide) (by decide) rfl (by decide) ?_
      refine v_aload_1 R dL_law_876 ?_
      refine v_aload_0 R dL_law_877 ?_
      refine v_iload_3 R dL_law_878 ?_
      refine v_iconst R dL_law_879 (v := (1 : Int32)) (by decide) ?_
      refine v_iadd R dL_law_880 ?_
      refine SL _ _ _ _ _ dL_law_881 hv1 ?_
      refine cV1_iw R dL_law_882 (c_Fe_goBack (G26 _ _ hRel)) rc_Fe ml_L_121 mv_Fe_goBack (by decide) (Nat.le_of_ble_eq_true rfl) (fun v1 h1 hP => ?_)
      refine v_aload_2 R dL_law_885 ?_
      refine v_aload_0 R dL_law_886 ?_
      refine v_iload_3 R dL_law_887 ?_
      refine v_iconst R dL_law_888 (v := (1 : Int32)) (by decide) ?_
      refine v_iadd R dL_law_889 ?_
      refine SL _ _ _ _ _ dL_law_890 hv1 ?_
      refine cV1_iw R dL_law_891 (c_Md_goBack hP) rc_Md ml_L_124 mv_Md_goBack (by decide) (Nat.le_of_ble_eq_true rfl) (fun v2 h2 hP => ?_)
      refine v_icmp_eq (tgt := 899) R dL_law_894 (by decide) (fun q => ?_) (fun q => absurd hP.1 q)
      exact TAIL _ hP.2
    refine v_tabDf (tgt := 899) R dL_law_32 (by have e0 := lv_neT (a := 0) q0 rfl; have e1 := lv_neT (a := 1) q1 rfl; have e2 := lv_neT (a := 2) q2 rfl; have e3 := lv_neT (a := 3) q3 rfl; have e4 := lv_neT (a := 4) q4 rfl; have e5 := lv_neT (a := 5) q5 rfl; have e6 := lv_neT (a := 6) q6 rfl; have e7 := lv_neT (a := 7) q7 rfl; have e8 := lv_neT (a := 8) q8 rfl; have e9 := lv_neT (a := 9) q9 rfl; have e10 := lv_neT (a := 10) q10 rfl; have e11 := lv_neT (a := 11) q11 rfl; have e12 := lv_neT (a := 12) q12 rfl; have e13 := lv_neT (a := 13) q13 rfl; have e14 := lv_neT (a := 14) q14 rfl; have e15 := lv_neT (a := 15) q15 rfl; have e16 := lv_neT (a := 16) q16 rfl; have e17 := lv_neT (a := 17) q17 rfl; have e18 := lv_neT (a := 18) q18 rfl; have e19 := lv_neT (a := 19) q19 rfl; have e20 := lv_neT (a := 20) q20 rfl; have e21 := lv_neT (a := 21) q21 rfl; have e22 := lv_neT (a := 22) q22 rfl; have e23 := lv_neT (a := 23) q23 rfl; have e24 := lv_neT (a := 24) q24 rfl; have e25 := lv_neT (a := 25) q25 rfl; have e26 := lv_neT (a := 26) q26 rfl; omega) (by decide) ?_
    exact TAIL h hRel
