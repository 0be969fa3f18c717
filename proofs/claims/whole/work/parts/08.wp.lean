def wp_Reading_add (p0 : Int32) (h : Hp) (P : Bool → Hp → Prop) : Prop := (((h.1 1 1) < 0) → P false h) ∧ ((¬ (h.1 1 1) < 0) → (((h.1 1 1) < (240 : Int32)) → (vp_in (h.1 1 1) 240) ∧ lt (wi h 67 ((h.1 1 1)).toNatClampNeg p0) fun (h28 : Hp) => lt (wi h28 1 1 ((h28.1 1 1) + (1 : Int32))) fun (h36 : Hp) => P true h36) ∧ ((¬ (h.1 1 1) < (240 : Int32)) → P false h))

def wp_Fe_feed (p0 : Int32) (h : Hp) (P : Int32 → Hp → Prop) : Prop := ((p0 < 0) → P (-1000000002 : Int32) h) ∧ ((¬ p0 < 0) → ((p0 ≤ (255 : Int32)) → wp_Reading_add p0 h (fun (v19 : Bool) (h19 : Hp) => ((¬ v19 = true) → P (-1000000004 : Int32) h19) ∧ ((v19 = true) → P (h19.1 1 1) h19))) ∧ ((¬ p0 ≤ (255 : Int32)) → P (-1000000002 : Int32) h))

def wp_Reading_letterAt (p0 : Int32) (h : Hp) (P : Int32 → Prop) : Prop := ((p0 < 0) → P (-1 : Int32)) ∧ ((¬ p0 < 0) → (((h.1 1 1) ≤ p0) → P (-1 : Int32)) ∧ ((¬ (h.1 1 1) ≤ p0) → (((240 : Int32) ≤ p0) → P (-1 : Int32)) ∧ ((¬ (240 : Int32) ≤ p0) → (vp_in p0 240) ∧ P (h.1 67 (p0).toNatClampNeg))))

def lp_Reading_upNext_0 : Nat → Hp → (Hp → Prop) → Prop
  | 0, _, _ => False
  | n + 1, h, E => (((h.1 1 1) ≤ (h.1 1 8)) → E h) ∧ ((¬ (h.1 1 1) ≤ (h.1 1 8)) → (((240 : Int32) ≤ (h.1 1 8)) → E h) ∧ ((¬ (240 : Int32) ≤ (h.1 1 8)) → (vp_in (h.1 1 8) 240) ∧ ((¬ (h.1 67 ((h.1 1 8)).toNatClampNeg) = (32 : Int32)) → E h) ∧ (((h.1 67 ((h.1 1 8)).toNatClampNeg) = (32 : Int32)) → lt (wi h 1 8 ((h.1 1 8) + (1 : Int32))) fun (h42 : Hp) => lp_Reading_upNext_0 n h42 E)))
def wp_Reading_upNext  (h : Hp) (P : Int32 → Hp → Prop) : Prop := ∃ n0, lp_Reading_upNext_0 n0 h (fun (h0x : Hp) => wp_Reading_letterAt (h0x.1 1 8) h0x (fun (v53 : Int32) => P v53 h0x))

def wp_Reading_blame (p0 : Int32) (p1 : Int32) (h : Hp) (P : Hp → Prop) : Prop := lt (wi h 1 2 p0) fun (h2 : Hp) => lt (wi h2 1 3 p1) fun (h7 : Hp) => P h7

def wp_Reading_takeWord (p0 : Int32) (h : Hp) (P : Bool → Hp → Prop) : Prop := wp_Reading_upNext h (fun (v1 : Int32) (h1 : Hp) => ((v1 = p0) → lt (wi h1 1 8 ((h1.1 1 8) + (1 : Int32))) fun (h26 : Hp) => P true h26) ∧ ((¬ v1 = p0) → wp_Reading_blame (1 : Int32) (h1.1 1 8) h1 (fun (h14 : Hp) => P false h14)))

def wp_Reading_isFigure (p0 : Int32) (P : Bool → Prop) : Prop := ((p0 < (48 : Int32)) → P false) ∧ ((¬ p0 < (48 : Int32)) → (((57 : Int32) < p0) → P false) ∧ ((¬ (57 : Int32) < p0) → P true))

def lp_Reading_takeNumberWithin_34 : Nat → Int32 → Int32 → Hp → (Hp → Prop) → Prop
  | 0, _, _, _, _ => False
  | n + 1, a1, a2, h, E => (((h.1 1 1) ≤ (h.1 1 8)) → E h) ∧ ((¬ (h.1 1 1) ≤ (h.1 1 8)) → wp_Reading_letterAt (h.1 1 8) h (fun (v50 : Int32) => wp_Reading_isFigure v50 (fun (v53 : Bool) => ((¬ v53 = true) → E h) ∧ ((v53 = true) → wp_Reading_letterAt (h.1 1 8) h (fun (v72 : Int32) => lt (wi h 1 9 ((((h.1 1 9) * (10 : Int32)) + v72) - (48 : Int32))) fun (h79 : Hp) => lt (wi h79 1 8 ((h79.1 1 8) + (1 : Int32))) fun (h89 : Hp) => lp_Reading_takeNumberWithin_34 n a1 a2 h89 E)))))
def wp_Reading_takeNumberWithin (p0 : Int32) (p1 : Int32) (h : Hp) (P : Bool → Hp → Prop) : Prop := wp_Reading_upNext h (fun (v1 : Int32) (h1 : Hp) => wp_Reading_isFigure v1 (fun (v4 : Bool) => ((v4 = true) → lt (wi h1 1 9 (0 : Int32)) fun (h23 : Hp) => lt (wi h23 1 10 (h23.1 1 8)) fun (h31 : Hp) => ∃ n34, lp_Reading_takeNumberWithin_34 n34 p0 p1 h31 (fun (h34x : Hp) => jn (τ := Prop) (wp_Reading_blame (2 : Int32) (h34x.1 1 10) h34x (fun (h130 : Hp) => P false h130)) (fun J124 => (((3 : Int32) < ((h34x.1 1 8) - (h34x.1 1 10))) → J124) ∧ ((¬ (3 : Int32) < ((h34x.1 1 8) - (h34x.1 1 10))) → (((h34x.1 1 9) < p0) → J124) ∧ ((¬ (h34x.1 1 9) < p0) → (((h34x.1 1 9) ≤ p1) → P true h34x) ∧ ((¬ (h34x.1 1 9) ≤ p1) → J124)))))) ∧ ((¬ v4 = true) → wp_Reading_blame (1 : Int32) (h1.1 1 8) h1 (fun (h16 : Hp) => P false h16))))

def wp_Reading_isNew (p0 : Int32) (h : Hp) (P : Bool → Hp → Prop) : Prop := ((¬ p0 = 0) → (p0 = 0 ∨ p0 = 1) ∧ P (p0 == 1) h) ∧ ((p0 = 0) → wp_Reading_blame (4 : Int32) (h.1 1 10) h (fun (h10 : Hp) => (p0 = 0 ∨ p0 = 1) ∧ P (p0 == 1) h10))

def lp_Reading_readOrder_14 : Nat → Int32 → Int32 → Hp → (Hp → Prop) → (Hp → Prop) → Prop
  | 0, _, _, _, _, _ => False
  | n + 1, a1, a2, h, E, P => (((5 : Int32) ≤ a2) → E h) ∧ ((¬ (5 : Int32) ≤ a2) → wp_Reading_takeNumberWithin (0 : Int32) (4 : Int32) h (fun (v22 : Bool) (h22 : Hp) => ((¬ v22 = true) → P h22) ∧ ((v22 = true) → jn (fun (z45_1 : Int32) => wp_Reading_isNew z45_1 h22 (fun (v45 : Bool) (h45 : Hp) => ((v45 = true) → lt ((a1 ||| ((1 : Int32) <<< ((h45.1 1 9) &&& 31)))) fun (x60 : Int32) => (vp_in a2 5) ∧ lt (wi h45 68 (a2).toNatClampNeg (h45.1 1 9)) fun (h70 : Hp) => lt (wi h70 1 4 (a2 + (1 : Int32))) fun (h75 : Hp) => jn (fun (z103_0 : Int32) => wp_Reading_upNext h75 (fun (v105 : Int32) (h105 : Hp) => jn (fun (z126_0 : Int32) => jn (fun (z148_0 : Int32) => jn (τ := Prop) (lt (wi h105 1 8 ((h105.1 1 8) + (1 : Int32))) fun (h177 : Hp) => ((z126_0 = 0) → lt (a2 + (1 : Int32)) fun (x186 : Int32) => lp_Reading_readOrder_14 n x60 x186 h177 E P) ∧ ((¬ z126_0 = 0) → P h177)) (fun J170 => ((¬ z126_0 = 0) → J170) ∧ ((z126_0 = 0) → ((¬ z148_0 = 0) → J170) ∧ ((z148_0 = 0) → wp_Reading_blame (1 : Int32) (h105.1 1 8) h105 (fun (h166 : Hp) => P h166))))) (fun J148 => jn (τ := Prop) (J148 (0 : Int32)) (fun J147 => ((¬ v105 = (44 : Int32)) → J147) ∧ ((v105 = (44 : Int32)) → (((5 : Int32) ≤ (h105.1 1 4)) → J147) ∧ ((¬ (5 : Int32) ≤ (h105.1 1 4)) → J148 (1 : Int32)))))) (fun J126 => jn (τ := Prop) (J126 (0 : Int32)) (fun J125 => ((¬ v105 = (59 : Int32)) → J125) ∧ ((v105 = (59 : Int32)) → ((z103_0 = 0) → J125) ∧ ((¬ z103_0 = 0) → J126 (1 : Int32))))))) (fun J103 => jn (τ := Prop) (J103 (0 : Int32)) (fun J102 => (((h75.1 1 4) < (2 : Int32)) → J102) ∧ ((¬ (h75.1 1 4) < (2 : Int32)) → ((¬ x60 = (((1 : Int32) <<< ((h75.1 1 4) &&& 31)) - (1 : Int32))) → J102) ∧ ((x60 = (((1 : Int32) <<< ((h75.1 1 4) &&& 31)) - (1 : Int32))) → J103 (1 : Int32)))))) ∧ ((¬ v45 = true) → P h45))) (fun J45 => ((¬ ((a1 >>> ((h22.1 1 9) &&& 31)) &&& (1 : Int32)) = 0) → J45 (0 : Int32)) ∧ ((((a1 >>> ((h22.1 1 9) &&& 31)) &&& (1 : Int32)) = 0) → J45 (1 : Int32))))))
def wp_Reading_readOrder  (h : Hp) (P : Hp → Prop) : Prop := wp_Reading_takeWord (99 : Int32) h (fun (v3 : Bool) (h3 : Hp) => ((v3 = true) → ∃ n14, lp_Reading_readOrder_14 n14 (0 : Int32) (0 : Int32) h3 (fun (h14x : Hp) => P h14x) P) ∧ ((¬ v3 = true) → P h3))

def wp_Fe_part (p0 : Int32) (p1 : Int32) (P : Int32 → Prop) : Prop := P ((p0 >>> (((3 : Int32) * p1) &&& 31)) &&& (7 : Int32))

def wp_Fe_withPart (p0 : Int32) (p1 : Int32) (p2 : Int32) (P : Int32 → Prop) : Prop := P ((p0 &&& (((7 : Int32) <<< (((3 : Int32) * p1) &&& 31)) ^^^ (-1 : Int32))) ||| (p2 <<< (((3 : Int32) * p1) &&& 31)))

def wp_Reading_readKind  (h : Hp) (P : Hp → Prop) : Prop := wp_Reading_takeNumberWithin (0 : Int32) ((h.1 1 4) - (1 : Int32)) h (fun (v8 : Bool) (h8 : Hp) => ((¬ v8 = true) → P h8) ∧ ((v8 = true) → wp_Fe_part (h8.1 1 6) (h8.1 1 9) (fun (v23 : Int32) => jn (fun (z34_1 : Int32) => wp_Reading_isNew z34_1 h8 (fun (v34 : Bool) (h34 : Hp) => ((v34 = true) → lt ((h34.1 1 9)) fun (x45 : Int32) => wp_Reading_takeNumberWithin (1 : Int32) (3 : Int32) h34 (fun (v49 : Bool) (h49 : Hp) => ((¬ v49 = true) → P h49) ∧ ((v49 = true) → wp_Fe_withPart (h49.1 1 6) x45 (h49.1 1 9) (fun (v65 : Int32) => lt (wi h49 1 6 v65) fun (h68 : Hp) => wp_Reading_takeWord (59 : Int32) h68 (fun (v74 : Bool) (h74 : Hp) => P h74))))) ∧ ((¬ v34 = true) → P h34))) (fun J34 => ((¬ v23 = 0) → J34 (0 : Int32)) ∧ ((v23 = 0) → J34 (1 : Int32))))))

def wp_Fe_pairBit (p0 : Int32) (p1 : Int32) (P : Int32 → Prop) : Prop := P ((1 : Int32) <<< ((((5 : Int32) * (jmin p0 p1)) + (jmax p0 p1)) &&& 31))

def wp_Reading_readTouch  (h : Hp) (P : Hp → Prop) : Prop := wp_Reading_takeNumberWithin (0 : Int32) ((h.1 1 4) - (1 : Int32)) h (fun (v8 : Bool) (h8 : Hp) => ((v8 = true) → lt ((h8.1 1 9)) fun (x19 : Int32) => wp_Reading_takeNumberWithin (0 : Int32) ((h8.1 1 4) - (1 : Int32)) h8 (fun (v28 : Bool) (h28 : Hp) => ((v28 = true) → wp_Fe_pairBit x19 (h28.1 1 9) (fun (v40 : Int32) => jn (fun (z67_1 : Int32) => wp_Reading_isNew z67_1 h28 (fun (v67 : Bool) (h67 : Hp) => ((¬ v67 = true) → P h67) ∧ ((v67 = true) → lt (wi h67 1 7 ((h67.1 1 7) ||| v40)) fun (h80 : Hp) => wp_Reading_takeWord (59 : Int32) h80 (fun (v86 : Bool) (h86 : Hp) => P h86)))) (fun J67 => jn (τ := Prop) (J67 (0 : Int32)) (fun J66 => ((x19 = (h28.1 1 9)) → J66) ∧ ((¬ x19 = (h28.1 1 9)) → ((¬ ((h28.1 1 7) &&& v40) = 0) → J66) ∧ ((((h28.1 1 7) &&& v40) = 0) → J67 (1 : Int32))))))) ∧ ((¬ v28 = true) → P h28))) ∧ ((¬ v8 = true) → P h8))

def wp_Reading_readClause  (h : Hp) (P : Hp → Prop) : Prop := wp_Reading_upNext h (fun (v1 : Int32) (h1 : Hp) => ((¬ v1 = (107 : Int32)) → ((¬ v1 = (115 : Int32)) → jn (fun (z63_1 : Int32) => wp_Reading_blame z63_1 (h1.1 1 8) h1 (fun (h67 : Hp) => P h67)) (fun J63 => ((¬ v1 = (99 : Int32)) → J63 (1 : Int32)) ∧ ((v1 = (99 : Int32)) → J63 (3 : Int32)))) ∧ ((v1 = (115 : Int32)) → lt (wi h1 1 8 ((h1.1 1 8) + (1 : Int32))) fun (h41 : Hp) => wp_Reading_readTouch h41 (fun (h45 : Hp) => P h45))) ∧ ((v1 = (107 : Int32)) → lt (wi h1 1 8 ((h1.1 1 8) + (1 : Int32))) fun (h18 : Hp) => wp_Reading_readKind h18 (fun (h22 : Hp) => P h22)))

def lp_Reading_read_44 : Nat → Int32 → Hp → (Hp → Prop) → Prop
  | 0, _, _, _ => False
  | n + 1, a1, h, E => (((240 : Int32) ≤ a1) → E h) ∧ ((¬ (240 : Int32) ≤ a1) → ((¬ (h.1 1 2) = 0) → E h) ∧ (((h.1 1 2) = 0) → wp_Reading_upNext h (fun (v59 : Int32) (h59 : Hp) => ((v59 = (-1 : Int32)) → E h59) ∧ ((¬ v59 = (-1 : Int32)) → wp_Reading_readClause h59 (fun (h67 : Hp) => lt (a1 + (1 : Int32)) fun (x70 : Int32) => lp_Reading_read_44 n x70 h67 E)))))
def wp_Reading_read  (h : Hp) (P : Hp → Prop) : Prop := lt (wi h 1 8 (0 : Int32)) fun (h2 : Hp) => lt (wi h2 1 4 (0 : Int32)) fun (h7 : Hp) => lt (wi h7 1 6 (0 : Int32)) fun (h12 : Hp) => lt (wi h12 1 7 (0 : Int32)) fun (h17 : Hp) => lt (wi h17 1 2 (0 : Int32)) fun (h22 : Hp) => lt (wi h22 1 3 (-1 : Int32)) fun (h27 : Hp) => wp_Reading_upNext h27 (fun (v31 : Int32) (h31 : Hp) => jn (fun (h76 : Hp) => lt (wi h76 1 1 (0 : Int32)) fun (h78 : Hp) => P h78) (fun J76 => ((v31 = (-1 : Int32)) → J76 h31) ∧ ((¬ v31 = (-1 : Int32)) → wp_Reading_readOrder h31 (fun (h39 : Hp) => ∃ n44, lp_Reading_read_44 n44 (0 : Int32) h39 (fun (h44x : Hp) => J76 h44x)))))

def wp_State_begin (r : Nat) (p0 : Int32) (p1 : Int32) (h : Hp) (P : Hp → Prop) : Prop := lt (wi h r 0 p0) fun (h2 : Hp) => lt (wi h2 r 1 p1) fun (h7 : Hp) => lt (wi h7 r 2 (0 : Int32)) fun (h12 : Hp) => lt (wi h12 r 3 (0 : Int32)) fun (h17 : Hp) => lt (wi h17 r 4 (0 : Int32)) fun (h22 : Hp) => lt (wi h22 r 5 (0 : Int32)) fun (h27 : Hp) => lt (wi h27 r 6 (0 : Int32)) fun (h32 : Hp) => lt (wi h32 r 7 (0 : Int32)) fun (h37 : Hp) => P h37

def wp_Past_clear  (h : Hp) (P : Hp → Prop) : Prop := lt (wi h 2 1 (0 : Int32)) fun (h2 : Hp) => lt (wi h2 2 2 (0 : Int32)) fun (h7 : Hp) => P h7

def lp_Fe_cable_86 : Nat → Int32 → Hp → (Hp → Prop) → Prop
  | 0, _, _, _ => False
  | n + 1, a1, h, E => (((2 : Int32) ≤ a1) → E h) ∧ ((¬ (2 : Int32) ≤ a1) → (vp_in a1 2) ∧ lt (wi h (8 + (a1).toNatClampNeg) 2 (0 : Int32)) fun (h98 : Hp) => lt (a1 + (1 : Int32)) fun (x101 : Int32) => lp_Fe_cable_86 n x101 h98 E)
def wp_Fe_cable  (h : Hp) (P : Int32 → Hp → Prop) : Prop := wp_Reading_read h (fun (h4 : Hp) => (((h4.1 1 2) = 0) → lt (wi h4 0 1 (h4.1 1 4)) fun (h36 : Hp) => lt (wc h36 68 69 ((5 : Int32)).toNatClampNeg) fun (h53 : Hp) => wp_State_begin 26 (h53.1 1 6) (h53.1 1 7) h53 (fun (h74 : Hp) => wp_Past_clear h74 (fun (h81 : Hp) => ∃ n86, lp_Fe_cable_86 n86 (0 : Int32) h81 (fun (h86x : Hp) => lt (wi h86x 0 8 (0 : Int32)) fun (h109 : Hp) => lt (wi h109 0 11 (0 : Int32)) fun (h114 : Hp) => P (h114.1 0 1) h114)))) ∧ ((¬ (h4.1 1 2) = 0) → P ((-10 : Int32) - (h4.1 1 2)) h4))

def wp_Fe_fault  (h : Hp) (P : Int32 → Prop) : Prop := P (h.1 1 3)

def wp_Int_bitCount (p0 : Int32) (P : Int32 → Prop) : Prop := lt ((p0 - ((iush p0 (1 : Int32)) &&& (1431655765 : Int32)))) fun (x9 : Int32) => lt (((x9 &&& (858993459 : Int32)) + ((iush x9 (2 : Int32)) &&& (858993459 : Int32)))) fun (x23 : Int32) => lt (((x23 + (iush x23 (4 : Int32))) &&& (252645135 : Int32))) fun (x33 : Int32) => lt ((x33 + (iush x33 (8 : Int32)))) fun (x40 : Int32) => lt ((x40 + (iush x40 (16 : Int32)))) fun (x47 : Int32) => P (x47 &&& (63 : Int32))

def lp_Nets_merge_41 : Nat → Nat → Int32 → Int32 → Hp → (Hp → Prop) → Prop
  | 0, _, _, _, _, _ => False
  | n + 1, e0, a3, a4, h, E => (((Int32.ofNat (al e0)) ≤ a4) → E h) ∧ ((¬ (Int32.ofNat (al e0)) ≤ a4) → jn (fun (h62 : Hp) => lt (a4 + (1 : Int32)) fun (x62 : Int32) => lp_Nets_merge_41 n e0 a3 x62 h62 E) (fun J62 => ((((a3 >>> (a4 &&& 31)) &&& (1 : Int32)) = 0) → J62 h) ∧ ((¬ ((a3 >>> (a4 &&& 31)) &&& (1 : Int32)) = 0) → (vp_in a4 (al e0)) ∧ lt (wi h e0 (a4).toNatClampNeg a3) fun (h61 : Hp) => J62 h61)))
def wp_Nets_merge (c0 : Nat) (p1 : Int32) (p2 : Int32) (h : Hp) (P : Hp → Prop) : Prop := ((p1 < 0) → P h) ∧ ((¬ p1 < 0) → (((Int32.ofNat (al c0)) ≤ p1) → P h) ∧ ((¬ (Int32.ofNat (al c0)) ≤ p1) → ((p2 < 0) → P h) ∧ ((¬ p2 < 0) → (((Int32.ofNat (al c0)) ≤ p2) → P h) ∧ ((¬ (Int32.ofNat (al c0)) ≤ p2) → (vp_in p1 (al c0)) ∧ (vp_in p2 (al c0)) ∧ ((¬ (h.1 c0 (p1).toNatClampNeg) = (h.1 c0 (p2).toNatClampNeg)) → (vp_in p1 (al c0)) ∧ (vp_in p2 (al c0)) ∧ lt (((h.1 c0 (p1).toNatClampNeg) ||| (h.1 c0 (p2).toNatClampNeg))) fun (x37 : Int32) => ∃ n41, lp_Nets_merge_41 n41 c0 x37 (0 : Int32) h (fun (h41x : Hp) => P h41x)) ∧ (((h.1 c0 (p1).toNatClampNeg) = (h.1 c0 (p2).toNatClampNeg)) → P h)))))

def wp_Nets_areTied (p0 : Int32) (p1 : Int32) (p2 : Int32) (P : Bool → Prop) : Prop := wp_Fe_part p0 p1 (fun (v2 : Int32) => ((v2 = 0) → P false) ∧ ((¬ v2 = 0) → wp_Fe_part p0 p2 (fun (v13 : Int32) => ((¬ v2 = v13) → P false) ∧ ((v2 = v13) → P true))))

def lp_Nets_lay_3 : Nat → Nat → Int32 → Int32 → Int32 → Int32 → Int32 → Hp → (Hp → Prop) → Prop
  | 0, _, _, _, _, _, _, _, _ => False
  | n + 1, e0, a1, a2, a3, a4, a5, h, E => (((11 : Int32) ≤ a5) → E h) ∧ ((¬ (11 : Int32) ≤ a5) → (vp_in a5 11) ∧ lt (wi h (e0 + 9) (a5).toNatClampNeg ((1 : Int32) <<< (a5 &&& 31))) fun (h20 : Hp) => lt (a5 + (1 : Int32)) fun (x21 : Int32) => lp_Nets_lay_3 n e0 a1 a2 a3 a4 x21 h20 E)
def lp_Nets_lay_63 : Nat → Nat → Int32 → Int32 → Int32 → Int32 → Int32 → Int32 → Hp → (Hp → Prop) → Prop
  | 0, _, _, _, _, _, _, _, _, _ => False
  | n + 1, e0, a1, a2, a3, a4, a5, a6, h, E => (((5 : Int32) ≤ a6) → E h) ∧ ((¬ (5 : Int32) ≤ a6) → wp_Fe_pairBit a5 a6 (fun (v74 : Int32) => jn (fun (h103 : Hp) => wp_Nets_areTied a4 a5 a6 (fun (v109 : Bool) => jn (fun (h130 : Hp) => lt (a6 + (1 : Int32)) fun (x130 : Int32) => lp_Nets_lay_63 n e0 a1 a2 a3 a4 a5 x130 h130 E) (fun J130 => ((¬ v109 = true) → J130 h103) ∧ ((v109 = true) → wp_Nets_merge (e0 + 9) ((5 : Int32) + a5) ((5 : Int32) + a6) h103 (fun (h127 : Hp) => J130 h127))))) (fun J103 => jn (τ := Prop) (wp_Nets_merge (e0 + 9) a5 a6 h (fun (h100 : Hp) => J103 h100)) (fun J92 => ((¬ (a2 &&& v74) = 0) → J92) ∧ (((a2 &&& v74) = 0) → wp_Nets_areTied a3 a5 a6 (fun (v86 : Bool) => ((¬ v86 = true) → J103 h) ∧ ((v86 = true) → J92)))))))
def lp_Nets_lay_30 : Nat → Nat → Int32 → Int32 → Int32 → Int32 → Int32 → Hp → (Hp → Prop) → Prop
  | 0, _, _, _, _, _, _, _, _ => False
  | n + 1, e0, a1, a2, a3, a4, a5, h, E => (((5 : Int32) ≤ a5) → E h) ∧ ((¬ (5 : Int32) ≤ a5) → wp_Fe_part a1 a5 (fun (v39 : Int32) => jn (fun (h57 : Hp) => lt ((a5 + (1 : Int32))) fun (x61 : Int32) => ∃ n63, lp_Nets_lay_63 n63 e0 a1 a2 a3 a4 a5 x61 h57 (fun (h63x : Hp) => lt (a5 + (1 : Int32)) fun (x136 : Int32) => lp_Nets_lay_30 n e0 a1 a2 a3 a4 x136 h63x E)) (fun J57 => ((¬ v39 = (2 : Int32)) → J57 h) ∧ ((v39 = (2 : Int32)) → wp_Nets_merge (e0 + 9) a5 (10 : Int32) h (fun (h54 : Hp) => J57 h54)))))
def wp_Nets_lay (r : Nat) (p0 : Int32) (p1 : Int32) (p2 : Int32) (p3 : Int32) (h : Hp) (P : Hp → Prop) : Prop := ∃ n3, lp_Nets_lay_3 n3 r p0 p1 p2 p3 (0 : Int32) h (fun (h3x : Hp) => ∃ n30, lp_Nets_lay_30 n30 r p0 p1 p2 p3 (0 : Int32) h3x (fun (h30x : Hp) => P h30x))

def lp_Fe_passing_4 : Nat → Int32 → Int32 → Int32 → Int32 → (Int32 → Prop) → Prop
  | 0, _, _, _, _, _ => False
  | n + 1, a0, a1, a2, a3, E => (((5 : Int32) ≤ a3) → E a2) ∧ ((¬ (5 : Int32) ≤ a3) → wp_Fe_part a0 a3 (fun (v11 : Int32) => jn (fun (z44_0 : Int32) => jn (fun (y57_2 : Int32) => lt (a3 + (1 : Int32)) fun (x57 : Int32) => lp_Fe_passing_4 n a0 a1 y57_2 x57 E) (fun J57 => ((z44_0 = 0) → J57 a2) ∧ ((¬ z44_0 = 0) → lt ((a2 ||| ((1 : Int32) <<< (a3 &&& 31)))) fun (x56 : Int32) => J57 x56))) (fun J44 => jn (τ := Prop) (J44 (1 : Int32)) (fun J39 => ((v11 = 0) → J39) ∧ ((¬ v11 = 0) → ((v11 = (2 : Int32)) → J39) ∧ ((¬ v11 = (2 : Int32)) → jn (τ := Prop) (J44 (0 : Int32)) (fun J43 => ((¬ v11 = (3 : Int32)) → J43) ∧ ((v11 = (3 : Int32)) → ((¬ (a1 &&& (1 : Int32)) = 0) → J43) ∧ (((a1 &&& (1 : Int32)) = 0) → J39)))))))))
def wp_Fe_passing (p0 : Int32) (p1 : Int32) (P : Int32 → Prop) : Prop := ∃ n4, lp_Fe_passing_4 n4 p0 p1 (0 : Int32) (0 : Int32) (fun (w4_2 : Int32) => P w4_2)

def lp_Nets_join_18 : Nat → Nat → Nat → Int32 → Int32 → Int32 → Hp → (Hp → Prop) → Prop
  | 0, _, _, _, _, _, _, _ => False
  | n + 1, e0, e1, a2, a3, a4, h, E => ((a2 ≤ a4) → E h) ∧ ((¬ a2 ≤ a4) → (((Int32.ofNat (al e1)) ≤ a4) → E h) ∧ ((¬ (Int32.ofNat (al e1)) ≤ a4) → (vp_in a4 (al e1)) ∧ lt ((h.1 e1 (a4).toNatClampNeg)) fun (x35 : Int32) => jn (fun (h59 : Hp) => lt (a4 + (1 : Int32)) fun (x59 : Int32) => lp_Nets_join_18 n e0 e1 a2 a3 x59 h59 E) (fun J59 => ((((a3 >>> (x35 &&& 31)) &&& (1 : Int32)) = 0) → J59 h) ∧ ((¬ ((a3 >>> (x35 &&& 31)) &&& (1 : Int32)) = 0) → wp_Nets_merge (e0 + 18) x35 ((5 : Int32) + a4) h (fun (h56 : Hp) => J59 h56)))))
def wp_Nets_join (r : Nat) (c0 : Nat) (p1 : Int32) (p2 : Int32) (h : Hp) (P : Hp → Prop) : Prop := lt (wc h (r + 9) (r + 18) ((11 : Int32)).toNatClampNeg) fun (h12 : Hp) => ∃ n18, lp_Nets_join_18 n18 r c0 p1 p2 (0 : Int32) h12 (fun (h18x : Hp) => P h18x)

def wp_Fe_joinAll (p0 : Int32) (h : Hp) (P : Hp → Prop) : Prop := wp_Nets_lay 45 p0 (h.1 26 1) (h.1 26 2) (h.1 26 3) h (fun (h26 : Hp) => wp_Fe_passing p0 (h26.1 26 5) (fun (v49 : Int32) => wp_Nets_join 45 69 (h26.1 0 1) v49 h26 (fun (h52 : Hp) => P h52)))

def wp_Nets_of (r : Nat) (p0 : Int32) (h : Hp) (P : Int32 → Prop) : Prop := ((p0 < 0) → P (0 : Int32)) ∧ ((¬ p0 < 0) → (((11 : Int32) ≤ p0) → P (0 : Int32)) ∧ ((¬ (11 : Int32) ≤ p0) → (vp_in p0 11) ∧ P (h.1 (r + 18) (p0).toNatClampNeg)))

def wp_Nets_areJoined (r : Nat) (p0 : Int32) (p1 : Int32) (h : Hp) (P : Bool → Prop) : Prop := wp_Nets_of r p0 h (fun (v2 : Int32) => ((((v2 >>> (p1 &&& 31)) &&& (1 : Int32)) = 0) → P false) ∧ ((¬ ((v2 >>> (p1 &&& 31)) &&& (1 : Int32)) = 0) → P true))

def lp_Fe_goodWires_15 : Nat → Int32 → Int32 → Hp → (Int32 → Prop) → Prop
  | 0, _, _, _, _ => False
  | n + 1, a1, a2, h, E => (((h.1 0 1) ≤ a2) → E a1) ∧ ((¬ (h.1 0 1) ≤ a2) → (((5 : Int32) ≤ a2) → E a1) ∧ ((¬ (5 : Int32) ≤ a2) → (vp_in a2 5) ∧ lt ((h.1 69 (a2).toNatClampNeg)) fun (x34 : Int32) => wp_Nets_areJoined 45 x34 ((5 : Int32) + a2) h (fun (v43 : Bool) => jn (fun (y55_1 : Int32) => lt (a2 + (1 : Int32)) fun (x55 : Int32) => lp_Fe_goodWires_15 n y55_1 x55 h E) (fun J55 => ((¬ v43 = true) → J55 a1) ∧ ((v43 = true) → lt ((a1 ||| ((1 : Int32) <<< (x34 &&& 31)))) fun (x54 : Int32) => J55 x54)))))
def wp_Fe_goodWires  (h : Hp) (P : Int32 → Hp → Prop) : Prop := wp_Fe_joinAll (h.1 26 0) h (fun (h8 : Hp) => ∃ n15, lp_Fe_goodWires_15 n15 (0 : Int32) (0 : Int32) h8 (fun (w15_1 : Int32) => P w15_1 h8))

def lp_Guess_clear_7 : Nat → Int32 → Hp → (Hp → Prop) → Prop
  | 0, _, _, _ => False
  | n + 1, a1, h, E => (((5 : Int32) ≤ a1) → E h) ∧ ((¬ (5 : Int32) ≤ a1) → (vp_in a1 5) ∧ lt (wi h 73 (a1).toNatClampNeg (0 : Int32)) fun (h18 : Hp) => (vp_in a1 5) ∧ lt (wi h18 74 (a1).toNatClampNeg (-1 : Int32)) fun (h25 : Hp) => lt (a1 + (1 : Int32)) fun (x26 : Int32) => lp_Guess_clear_7 n x26 h25 E)
def lp_Guess_clear_34 : Nat → Int32 → Hp → (Hp → Prop) → Prop
  | 0, _, _, _ => False
  | n + 1, a1, h, E => (((Int32.ofNat (al 75)) ≤ a1) → E h) ∧ ((¬ (Int32.ofNat (al 75)) ≤ a1) → (vp_in a1 25) ∧ lt (wi h 75 (a1).toNatClampNeg (0 : Int32)) fun (h49 : Hp) => lt (a1 + (1 : Int32)) fun (x50 : Int32) => lp_Guess_clear_34 n x50 h49 E)
def wp_Guess_clear  (h : Hp) (P : Hp → Prop) : Prop := lt (wi h 5 0 (0 : Int32)) fun (h2 : Hp) => ∃ n7, lp_Guess_clear_7 n7 (0 : Int32) h2 (fun (h7x : Hp) => ∃ n34, lp_Guess_clear_34 n34 (0 : Int32) h7x (fun (h34x : Hp) => P h34x))

def wp_Seen_lay (r : Nat) (p0 : Int32) (p1 : Int32) (h : Hp) (P : Hp → Prop) : Prop := wp_Nets_lay (r + 8) p0 p1 (h.1 r 0) (h.1 r 1) h (fun (h14 : Hp) => wp_Fe_passing p0 (h14.1 r 2) (fun (v23 : Int32) => lt (wi h14 r 6 v23) fun (h26 : Hp) => P h26))

def lp_Fe_layAllSeen_2 : Nat → Int32 → Hp → (Hp → Prop) → Prop
  | 0, _, _, _ => False
  | n + 1, a1, h, E => (((h.1 0 8) ≤ a1) → E h) ∧ ((¬ (h.1 0 8) ≤ a1) → (((8 : Int32) ≤ a1) → E h) ∧ ((¬ (8 : Int32) ≤ a1) → (vp_in a1 8) ∧ wp_Seen_lay (29 + (a1).toNatClampNeg) (h.1 26 0) (h.1 26 1) h (fun (h36 : Hp) => lt (a1 + (1 : Int32)) fun (x39 : Int32) => lp_Fe_layAllSeen_2 n x39 h36 E)))
def wp_Fe_layAllSeen  (h : Hp) (P : Hp → Prop) : Prop := ∃ n2, lp_Fe_layAllSeen_2 n2 (0 : Int32) h (fun (h2x : Hp) => P h2x)

def lp_Orders_start_2 : Nat → Int32 → Hp → (Hp → Prop) → Prop
  | 0, _, _, _ => False
  | n + 1, a1, h, E => (((5 : Int32) ≤ a1) → E h) ∧ ((¬ (5 : Int32) ≤ a1) → (vp_in a1 5) ∧ lt (wi h 72 (a1).toNatClampNeg a1) fun (h13 : Hp) => lt (a1 + (1 : Int32)) fun (x14 : Int32) => lp_Orders_start_2 n x14 h13 E)
def wp_Orders_start  (h : Hp) (P : Hp → Prop) : Prop := ∃ n2, lp_Orders_start_2 n2 (0 : Int32) h (fun (h2x : Hp) => P h2x)

def wp_Fe_factorial (p0 : Int32) (h : Hp) (P : Int32 → Prop) : Prop := ((p0 < 0) → P (0 : Int32)) ∧ ((¬ p0 < 0) → (((Int32.ofNat 6) ≤ p0) → P (0 : Int32)) ∧ ((¬ (Int32.ofNat 6) ≤ p0) → (vp_in p0 6) ∧ P (fac (p0).toNatClampNeg)))

def wp_Fe_countOrders  (h : Hp) (P : Int32 → Prop) : Prop := ((¬ (h.1 0 1) = 0) → wp_Fe_factorial (h.1 0 1) h (fun (v15 : Int32) => P v15)) ∧ (((h.1 0 1) = 0) → P (0 : Int32))

def wp_Seen_fits (r : Nat) (c0 : Nat) (p1 : Int32) (h : Hp) (P : Bool → Hp → Prop) : Prop := wp_Nets_join (r + 8) c0 p1 (h.1 r 6) h (fun (h10 : Hp) => wp_Nets_areJoined (r + 8) (h10.1 r 3) (h10.1 r 4) h10 (fun (v25 : Bool) => ((¬ (bI v25) = (h10.1 r 5)) → P false h10) ∧ (((bI v25) = (h10.1 r 5)) → P true h10)))

def lp_Fe_fitsAllSeen_2 : Nat → Int32 → Hp → (Hp → Prop) → (Bool → Hp → Prop) → Prop
  | 0, _, _, _, _ => False
  | n + 1, a1, h, E, P => (((h.1 0 8) ≤ a1) → E h) ∧ ((¬ (h.1 0 8) ≤ a1) → (((8 : Int32) ≤ a1) → E h) ∧ ((¬ (8 : Int32) ≤ a1) → (vp_in a1 8) ∧ wp_Seen_fits (29 + (a1).toNatClampNeg) 72 (h.1 0 1) h (fun (v33 : Bool) (h33 : Hp) => ((v33 = true) → lt (a1 + (1 : Int32)) fun (x41 : Int32) => lp_Fe_fitsAllSeen_2 n x41 h33 E P) ∧ ((¬ v33 = true) → P false h33))))
def wp_Fe_fitsAllSeen  (h : Hp) (P : Bool → Hp → Prop) : Prop := ∃ n2, lp_Fe_fitsAllSeen_2 n2 (0 : Int32) h (fun (h2x : Hp) => P true h2x) P

def lp_Guess_add_2 : Nat → Nat → Int32 → Int32 → Hp → (Hp → Prop) → Prop
  | 0, _, _, _, _, _ => False
  | n + 1, e1, a2, a3, h, E => ((a2 ≤ a3) → E h) ∧ ((¬ a2 ≤ a3) → (((5 : Int32) ≤ a3) → E h) ∧ ((¬ (5 : Int32) ≤ a3) → (vp_in a3 5) ∧ (vp_in a3 (al e1)) ∧ (vp_in a3 5) ∧ lt (wi h 73 (a3).toNatClampNeg ((h.1 73 (a3).toNatClampNeg) ||| ((1 : Int32) <<< ((h.1 e1 (a3).toNatClampNeg) &&& 31)))) fun (h25 : Hp) => jn (fun (h42 : Hp) => lt (a3 + (1 : Int32)) fun (x42 : Int32) => lp_Guess_add_2 n e1 a2 x42 h42 E) (fun J42 => ((¬ (h25.1 5 0) = 0) → J42 h25) ∧ (((h25.1 5 0) = 0) → (vp_in a3 (al e1)) ∧ (vp_in a3 5) ∧ lt (wi h25 74 (a3).toNatClampNeg (h25.1 e1 (a3).toNatClampNeg)) fun (h41 : Hp) => J42 h41))))
def wp_Guess_add (c0 : Nat) (p1 : Int32) (h : Hp) (P : Hp → Prop) : Prop := ∃ n2, lp_Guess_add_2 n2 c0 p1 (0 : Int32) h (fun (h2x : Hp) => lt (wi h2x 5 0 ((h2x.1 5 0) + (1 : Int32))) fun (h55 : Hp) => P h55)

def wp_Orders_swap (p0 : Int32) (p1 : Int32) (h : Hp) (P : Hp → Prop) : Prop := (vp_in p0 5) ∧ lt ((h.1 72 (p0).toNatClampNeg)) fun (x6 : Int32) => (vp_in p1 5) ∧ (vp_in p0 5) ∧ lt (wi h 72 (p0).toNatClampNeg (h.1 72 (p1).toNatClampNeg)) fun (h18 : Hp) => (vp_in p1 5) ∧ lt (wi h18 72 (p1).toNatClampNeg x6) fun (h25 : Hp) => P h25

def lp_Orders_advance_10 : Nat → Int32 → Int32 → Hp → (Int32 → Prop) → Prop
  | 0, _, _, _, _ => False
  | n + 1, a2, a3, h, E => ((a3 < 0) → E a3) ∧ ((¬ a3 < 0) → (vp_in a3 5) ∧ (vp_in (a3 + (1 : Int32)) 5) ∧ (((h.1 72 (a3).toNatClampNeg) ≤ (h.1 72 ((a3 + (1 : Int32))).toNatClampNeg)) → E a3) ∧ ((¬ (h.1 72 (a3).toNatClampNeg) ≤ (h.1 72 ((a3 + (1 : Int32))).toNatClampNeg)) → lt (a3 + (-1 : Int32)) fun (x31 : Int32) => lp_Orders_advance_10 n a2 x31 h E))
def lp_Orders_advance_47 : Nat → Int32 → Int32 → Int32 → Hp → (Int32 → Prop) → Prop
  | 0, _, _, _, _, _ => False
  | n + 1, a2, a3, a4, h, E => ((a4 ≤ (a3 + (1 : Int32))) → E a4) ∧ ((¬ a4 ≤ (a3 + (1 : Int32))) → (vp_in a4 5) ∧ (vp_in a3 5) ∧ (((h.1 72 (a3).toNatClampNeg) ≤ (h.1 72 (a4).toNatClampNeg)) → E a4) ∧ ((¬ (h.1 72 (a3).toNatClampNeg) ≤ (h.1 72 (a4).toNatClampNeg)) → lt (a4 + (-1 : Int32)) fun (x71 : Int32) => lp_Orders_advance_47 n a2 a3 x71 h E))
def lp_Orders_advance_94 : Nat → Int32 → Int32 → Hp → (Hp → Prop) → Prop
  | 0, _, _, _, _ => False
  | n + 1, a5, a6, h, E => ((a6 ≤ a5) → E h) ∧ ((¬ a6 ≤ a5) → wp_Orders_swap a5 a6 h (fun (h106 : Hp) => lt (a5 + (1 : Int32)) fun (x109 : Int32) => lt (a6 + (-1 : Int32)) fun (x112 : Int32) => lp_Orders_advance_94 n x109 x112 h106 E))
def wp_Orders_advance (p0 : Int32) (h : Hp) (P : Hp → Prop) : Prop := lt ((jmin p0 (5 : Int32))) fun (x5 : Int32) => lt ((x5 - (2 : Int32))) fun (x9 : Int32) => ∃ n10, lp_Orders_advance_10 n10 x5 x9 h (fun (w10_3 : Int32) => ((0 ≤ w10_3) → lt ((x5 - (1 : Int32))) fun (x45 : Int32) => ∃ n47, lp_Orders_advance_47 n47 x5 w10_3 x45 h (fun (w47_4 : Int32) => wp_Orders_swap w10_3 w47_4 h (fun (h81 : Hp) => lt ((w10_3 + (1 : Int32))) fun (x87 : Int32) => lt ((x5 - (1 : Int32))) fun (x92 : Int32) => ∃ n94, lp_Orders_advance_94 n94 x87 x92 h81 (fun (h94x : Hp) => P h94x)))) ∧ ((¬ 0 ≤ w10_3) → P h))

def lp_Fe_guessOrders_25 : Nat → Int32 → Int32 → Hp → (Hp → Prop) → Prop
  | 0, _, _, _, _ => False
  | n + 1, a1, a2, h, E => ((a1 ≤ a2) → E h) ∧ ((¬ a1 ≤ a2) → wp_Fe_fitsAllSeen h (fun (v31 : Bool) (h31 : Hp) => jn (fun (h55 : Hp) => wp_Orders_advance (h55.1 0 1) h55 (fun (h63 : Hp) => lt (a2 + (1 : Int32)) fun (x66 : Int32) => lp_Fe_guessOrders_25 n a1 x66 h63 E)) (fun J55 => ((¬ v31 = true) → J55 h31) ∧ ((v31 = true) → wp_Guess_add 72 (h31.1 0 1) h31 (fun (h52 : Hp) => J55 h52)))))
def wp_Fe_guessOrders  (h : Hp) (P : Hp → Prop) : Prop := wp_Guess_clear h (fun (h4 : Hp) => wp_Fe_layAllSeen h4 (fun (h8 : Hp) => wp_Orders_start h8 (fun (h15 : Hp) => wp_Fe_countOrders h15 (fun (v19 : Int32) => ∃ n25, lp_Fe_guessOrders_25 n25 v19 (0 : Int32) h15 (fun (h25x : Hp) => P h25x)))))

def wp_Fe_countCouldBe  (h : Hp) (P : Int32 → Hp → Prop) : Prop := wp_Fe_guessOrders h (fun (h1 : Hp) => P (h1.1 5 0) h1)

def wp_Fe_nodeOf (p0 : Int32) (p1 : Int32) (P : Int32 → Prop) : Prop := ((¬ p1 = (-1 : Int32)) → ((¬ p0 = 0) → P ((5 : Int32) + p1)) ∧ ((p0 = 0) → P p1)) ∧ ((p1 = (-1 : Int32)) → P (10 : Int32))

def lp_Guess_hear_21 : Nat → Nat → Int32 → Int32 → Int32 → Int32 → Hp → (Hp → Prop) → Prop
  | 0, _, _, _, _, _, _, _ => False
  | n + 1, e1, a2, a3, a4, a5, h, E => ((a3 ≤ a5) → E h) ∧ ((¬ a3 ≤ a5) → (((5 : Int32) ≤ a5) → E h) ∧ ((¬ (5 : Int32) ≤ a5) → wp_Fe_nodeOf a2 a4 (fun (v37 : Int32) => wp_Fe_nodeOf a2 a5 (fun (v43 : Int32) => wp_Nets_areJoined e1 v37 v43 h (fun (v46 : Bool) => jn (fun (h68 : Hp) => lt (a5 + (1 : Int32)) fun (x68 : Int32) => lp_Guess_hear_21 n e1 a2 a3 a4 x68 h68 E) (fun J68 => ((¬ v46 = true) → J68 h) ∧ ((v46 = true) → (vp_in (((5 : Int32) * a4) + a5) 25) ∧ (vp_in (((5 : Int32) * a4) + a5) 25) ∧ lt (wi h 75 ((((5 : Int32) * a4) + a5)).toNatClampNeg ((h.1 75 ((((5 : Int32) * a4) + a5)).toNatClampNeg) + (1 : Int32))) fun (h67 : Hp) => J68 h67)))))))
def lp_Guess_hear_3 : Nat → Nat → Int32 → Int32 → Int32 → Hp → (Hp → Prop) → Prop
  | 0, _, _, _, _, _, _ => False
  | n + 1, e1, a2, a3, a4, h, E => ((a3 ≤ a4) → E h) ∧ ((¬ a3 ≤ a4) → (((5 : Int32) ≤ a4) → E h) ∧ ((¬ (5 : Int32) ≤ a4) → lt ((a4 + (1 : Int32))) fun (x19 : Int32) => ∃ n21, lp_Guess_hear_21 n21 e1 a2 a3 a4 x19 h (fun (h21x : Hp) => lt (a4 + (1 : Int32)) fun (x74 : Int32) => lp_Guess_hear_3 n e1 a2 a3 x74 h21x E)))
def wp_Guess_hear (c0 : Nat) (p1 : Int32) (p2 : Int32) (h : Hp) (P : Hp → Prop) : Prop := ∃ n3, lp_Guess_hear_3 n3 c0 p1 p2 (0 : Int32) h (fun (h3x : Hp) => P h3x)

def lp_Guess_bestPair_28 : Nat → Int32 → Int32 → Int32 → Int32 → Int32 → Hp → (Int32 → Int32 → Prop) → Prop
  | 0, _, _, _, _, _, _, _ => False
  | n + 1, a1, a4, a2, a3, a5, h, E => ((a1 ≤ a5) → E a2 a3) ∧ ((¬ a1 ≤ a5) → (((5 : Int32) ≤ a5) → E a2 a3) ∧ ((¬ (5 : Int32) ≤ a5) → (vp_in (((5 : Int32) * a4) + a5) 25) ∧ lt ((h.1 75 ((((5 : Int32) * a4) + a5)).toNatClampNeg)) fun (x52 : Int32) => lt ((jmax x52 ((h.1 5 0) - x52))) fun (x66 : Int32) => jn (fun (y86_2 : Int32) (y86_3 : Int32) => lt (a5 + (1 : Int32)) fun (x86 : Int32) => lp_Guess_bestPair_28 n a1 a4 y86_2 y86_3 x86 h E) (fun J86 => ((a3 ≤ x66) → J86 a2 a3) ∧ ((¬ a3 ≤ x66) → lt ((((10 : Int32) * a4) + a5)) fun (x85 : Int32) => J86 x85 x66))))
def lp_Guess_bestPair_10 : Nat → Int32 → Int32 → Int32 → Int32 → Hp → (Int32 → Prop) → Prop
  | 0, _, _, _, _, _, _ => False
  | n + 1, a1, a2, a3, a4, h, E => ((a1 ≤ a4) → E a2) ∧ ((¬ a1 ≤ a4) → (((5 : Int32) ≤ a4) → E a2) ∧ ((¬ (5 : Int32) ≤ a4) → lt ((a4 + (1 : Int32))) fun (x26 : Int32) => ∃ n28, lp_Guess_bestPair_28 n28 a1 a4 a2 a3 x26 h (fun (w28_2 : Int32) (w28_3 : Int32) => lt (a4 + (1 : Int32)) fun (x92 : Int32) => lp_Guess_bestPair_10 n a1 w28_2 w28_3 x92 h E)))
def wp_Guess_bestPair (p0 : Int32) (h : Hp) (P : Int32 → Prop) : Prop := lt ((h.1 5 0)) fun (x6 : Int32) => ∃ n10, lp_Guess_bestPair_10 n10 p0 (-1 : Int32) x6 (0 : Int32) h (fun (w10_2 : Int32) => P w10_2)

def lp_Fe_bestQuestion_78 : Nat → Int32 → Int32 → Int32 → Hp → (Hp → Prop) → Prop
  | 0, _, _, _, _, _ => False
  | n + 1, a1, a2, a3, h, E => ((a2 ≤ a3) → E h) ∧ ((¬ a2 ≤ a3) → wp_Fe_fitsAllSeen h (fun (v84 : Bool) (h84 : Hp) => jn (fun (h149 : Hp) => wp_Orders_advance (h149.1 0 1) h149 (fun (h157 : Hp) => lt (a3 + (1 : Int32)) fun (x160 : Int32) => lp_Fe_bestQuestion_78 n a1 a2 x160 h157 E)) (fun J149 => ((¬ v84 = true) → J149 h84) ∧ ((v84 = true) → wp_Nets_join 45 72 (h84.1 0 1) a1 h84 (fun (h106 : Hp) => wp_Guess_add 72 (h106.1 0 1) h106 (fun (h124 : Hp) => wp_Guess_hear 45 (h124.1 26 4) (h124.1 0 1) h124 (fun (h146 : Hp) => J149 h146)))))))
def wp_Fe_bestQuestion  (h : Hp) (P : Int32 → Hp → Prop) : Prop := wp_Guess_clear h (fun (h4 : Hp) => wp_Fe_layAllSeen h4 (fun (h8 : Hp) => wp_Nets_lay 45 (h8.1 26 0) (h8.1 26 1) (h8.1 26 2) (h8.1 26 3) h8 (fun (h43 : Hp) => wp_Fe_passing (h43.1 26 0) (h43.1 26 5) (fun (v60 : Int32) => wp_Orders_start h43 (fun (h68 : Hp) => wp_Fe_countOrders h68 (fun (v72 : Int32) => ∃ n78, lp_Fe_bestQuestion_78 n78 v60 v72 (0 : Int32) h68 (fun (h78x : Hp) => wp_Guess_bestPair (h78x.1 0 1) h78x (fun (v174 : Int32) => P v174 h78x))))))))

def lp_Nets_pattern_12 : Nat → Nat → Int32 → Int32 → Int32 → Int32 → Hp → (Int32 → Prop) → Prop
  | 0, _, _, _, _, _, _, _ => False
  | n + 1, e0, a2, a3, a4, a5, h, E => ((a2 ≤ a5) → E a4) ∧ ((¬ a2 ≤ a5) → wp_Nets_of e0 (a3 + a5) h (fun (v23 : Int32) => lt ((((v23 >>> (a3 &&& 31)) &&& (31 : Int32)) ||| (((v23 >>> ((10 : Int32) &&& 31)) &&& (1 : Int32)) <<< ((5 : Int32) &&& 31)))) fun (x45 : Int32) => lt ((a4 ||| (x45 <<< (((6 : Int32) * a5) &&& 31)))) fun (x58 : Int32) => lt (a5 + (1 : Int32)) fun (x60 : Int32) => lp_Nets_pattern_12 n e0 a2 a3 x58 x60 h E))
def wp_Nets_pattern (r : Nat) (p0 : Int32) (p1 : Int32) (h : Hp) (P : Int32 → Prop) : Prop := wp_Fe_nodeOf p0 (0 : Int32) (fun (v2 : Int32) => ∃ n12, lp_Nets_pattern_12 n12 r p1 v2 (0 : Int32) (0 : Int32) h (fun (w12_4 : Int32) => P w12_4))

def lp_Fe_countLeft_66 : Nat → Int32 → Int32 → Int32 → Int32 → Int32 → Hp → (Int32 → Hp → Prop) → Prop
  | 0, _, _, _, _, _, _, _ => False
  | n + 1, a1, a2, a4, a3, a5, h, E => ((a4 ≤ a5) → E a3 h) ∧ ((¬ a4 ≤ a5) → wp_Nets_join 45 72 (h.1 0 1) a2 h (fun (h89 : Hp) => wp_Nets_pattern 45 (h89.1 26 4) (h89.1 0 1) h89 (fun (v107 : Int32) => jn (fun (y117_3 : Int32) => wp_Orders_advance (h89.1 0 1) h89 (fun (h125 : Hp) => lt (a5 + (1 : Int32)) fun (x128 : Int32) => lp_Fe_countLeft_66 n a1 a2 a4 y117_3 x128 h125 E)) (fun J117 => ((¬ v107 = a1) → J117 a3) ∧ ((v107 = a1) → lt (a3 + (1 : Int32)) fun (x114 : Int32) => J117 x114)))))
def wp_Fe_countLeft  (h : Hp) (P : Int32 → Hp → Prop) : Prop := wp_Fe_joinAll (h.1 26 0) h (fun (h8 : Hp) => wp_Nets_pattern 45 (h8.1 26 4) (h8.1 0 1) h8 (fun (v26 : Int32) => wp_Fe_passing (h8.1 26 0) (h8.1 26 5) (fun (v44 : Int32) => wp_Orders_start h8 (fun (h54 : Hp) => wp_Fe_countOrders h54 (fun (v58 : Int32) => ∃ n66, lp_Fe_countLeft_66 n66 v26 v44 v58 (0 : Int32) (0 : Int32) h54 (fun (w66_3 : Int32) (h66x : Hp) => P w66_3 h66x))))))

def wp_Fe_told (p0 : Int32) (h : Hp) (P : Int32 → Hp → Prop) : Prop := ((p0 = (0 : Int32)) → P (h.1 0 1) h) ∧ ((¬ p0 = (0 : Int32)) → ((p0 = (1 : Int32)) → P (h.1 26 4) h) ∧ ((¬ p0 = (1 : Int32)) → ((p0 = (2 : Int32)) → P (h.1 26 5) h) ∧ ((¬ p0 = (2 : Int32)) → ((p0 = (3 : Int32)) → P (h.1 26 6) h) ∧ ((¬ p0 = (3 : Int32)) → ((p0 = (4 : Int32)) → P (h.1 26 7) h) ∧ ((¬ p0 = (4 : Int32)) → ((p0 = (5 : Int32)) → P (h.1 1 1) h) ∧ ((¬ p0 = (5 : Int32)) → ((p0 = (6 : Int32)) → wp_Int_bitCount (h.1 26 1) (fun (v124 : Int32) => P v124 h)) ∧ ((¬ p0 = (6 : Int32)) → ((p0 = (7 : Int32)) → wp_Fe_goodWires h (fun (v129 : Int32) (h129 : Hp) => P v129 h129)) ∧ ((¬ p0 = (7 : Int32)) → ((p0 = (8 : Int32)) → wp_Fe_countCouldBe h (fun (v134 : Int32) (h134 : Hp) => P v134 h134)) ∧ ((¬ p0 = (8 : Int32)) → ((p0 = (9 : Int32)) → wp_Fe_bestQuestion h (fun (v139 : Int32) (h139 : Hp) => P v139 h139)) ∧ ((¬ p0 = (9 : Int32)) → ((p0 = (10 : Int32)) → wp_Fe_countLeft h (fun (v144 : Int32) (h144 : Hp) => P v144 h144)) ∧ ((¬ p0 = (10 : Int32)) → ((p0 = (11 : Int32)) → P (h.1 0 8) h) ∧ ((¬ p0 = (11 : Int32)) → ((p0 = (12 : Int32)) → P (h.1 0 11) h) ∧ ((¬ p0 = (12 : Int32)) → ((p0 = (13 : Int32)) → P (h.1 2 1) h) ∧ ((¬ p0 = (13 : Int32)) → P (-1000000002 : Int32) h))))))))))))))

def wp_Fe_isNumber (p0 : Int32) (h : Hp) (P : Bool → Prop) : Prop := ((p0 < 0) → P false) ∧ ((¬ p0 < 0) → (((h.1 0 1) ≤ p0) → P false) ∧ ((¬ (h.1 0 1) ≤ p0) → (((5 : Int32) ≤ p0) → P false) ∧ ((¬ (5 : Int32) ≤ p0) → P true)))

def lp_Fe_farEndOf_2 : Nat → Int32 → Int32 → Hp → (Prop) → (Int32 → Prop) → Prop
  | 0, _, _, _, _, _ => False
  | n + 1, a1, a2, h, E, P => (((h.1 0 1) ≤ a2) → E) ∧ ((¬ (h.1 0 1) ≤ a2) → (((5 : Int32) ≤ a2) → E) ∧ ((¬ (5 : Int32) ≤ a2) → (vp_in a2 5) ∧ ((¬ (h.1 69 (a2).toNatClampNeg) = a1) → lt (a2 + (1 : Int32)) fun (x27 : Int32) => lp_Fe_farEndOf_2 n a1 x27 h E P) ∧ (((h.1 69 (a2).toNatClampNeg) = a1) → P a2)))
def wp_Fe_farEndOf (p0 : Int32) (h : Hp) (P : Int32 → Prop) : Prop := ∃ n2, lp_Fe_farEndOf_2 n2 p0 (0 : Int32) h (P (-1 : Int32)) P

def wp_Fe_wire (p0 : Int32) (p1 : Int32) (h : Hp) (P : Int32 → Prop) : Prop := wp_Fe_isNumber p0 h (fun (v2 : Bool) => ((v2 = true) → ((p1 = (0 : Int32)) → wp_Fe_part (h.1 26 0) p0 (fun (v52 : Int32) => P v52)) ∧ ((¬ p1 = (0 : Int32)) → ((p1 = (1 : Int32)) → wp_Fe_farEndOf p0 h (fun (v58 : Int32) => P v58)) ∧ ((¬ p1 = (1 : Int32)) → ((p1 = (2 : Int32)) → wp_Fe_passing (h.1 26 0) (h.1 26 5) (fun (v76 : Int32) => P ((v76 >>> (p0 &&& 31)) &&& (1 : Int32)))) ∧ ((¬ p1 = (2 : Int32)) → ((p1 = (3 : Int32)) → wp_Fe_part (h.1 26 2) p0 (fun (v92 : Int32) => P v92)) ∧ ((¬ p1 = (3 : Int32)) → P (-1000000002 : Int32)))))) ∧ ((¬ v2 = true) → P (-1000000001 : Int32)))

def wp_Fe_couldBeOf (p0 : Int32) (h : Hp) (P : Int32 → Hp → Prop) : Prop := wp_Fe_guessOrders h (fun (h1 : Hp) => (vp_in p0 5) ∧ P (h1.1 73 (p0).toNatClampNeg) h1)

def wp_Fe_firstCouldBeOf (p0 : Int32) (h : Hp) (P : Int32 → Hp → Prop) : Prop := wp_Fe_guessOrders h (fun (h1 : Hp) => ((¬ (h1.1 5 0) = 0) → (vp_in p0 5) ∧ P (h1.1 74 (p0).toNatClampNeg) h1) ∧ (((h1.1 5 0) = 0) → P (-1 : Int32) h1))

def wp_Fe_end (p0 : Int32) (p1 : Int32) (h : Hp) (P : Int32 → Hp → Prop) : Prop := wp_Fe_isNumber p0 h (fun (v2 : Bool) => ((v2 = true) → ((p1 = (0 : Int32)) → (vp_in p0 5) ∧ P (h.1 69 (p0).toNatClampNeg) h) ∧ ((¬ p1 = (0 : Int32)) → ((p1 = (1 : Int32)) → wp_Fe_part (h.1 26 3) p0 (fun (v59 : Int32) => P v59 h)) ∧ ((¬ p1 = (1 : Int32)) → ((p1 = (2 : Int32)) → wp_Fe_couldBeOf p0 h (fun (v65 : Int32) (h65 : Hp) => P v65 h65)) ∧ ((¬ p1 = (2 : Int32)) → ((p1 = (3 : Int32)) → wp_Fe_firstCouldBeOf p0 h (fun (v71 : Int32) (h71 : Hp) => P v71 h71)) ∧ ((¬ p1 = (3 : Int32)) → P (-1000000002 : Int32) h))))) ∧ ((¬ v2 = true) → P (-1000000001 : Int32) h))

def wp_Fe_net (p0 : Int32) (p1 : Int32) (h : Hp) (P : Int32 → Hp → Prop) : Prop := wp_Fe_isNumber p1 h (fun (v2 : Bool) => ((v2 = true) → ((p0 < 0) → P (-1000000002 : Int32) h) ∧ ((¬ p0 < 0) → ((p0 ≤ (1 : Int32)) → wp_Fe_joinAll (h.1 26 0) h (fun (h31 : Hp) => wp_Fe_nodeOf p0 p1 (fun (v40 : Int32) => wp_Nets_of 45 v40 h31 (fun (v43 : Int32) => P v43 h31)))) ∧ ((¬ p0 ≤ (1 : Int32)) → P (-1000000002 : Int32) h))) ∧ ((¬ v2 = true) → P (-1000000001 : Int32) h))

def wp_Fe_areTwo (p0 : Int32) (p1 : Int32) (h : Hp) (P : Bool → Prop) : Prop := wp_Fe_isNumber p0 h (fun (v2 : Bool) => ((¬ v2 = true) → P false) ∧ ((v2 = true) → wp_Fe_isNumber p1 h (fun (v10 : Bool) => ((¬ v10 = true) → P false) ∧ ((v10 = true) → ((p0 = p1) → P false) ∧ ((¬ p0 = p1) → P true)))))

def wp_Fe_canHold (p0 : Int32) (p1 : Int32) (h : Hp) (P : Bool → Prop) : Prop := ((¬ p1 = (-1 : Int32)) → wp_Fe_areTwo p0 p1 h (fun (v16 : Bool) => P v16)) ∧ ((p1 = (-1 : Int32)) → wp_Fe_isNumber p0 h (fun (v7 : Bool) => P v7))

def wp_Fe_ringsBy (p0 : Int32) (p1 : Int32) (p2 : Int32) (h : Hp) (P : Bool → Hp → Prop) : Prop := wp_Fe_joinAll p0 h (fun (h2 : Hp) => wp_Fe_nodeOf (h2.1 26 4) p1 (fun (v17 : Int32) => wp_Fe_nodeOf (h2.1 26 4) p2 (fun (v28 : Int32) => wp_Nets_areJoined 45 v17 v28 h2 (fun (v31 : Bool) => P v31 h2))))

def wp_Fe_rings (p0 : Int32) (p1 : Int32) (h : Hp) (P : Int32 → Hp → Prop) : Prop := wp_Fe_canHold p0 p1 h (fun (v3 : Bool) => ((v3 = true) → wp_Fe_ringsBy (h.1 26 0) p0 p1 h (fun (v22 : Bool) (h22 : Hp) => ((¬ v22 = true) → P (0 : Int32) h22) ∧ ((v22 = true) → P (1 : Int32) h22))) ∧ ((¬ v3 = true) → P (-1000000001 : Int32) h))

def wp_Fe_touches (p0 : Int32) (p1 : Int32) (h : Hp) (P : Int32 → Prop) : Prop := wp_Fe_areTwo p0 p1 h (fun (v3 : Bool) => ((v3 = true) → wp_Fe_pairBit p0 p1 (fun (v21 : Int32) => ((((h.1 26 1) &&& v21) = 0) → P (0 : Int32)) ∧ ((¬ ((h.1 26 1) &&& v21) = 0) → P (1 : Int32)))) ∧ ((¬ v3 = true) → P (-1000000001 : Int32)))

def wp_State_tiesHere (r : Nat) (h : Hp) (P : Int32 → Prop) : Prop := ((¬ (h.1 r 4) = 0) → P (h.1 r 3)) ∧ (((h.1 r 4) = 0) → P (h.1 r 2))

def wp_State_become (r : Nat) (c0 : Nat) (h : Hp) (P : Hp → Prop) : Prop := lt (wi h r 0 (h.1 c0 0)) fun (h5 : Hp) => lt (wi h5 r 1 (h5.1 c0 1)) fun (h13 : Hp) => lt (wi h13 r 2 (h13.1 c0 2)) fun (h21 : Hp) => lt (wi h21 r 3 (h21.1 c0 3)) fun (h29 : Hp) => lt (wi h29 r 4 (h29.1 c0 4)) fun (h37 : Hp) => lt (wi h37 r 5 (h37.1 c0 5)) fun (h45 : Hp) => lt (wi h45 r 6 (h45.1 c0 6)) fun (h53 : Hp) => lt (wi h53 r 7 (h53.1 c0 7)) fun (h61 : Hp) => P h61

def wp_Past_remember (c0 : Nat) (h : Hp) (P : Hp → Prop) : Prop := jn (fun (h21 : Hp) => (vp_in (h21.1 2 2) 16) ∧ wp_State_become (10 + ((h21.1 2 2)).toNatClampNeg) c0 h21 (fun (h31 : Hp) => lt (wi h31 2 2 (irm ((h31.1 2 2) + (1 : Int32)) (16 : Int32))) fun (h44 : Hp) => lt (wi h44 2 1 (jmin ((h44.1 2 1) + (1 : Int32)) (16 : Int32))) fun (h59 : Hp) => P h59)) (fun J21 => jn (τ := Prop) (lt (wi h 2 2 (0 : Int32)) fun (h18 : Hp) => J21 h18) (fun J16 => (((h.1 2 2) < 0) → J16) ∧ ((¬ (h.1 2 2) < 0) → (((h.1 2 2) < (16 : Int32)) → J21 h) ∧ ((¬ (h.1 2 2) < (16 : Int32)) → J16))))

def wp_State_tieHere (r : Nat) (p0 : Int32) (p1 : Int32) (h : Hp) (P : Hp → Prop) : Prop := ((¬ (h.1 r 4) = 0) → wp_Fe_withPart (h.1 r 3) p0 p1 (fun (v30 : Int32) => lt (wi h r 3 v30) fun (h33 : Hp) => P h33)) ∧ (((h.1 r 4) = 0) → wp_Fe_withPart (h.1 r 2) p0 p1 (fun (v14 : Int32) => lt (wi h r 2 v14) fun (h17 : Hp) => P h17))

def wp_Fe_tie (p0 : Int32) (p1 : Int32) (h : Hp) (P : Int32 → Hp → Prop) : Prop := wp_Fe_isNumber p0 h (fun (v2 : Bool) => ((v2 = true) → ((p1 < 0) → P (-1000000002 : Int32) h) ∧ ((¬ p1 < 0) → ((p1 < (4 : Int32)) → wp_State_tiesHere 26 h (fun (v27 : Int32) => wp_Fe_part v27 p0 (fun (v31 : Int32) => ((¬ v31 = p1) → wp_Past_remember 26 h (fun (h51 : Hp) => wp_State_tieHere 26 p0 p1 h51 (fun (h60 : Hp) => P v31 h60))) ∧ ((v31 = p1) → P (-1000000003 : Int32) h)))) ∧ ((¬ p1 < (4 : Int32)) → P (-1000000002 : Int32) h))) ∧ ((¬ v2 = true) → P (-1000000001 : Int32) h))

def wp_Fe_whyNoTime  (h : Hp) (P : Int32 → Prop) : Prop := ((¬ (h.1 0 1) = 0) → (((h.1 26 5) ≤ (9000 : Int32)) → P (0 : Int32)) ∧ ((¬ (h.1 26 5) ≤ (9000 : Int32)) → P (-1000000004 : Int32))) ∧ (((h.1 0 1) = 0) → P (-1000000003 : Int32))

def wp_State_walk (r : Nat) (h : Hp) (P : Hp → Prop) : Prop := lt (wi h r 4 ((1 : Int32) - (h.1 r 4))) fun (h7 : Hp) => lt (wi h7 r 6 (jmin ((h7.1 r 6) + (1 : Int32)) (9999 : Int32))) fun (h23 : Hp) => P h23

def wp_Fe_cross  (h : Hp) (P : Int32 → Hp → Prop) : Prop := wp_Fe_whyNoTime h (fun (v1 : Int32) => ((v1 = 0) → wp_Past_remember 26 h (fun (h19 : Hp) => wp_State_walk 26 h19 (fun (h26 : Hp) => lt (wi h26 26 5 ((h26.1 26 5) + (1 : Int32))) fun (h39 : Hp) => P (h39.1 26 5) h39))) ∧ ((¬ v1 = 0) → P v1 h))

def wp_State_countTest (r : Nat) (h : Hp) (P : Hp → Prop) : Prop := lt (wi h r 7 (jmin ((h.1 r 7) + (1 : Int32)) (9999 : Int32))) fun (h13 : Hp) => P h13

def wp_Fe_test (p0 : Int32) (p1 : Int32) (h : Hp) (P : Int32 → Hp → Prop) : Prop := wp_Fe_canHold p0 p1 h (fun (v3 : Bool) => ((v3 = true) → wp_Past_remember 26 h (fun (h20 : Hp) => wp_State_countTest 26 h20 (fun (h27 : Hp) => wp_Fe_ringsBy (h27.1 26 0) p0 p1 h27 (fun (v40 : Bool) (h40 : Hp) => ((¬ v40 = true) → P (0 : Int32) h40) ∧ ((v40 = true) → P (1 : Int32) h40))))) ∧ ((¬ v3 = true) → P (-1000000001 : Int32) h))

def wp_Fe_rest (p0 : Int32) (h : Hp) (P : Int32 → Hp → Prop) : Prop := jn (fun (z20_0 : Int32) => ((z20_0 = 0) → wp_Past_remember 26 h (fun (h35 : Hp) => lt (wi h35 26 5 ((h35.1 26 5) + p0)) fun (h48 : Hp) => P (h48.1 26 5) h48)) ∧ ((¬ z20_0 = 0) → P z20_0 h)) (fun J20 => jn (τ := Prop) (J20 (-1000000002 : Int32)) (fun J11 => ((p0 < (1 : Int32)) → J11) ∧ ((¬ p0 < (1 : Int32)) → ((p0 ≤ (60 : Int32)) → wp_Fe_whyNoTime h (fun (v17 : Int32) => J20 v17)) ∧ ((¬ p0 ≤ (60 : Int32)) → J11))))

def wp_Fe_mend (p0 : Int32) (p1 : Int32) (h : Hp) (P : Int32 → Hp → Prop) : Prop := wp_Fe_isNumber p0 h (fun (v2 : Bool) => ((v2 = true) → ((p1 < 0) → P (-1000000002 : Int32) h) ∧ ((¬ p1 < 0) → ((p1 < (4 : Int32)) → wp_Fe_part (h.1 26 0) p0 (fun (v31 : Int32) => ((¬ v31 = p1) → wp_Past_remember 26 h (fun (h51 : Hp) => wp_Fe_withPart (h51.1 26 0) p0 p1 (fun (v67 : Int32) => lt (wi h51 26 0 v67) fun (h70 : Hp) => P v31 h70))) ∧ ((v31 = p1) → P (-1000000003 : Int32) h))) ∧ ((¬ p1 < (4 : Int32)) → P (-1000000002 : Int32) h))) ∧ ((¬ v2 = true) → P (-1000000001 : Int32) h))

def wp_Fe_touch (p0 : Int32) (p1 : Int32) (p2 : Int32) (h : Hp) (P : Int32 → Hp → Prop) : Prop := wp_Fe_areTwo p0 p1 h (fun (v3 : Bool) => ((v3 = true) → wp_Fe_pairBit p0 p1 (fun (v14 : Int32) => jn (fun (z37_0 : Int32) => ((¬ z37_0 = p2) → wp_Past_remember 26 h (fun (h56 : Hp) => lt (wi h56 26 1 ((h56.1 26 1) ^^^ v14)) fun (h70 : Hp) => wp_Int_bitCount (h70.1 26 1) (fun (v80 : Int32) => P v80 h70))) ∧ ((z37_0 = p2) → P (-1000000003 : Int32) h)) (fun J37 => ((((h.1 26 1) &&& v14) = 0) → J37 (0 : Int32)) ∧ ((¬ ((h.1 26 1) &&& v14) = 0) → J37 (1 : Int32))))) ∧ ((¬ v3 = true) → P (-1000000001 : Int32) h))

def wp_Draws_draw (p0 : Int32) (h : Hp) (P : Int32 → Hp → Prop) : Prop := lt (wi h 3 0 ((((((((h.1 3 0)).toInt64) * (1103515245 : Int64)) + (12345 : Int64)) &&& (2147483647 : Int64))).toInt32)) fun (h19 : Hp) => ((0 < p0) → (¬ p0 = 0) ∧ P (irm ((h19.1 3 0) / (65536 : Int32)) p0) h19) ∧ ((¬ 0 < p0) → P (0 : Int32) h19)

def wp_Fe_driftOneHour  (h : Hp) (P : Hp → Prop) : Prop := wp_Draws_draw (4 : Int32) h (fun (v5 : Int32) (h5 : Hp) => wp_Draws_draw (h5.1 0 1) h5 (fun (v17 : Int32) (h17 : Hp) => jn (fun (h115 : Hp) => lt (wi h115 26 5 ((h115.1 26 5) + (1 : Int32))) fun (h125 : Hp) => P h125) (fun J115 => ((¬ v5 = 0) → ((¬ v5 = (1 : Int32)) → ((¬ v5 = (2 : Int32)) → wp_Draws_draw (4 : Int32) h17 (fun (v106 : Int32) (h106 : Hp) => wp_Fe_withPart (h17.1 26 0) v17 v106 (fun (v109 : Int32) => lt (wi h106 26 0 v109) fun (h112 : Hp) => J115 h112))) ∧ ((v5 = (2 : Int32)) → wp_State_walk 26 h17 (fun (h83 : Hp) => J115 h83))) ∧ ((v5 = (1 : Int32)) → wp_Draws_draw (h17.1 0 1) h17 (fun (v57 : Int32) (h57 : Hp) => ((v57 = v17) → J115 h57) ∧ ((¬ v57 = v17) → wp_State_countTest 26 h57 (fun (h68 : Hp) => J115 h68))))) ∧ ((v5 = 0) → wp_Draws_draw (4 : Int32) h17 (fun (v35 : Int32) (h35 : Hp) => wp_State_tieHere 26 v17 v35 h35 (fun (h38 : Hp) => J115 h38))))))

def lp_Fe_drift_40 : Nat → Int32 → Int32 → Hp → (Hp → Prop) → Prop
  | 0, _, _, _, _ => False
  | n + 1, a1, a3, h, E => ((a1 ≤ a3) → E h) ∧ ((¬ a1 ≤ a3) → wp_Fe_driftOneHour h (fun (h46 : Hp) => lt (a3 + (1 : Int32)) fun (x49 : Int32) => lp_Fe_drift_40 n a1 x49 h46 E))
def wp_Fe_drift (p0 : Int32) (h : Hp) (P : Int32 → Hp → Prop) : Prop := jn (fun (z20_0 : Int32) => ((z20_0 = 0) → wp_Past_remember 26 h (fun (h35 : Hp) => ∃ n40, lp_Fe_drift_40 n40 p0 (0 : Int32) h35 (fun (h40x : Hp) => P (h40x.1 26 5) h40x))) ∧ ((¬ z20_0 = 0) → P z20_0 h)) (fun J20 => jn (τ := Prop) (J20 (-1000000002 : Int32)) (fun J11 => ((p0 < (1 : Int32)) → J11) ∧ ((¬ p0 < (1 : Int32)) → ((p0 ≤ (60 : Int32)) → wp_Fe_whyNoTime h (fun (v17 : Int32) => J20 v17)) ∧ ((¬ p0 ≤ (60 : Int32)) → J11))))

def wp_Past_restore (c0 : Nat) (h : Hp) (P : Hp → Prop) : Prop := ((¬ (h.1 2 1) = 0) → jn (fun (z36_1 : Int32) => lt (wi h 2 2 z36_1) fun (h36 : Hp) => (vp_in (h36.1 2 2) 16) ∧ wp_State_become c0 (10 + ((h36.1 2 2)).toNatClampNeg) h36 (fun (h49 : Hp) => lt (wi h49 2 1 ((h49.1 2 1) - (1 : Int32))) fun (h59 : Hp) => P h59)) (fun J36 => jn (τ := Prop) (J36 (15 : Int32)) (fun J34 => (((h.1 2 2) ≤ 0) → J34) ∧ ((¬ (h.1 2 2) ≤ 0) → (((16 : Int32) ≤ (h.1 2 2)) → J34) ∧ ((¬ (16 : Int32) ≤ (h.1 2 2)) → J36 ((h.1 2 2) - (1 : Int32))))))) ∧ (((h.1 2 1) = 0) → P h)

def wp_Fe_undo  (h : Hp) (P : Int32 → Hp → Prop) : Prop := ((¬ (h.1 2 1) = 0) → wp_Past_restore 26 h (fun (h21 : Hp) => P (h21.1 2 1) h21)) ∧ (((h.1 2 1) = 0) → P (-1000000003 : Int32) h)

def lp_Fe_kindsWithBroken_10 : Nat → Int32 → Int32 → Int32 → Hp → (Int32 → Prop) → Prop
  | 0, _, _, _, _, _ => False
  | n + 1, a1, a2, a3, h, E => (((h.1 0 1) ≤ a3) → E a2) ∧ ((¬ (h.1 0 1) ≤ a3) → jn (fun (y33_2 : Int32) => lt (a3 + (1 : Int32)) fun (x33 : Int32) => lp_Fe_kindsWithBroken_10 n a1 y33_2 x33 h E) (fun J33 => ((((a1 >>> (a3 &&& 31)) &&& (1 : Int32)) = 0) → J33 a2) ∧ ((¬ ((a1 >>> (a3 &&& 31)) &&& (1 : Int32)) = 0) → wp_Fe_withPart a2 a3 (1 : Int32) (fun (v29 : Int32) => J33 v29))))
def wp_Fe_kindsWithBroken (p0 : Int32) (h : Hp) (P : Int32 → Prop) : Prop := lt ((h.1 26 0)) fun (x7 : Int32) => ∃ n10, lp_Fe_kindsWithBroken_10 n10 p0 x7 (0 : Int32) h (fun (w10_2 : Int32) => P w10_2)

def lp_Fe_cut_17 : Nat → Int32 → Int32 → Int32 → Int32 → Hp → (Int32 → Hp → Prop) → Prop
  | 0, _, _, _, _, _, _ => False
  | n + 1, a1, a2, a3, a4, h, E => ((((1 : Int32) <<< ((h.1 0 1) &&& 31)) ≤ a4) → E a3 h) ∧ ((¬ ((1 : Int32) <<< ((h.1 0 1) &&& 31)) ≤ a4) → jn (fun (z50_0 : Int32) => jn (fun (y75_3 : Int32) (h75 : Hp) => lt (a4 + (1 : Int32)) fun (x75 : Int32) => lp_Fe_cut_17 n a1 a2 y75_3 x75 h75 E) (fun J75 => ((z50_0 = 0) → J75 a3 h) ∧ ((¬ z50_0 = 0) → wp_Fe_kindsWithBroken a4 h (fun (v61 : Int32) => wp_Fe_ringsBy v61 a1 a2 h (fun (v66 : Bool) (h66 : Hp) => ((v66 = true) → J75 a3 h66) ∧ ((¬ v66 = true) → J75 a4 h66)))))) (fun J50 => jn (τ := Prop) (J50 (1 : Int32)) (fun J45 => ((a3 = (-1 : Int32)) → J45) ∧ ((¬ a3 = (-1 : Int32)) → wp_Int_bitCount a4 (fun (v35 : Int32) => wp_Int_bitCount a3 (fun (v39 : Int32) => ((v39 ≤ v35) → J50 (0 : Int32)) ∧ ((¬ v39 ≤ v35) → J45)))))))
def wp_Fe_cut (p0 : Int32) (p1 : Int32) (h : Hp) (P : Int32 → Hp → Prop) : Prop := wp_Fe_areTwo p0 p1 h (fun (v3 : Bool) => ((v3 = true) → ∃ n17, lp_Fe_cut_17 n17 p0 p1 (-1 : Int32) (0 : Int32) h (fun (w17_3 : Int32) (h17x : Hp) => P w17_3 h17x)) ∧ ((¬ v3 = true) → P (-1000000001 : Int32) h))

def lp_Ways_start_2 : Nat → Int32 → Hp → (Hp → Prop) → Prop
  | 0, _, _, _ => False
  | n + 1, a1, h, E => (((5 : Int32) ≤ a1) → E h) ∧ ((¬ (5 : Int32) ≤ a1) → (vp_in a1 5) ∧ lt (wi h 76 (a1).toNatClampNeg (0 : Int32)) fun (h13 : Hp) => lt (a1 + (1 : Int32)) fun (x14 : Int32) => lp_Ways_start_2 n x14 h13 E)
def wp_Ways_start  (h : Hp) (P : Hp → Prop) : Prop := ∃ n2, lp_Ways_start_2 n2 (0 : Int32) h (fun (h2x : Hp) => P h2x)

def lp_Ways_row_4 : Nat → Int32 → Int32 → Int32 → Hp → (Int32 → Prop) → Prop
  | 0, _, _, _, _, _ => False
  | n + 1, a1, a2, a3, h, E => ((a1 ≤ a3) → E a2) ∧ ((¬ a1 ≤ a3) → (((5 : Int32) ≤ a3) → E a2) ∧ ((¬ (5 : Int32) ≤ a3) → (vp_in a3 5) ∧ wp_Fe_withPart a2 a3 ((h.1 76 (a3).toNatClampNeg) + (1 : Int32)) (fun (v24 : Int32) => lt (a3 + (1 : Int32)) fun (x28 : Int32) => lp_Ways_row_4 n a1 v24 x28 h E)))
def wp_Ways_row (p0 : Int32) (h : Hp) (P : Int32 → Prop) : Prop := ∃ n4, lp_Ways_row_4 n4 p0 (0 : Int32) (0 : Int32) h (fun (w4_2 : Int32) => P w4_2)

def wp_Nets_bare (r : Nat) (p0 : Int32) (h : Hp) (P : Int32 → Prop) : Prop := ((p0 < 0) → P (0 : Int32)) ∧ ((¬ p0 < 0) → (((11 : Int32) ≤ p0) → P (0 : Int32)) ∧ ((¬ (11 : Int32) ≤ p0) → (vp_in p0 11) ∧ P (h.1 (r + 9) (p0).toNatClampNeg)))

def wp_Nets_isEarthedBare (r : Nat) (p0 : Int32) (h : Hp) (P : Bool → Prop) : Prop := wp_Nets_bare r p0 h (fun (v2 : Int32) => ((((v2 >>> ((10 : Int32) &&& 31)) &&& (1 : Int32)) = 0) → P false) ∧ ((¬ ((v2 >>> ((10 : Int32) &&& 31)) &&& (1 : Int32)) = 0) → P true))

def lp_Fe_leftByWay_61 : Nat → Int32 → Int32 → Int32 → Int32 → Int32 → Hp → (Int32 → Int32 → Prop) → Prop
  | 0, _, _, _, _, _, _, _ => False
  | n + 1, a2, a3, a4, a5, a6, h, E => (((h.1 0 1) ≤ a6) → E a3 a4) ∧ ((¬ (h.1 0 1) ≤ a6) → jn (fun (z84_0 : Int32) => jn (fun (z109_0 : Int32) => jn (fun (y190_3 : Int32) (y190_4 : Int32) (y190_5 : Int32) => lt (a6 + (1 : Int32)) fun (x190 : Int32) => lp_Fe_leftByWay_61 n a2 y190_3 y190_4 y190_5 x190 h E) (fun J190 => jn (τ := Prop) (((¬ (z109_0 &&& (((1 : Int32) <<< (a6 &&& 31)) - (1 : Int32))) = 0) → J190 a3 a4 a5) ∧ (((z109_0 &&& (((1 : Int32) <<< (a6 &&& 31)) - (1 : Int32))) = 0) → wp_Int_bitCount z109_0 (fun (v148 : Int32) => wp_Fe_part a5 (v148 - (1 : Int32)) (fun (v159 : Int32) => lt ((v159 + (1 : Int32))) fun (x164 : Int32) => wp_Fe_withPart a5 (v148 - (1 : Int32)) x164 (fun (v174 : Int32) => wp_Fe_factorial v148 h (fun (v182 : Int32) => lt ((a3 * (v182 * x164))) fun (x189 : Int32) => J190 x189 a4 v174)))))) (fun J134 => ((z84_0 = 0) → J134) ∧ ((¬ z84_0 = 0) → wp_Nets_isEarthedBare 45 a6 h (fun (v122 : Bool) => ((¬ v122 = true) → J134) ∧ ((v122 = true) → lt (a4 + (1 : Int32)) fun (x128 : Int32) => J190 a3 x128 a5)))))) (fun J109 => ((z84_0 = 0) → J109 ((1 : Int32) <<< (a6 &&& 31))) ∧ ((¬ z84_0 = 0) → wp_Nets_bare 45 a6 h (fun (v97 : Int32) => J109 (v97 &&& a2))))) (fun J84 => ((((a2 >>> (a6 &&& 31)) &&& (1 : Int32)) = 0) → J84 (0 : Int32)) ∧ ((¬ ((a2 >>> (a6 &&& 31)) &&& (1 : Int32)) = 0) → J84 (1 : Int32))))
def wp_Fe_leftByWay (p0 : Int32) (h : Hp) (P : Int32 → Hp → Prop) : Prop := wp_Nets_lay 45 (h.1 26 0) (h.1 26 1) p0 (0 : Int32) h (fun (h20 : Hp) => wp_Fe_passing (h20.1 26 0) (h20.1 26 5) (fun (v37 : Int32) => lt ((v37 &&& (((1 : Int32) <<< ((h20.1 0 1) &&& 31)) - (1 : Int32)))) fun (x49 : Int32) => ∃ n61, lp_Fe_leftByWay_61 n61 x49 (1 : Int32) (0 : Int32) (0 : Int32) (0 : Int32) h20 (fun (w61_3 : Int32) (w61_4 : Int32) => wp_Fe_factorial w61_4 h20 (fun (v199 : Int32) => P (w61_3 * v199) h20))))

def lp_Ways_mostAhead_4 : Nat → Int32 → Int32 → Int32 → Hp → (Int32 → Prop) → Prop
  | 0, _, _, _, _, _ => False
  | n + 1, a1, a2, a3, h, E => ((a1 ≤ a3) → E a2) ∧ ((¬ a1 ≤ a3) → (((5 : Int32) ≤ a3) → E a2) ∧ ((¬ (5 : Int32) ≤ a3) → (vp_in a3 5) ∧ lt ((jmax a2 (h.1 76 (a3).toNatClampNeg))) fun (x24 : Int32) => lt (a3 + (1 : Int32)) fun (x25 : Int32) => lp_Ways_mostAhead_4 n a1 x24 x25 h E))
def wp_Ways_mostAhead (p0 : Int32) (h : Hp) (P : Int32 → Prop) : Prop := ∃ n4, lp_Ways_mostAhead_4 n4 p0 (0 : Int32) (0 : Int32) h (fun (w4_2 : Int32) => P w4_2)

def lp_Ways_advance_8 : Nat → Int32 → Hp → (Hp → Prop) → (Bool → Hp → Prop) → Prop
  | 0, _, _, _, _ => False
  | n + 1, a2, h, E, P => ((a2 ≤ 0) → E h) ∧ ((¬ a2 ≤ 0) → (vp_in a2 5) ∧ wp_Ways_mostAhead a2 h (fun (v20 : Int32) => ((v20 < (h.1 76 (a2).toNatClampNeg)) → (vp_in a2 5) ∧ lt (wi h 76 (a2).toNatClampNeg (0 : Int32)) fun (h44 : Hp) => lt (a2 + (-1 : Int32)) fun (x45 : Int32) => lp_Ways_advance_8 n x45 h44 E P) ∧ ((¬ v20 < (h.1 76 (a2).toNatClampNeg)) → (vp_in a2 5) ∧ (vp_in a2 5) ∧ lt (wi h 76 (a2).toNatClampNeg ((h.1 76 (a2).toNatClampNeg) + (1 : Int32))) fun (h35 : Hp) => P true h35)))
def wp_Ways_advance (p0 : Int32) (h : Hp) (P : Bool → Hp → Prop) : Prop := lt (((jmin p0 (5 : Int32)) - (1 : Int32))) fun (x7 : Int32) => ∃ n8, lp_Ways_advance_8 n8 x7 h (fun (h8x : Hp) => P false h8x) P

def lp_Fe_bestWay_27 : Nat → Int32 → Int32 → Int32 → Hp → (Int32 → Hp → Prop) → Prop
  | 0, _, _, _, _, _ => False
  | n + 1, a1, a2, a3, h, E => (((60 : Int32) ≤ a3) → E a1 h) ∧ ((¬ (60 : Int32) ≤ a3) → wp_Ways_advance (h.1 0 1) h (fun (v41 : Bool) (h41 : Hp) => ((¬ v41 = true) → E a1 h41) ∧ ((v41 = true) → wp_Ways_row (h41.1 0 1) h41 (fun (v55 : Int32) => wp_Fe_leftByWay v55 h41 (fun (v63 : Int32) (h63 : Hp) => jn (fun (y80_1 : Int32) (y80_2 : Int32) => lt (a3 + (1 : Int32)) fun (x80 : Int32) => lp_Fe_bestWay_27 n y80_1 y80_2 x80 h63 E) (fun J80 => ((a2 ≤ v63) → J80 a1 a2) ∧ ((¬ a2 ≤ v63) → J80 v55 v63)))))))
def wp_Fe_bestWay  (h : Hp) (P : Int32 → Hp → Prop) : Prop := wp_Ways_start h (fun (h4 : Hp) => wp_Ways_row (h4.1 0 1) h4 (fun (v15 : Int32) => wp_Fe_leftByWay v15 h4 (fun (v21 : Int32) (h21 : Hp) => ∃ n27, lp_Fe_bestWay_27 n27 v15 v21 (0 : Int32) h21 (fun (w27_1 : Int32) (h27x : Hp) => P w27_1 h27x))))

def wp_Fe_ties (p0 : Int32) (h : Hp) (P : Int32 → Hp → Prop) : Prop := jn (τ := Prop) (((¬ (h.1 0 1) = 0) → wp_Fe_bestWay h (fun (v27 : Int32) (h27 : Hp) => ((¬ p0 = (-1 : Int32)) → wp_Fe_part v27 p0 (fun (v46 : Int32) => P (v46 - (1 : Int32)) h27)) ∧ ((p0 = (-1 : Int32)) → wp_Fe_leftByWay v27 h27 (fun (v38 : Int32) (h38 : Hp) => P v38 h38)))) ∧ (((h.1 0 1) = 0) → P (-1000000003 : Int32) h)) (fun J16 => ((p0 = (-1 : Int32)) → J16) ∧ ((¬ p0 = (-1 : Int32)) → wp_Fe_isNumber p0 h (fun (v7 : Bool) => ((v7 = true) → J16) ∧ ((¬ v7 = true) → P (-1000000001 : Int32) h))))

def lp_Fe_dry_30 : Nat → Int32 → Int32 → Int64 → Int32 → (Int64 → Prop) → Prop
  | 0, _, _, _, _, _ => False
  | n + 1, a1, a2, a3, a5, E => ((a1 ≤ a5) → E a3) ∧ ((¬ a1 ≤ a5) → lt (((a3 * ((a2).toInt64)) / (100 : Int64))) fun (x44 : Int64) => lt (a5 + (1 : Int32)) fun (x45 : Int32) => lp_Fe_dry_30 n a1 a2 x44 x45 E)
def wp_Fe_dry (p0 : Int32) (p1 : Int32) (P : Int32 → Prop) : Prop := ((p0 < 0) → P (-1000000002 : Int32)) ∧ ((¬ p0 < 0) → (((60 : Int32) < p0) → P (-1000000002 : Int32)) ∧ ((¬ (60 : Int32) < p0) → ((p1 < 0) → P (-1000000002 : Int32)) ∧ ((¬ p1 < 0) → ((p1 ≤ (100 : Int32)) → lt ((1000000000 : Int64)) fun (x26 : Int64) => ∃ n30, lp_Fe_dry_30 n30 p0 p1 x26 (0 : Int32) (fun (w30_3 : Int64) => P ((w30_3).toInt32))) ∧ ((¬ p1 ≤ (100 : Int32)) → P (-1000000002 : Int32)))))

def wp_Seen_take (r : Nat) (c0 : Nat) (p1 : Int32) (p2 : Int32) (p3 : Int32) (h : Hp) (P : Hp → Prop) : Prop := lt (wi h r 0 (h.1 c0 2)) fun (h5 : Hp) => lt (wi h5 r 1 (h5.1 c0 3)) fun (h13 : Hp) => lt (wi h13 r 2 (h13.1 c0 5)) fun (h21 : Hp) => lt (wi h21 r 3 p1) fun (h26 : Hp) => lt (wi h26 r 4 p2) fun (h31 : Hp) => (p3 = 0 ∨ p3 = 1) ∧ lt (wi h31 r 5 p3) fun (h37 : Hp) => P h37

def wp_Fe_see (p0 : Int32) (p1 : Int32) (p2 : Int32) (h : Hp) (P : Int32 → Hp → Prop) : Prop := wp_Fe_canHold p0 p1 h (fun (v3 : Bool) => ((v3 = true) → (((h.1 0 8) < (8 : Int32)) → (vp_in (h.1 0 8) 8) ∧ wp_Fe_nodeOf (h.1 26 4) p0 (fun (v45 : Int32) => wp_Fe_nodeOf (h.1 26 4) p1 (fun (v56 : Int32) => wp_Seen_take (29 + ((h.1 0 8)).toNatClampNeg) 26 v45 v56 p2 h (fun (h60 : Hp) => lt (wi h60 0 8 ((h60.1 0 8) + (1 : Int32))) fun (h70 : Hp) => P (h70.1 0 8) h70)))) ∧ ((¬ (h.1 0 8) < (8 : Int32)) → P (-1000000004 : Int32) h)) ∧ ((¬ v3 = true) → P (-1000000001 : Int32) h))

def wp_Fe_write (p0 : Int32) (p1 : Int32) (h : Hp) (P : Int32 → Hp → Prop) : Prop := wp_Fe_isNumber p0 h (fun (v2 : Bool) => ((¬ v2 = true) → P (-1000000001 : Int32) h) ∧ ((v2 = true) → wp_Fe_isNumber p1 h (fun (v10 : Bool) => ((v10 = true) → (((h.1 0 11) < (15 : Int32)) → (vp_in (h.1 0 11) 15) ∧ lt (wi h 70 ((h.1 0 11)).toNatClampNeg p0) fun (h40 : Hp) => (vp_in (h40.1 0 11) 15) ∧ lt (wi h40 71 ((h40.1 0 11)).toNatClampNeg p1) fun (h50 : Hp) => lt (wi h50 0 11 ((h50.1 0 11) + (1 : Int32))) fun (h58 : Hp) => P (h58.1 0 11) h58) ∧ ((¬ (h.1 0 11) < (15 : Int32)) → P (-1000000004 : Int32) h)) ∧ ((¬ v10 = true) → P (-1000000001 : Int32) h))))

def wp_Fe_tear  (h : Hp) (P : Int32 → Hp → Prop) : Prop := lt (((h.1 0 8) + (h.1 0 11))) fun (x9 : Int32) => lt (wi h 0 8 (0 : Int32)) fun (h12 : Hp) => lt (wi h12 0 11 (0 : Int32)) fun (h17 : Hp) => P x9 h17

def lp_Fe_judge_2 : Nat → Int32 → Hp → (Prop) → (Int32 → Prop) → Prop
  | 0, _, _, _, _ => False
  | n + 1, a1, h, E, P => (((h.1 0 11) ≤ a1) → E) ∧ ((¬ (h.1 0 11) ≤ a1) → (((15 : Int32) ≤ a1) → E) ∧ ((¬ (15 : Int32) ≤ a1) → (vp_in a1 15) ∧ lt ((h.1 70 (a1).toNatClampNeg)) fun (x22 : Int32) => jn (τ := Prop) (lt (a1 + (1 : Int32)) fun (x49 : Int32) => lp_Fe_judge_2 n x49 h E P) (fun J49 => ((x22 < 0) → J49) ∧ ((¬ x22 < 0) → (((5 : Int32) ≤ x22) → J49) ∧ ((¬ (5 : Int32) ≤ x22) → (vp_in x22 5) ∧ (vp_in a1 15) ∧ (((h.1 69 (x22).toNatClampNeg) = (h.1 71 (a1).toNatClampNeg)) → J49) ∧ ((¬ (h.1 69 (x22).toNatClampNeg) = (h.1 71 (a1).toNatClampNeg)) → P a1))))))
def wp_Fe_judge  (h : Hp) (P : Int32 → Prop) : Prop := ∃ n2, lp_Fe_judge_2 n2 (0 : Int32) h (P (-1 : Int32)) P

def wp_Fe_seed (p0 : Int32) (h : Hp) (P : Int32 → Hp → Prop) : Prop := ((0 ≤ p0) → lt ((h.1 3 0)) fun (x14 : Int32) => lt (wi h 3 0 p0) fun (h20 : Hp) => P x14 h20) ∧ ((¬ 0 ≤ p0) → P (-1000000002 : Int32) h)

def wp_Fe_keep (p0 : Int32) (h : Hp) (P : Int32 → Hp → Prop) : Prop := ((p0 < 0) → P (-1000000001 : Int32) h) ∧ ((¬ p0 < 0) → ((p0 < (2 : Int32)) → (vp_in p0 2) ∧ wp_State_become ((8 + (p0).toNatClampNeg) + 19) 26 h (fun (h27 : Hp) => lt (wi h27 (8 + (p0).toNatClampNeg) 1 (h27.1 3 0)) fun (h38 : Hp) => lt (wi h38 (8 + (p0).toNatClampNeg) 2 (1 : Int32)) fun (h43 : Hp) => wp_Past_clear h43 (fun (h50 : Hp) => P (1 : Int32) h50))) ∧ ((¬ p0 < (2 : Int32)) → P (-1000000001 : Int32) h))

def wp_Fe_goBack (p0 : Int32) (h : Hp) (P : Int32 → Hp → Prop) : Prop := ((p0 < 0) → P (-1000000001 : Int32) h) ∧ ((¬ p0 < 0) → ((p0 < (2 : Int32)) → (vp_in p0 2) ∧ ((¬ (h.1 (8 + (p0).toNatClampNeg) 2) = 0) → wp_State_become 26 ((8 + (p0).toNatClampNeg) + 19) h (fun (h37 : Hp) => lt (wi h37 3 0 (h37.1 (8 + (p0).toNatClampNeg) 1)) fun (h48 : Hp) => wp_Past_clear h48 (fun (h55 : Hp) => P (1 : Int32) h55))) ∧ (((h.1 (8 + (p0).toNatClampNeg) 2) = 0) → P (-1000000003 : Int32) h)) ∧ ((¬ p0 < (2 : Int32)) → P (-1000000001 : Int32) h))

def wp_Md_in (p0 : Int32) (p1 : Int32) (p2 : Int32) (P : Bool → Prop) : Prop := ((p0 < p1) → P false) ∧ ((¬ p0 < p1) → ((p2 < p0) → P false) ∧ ((¬ p2 < p0) → P true))

def wp_Md_has (p0 : Int32) (p1 : Int32) (P : Bool → Prop) : Prop := ((¬ ((p0 >>> (p1 &&& 31)) &&& (1 : Int32)) = (1 : Int32)) → P false) ∧ ((((p0 >>> (p1 &&& 31)) &&& (1 : Int32)) = (1 : Int32)) → P true)

def lp_Md_bits_4 : Nat → Int32 → Int32 → Int32 → (Int32 → Prop) → Prop
  | 0, _, _, _, _ => False
  | n + 1, a0, a1, a2, E => (((11 : Int32) ≤ a2) → E a1) ∧ ((¬ (11 : Int32) ≤ a2) → lt ((a1 + ((a0 >>> (a2 &&& 31)) &&& (1 : Int32)))) fun (x17 : Int32) => lt (a2 + (1 : Int32)) fun (x18 : Int32) => lp_Md_bits_4 n a0 x17 x18 E)
def wp_Md_bits (p0 : Int32) (P : Int32 → Prop) : Prop := ∃ n4, lp_Md_bits_4 n4 p0 (0 : Int32) (0 : Int32) (fun (w4_1 : Int32) => P w4_1)

def wp_Md_isWire (p0 : Int32) (h : Hp) (P : Bool → Prop) : Prop := wp_Md_in p0 (0 : Int32) ((h.1 7 0) - (1 : Int32)) (fun (v8 : Bool) => P v8)

def wp_Md_areEnds (p0 : Int32) (p1 : Int32) (h : Hp) (P : Bool → Prop) : Prop := wp_Md_isWire p0 h (fun (v2 : Bool) => ((¬ v2 = true) → P false) ∧ ((v2 = true) → jn (τ := Prop) (P true) (fun J26 => ((p1 = (-1 : Int32)) → J26) ∧ ((¬ p1 = (-1 : Int32)) → wp_Md_isWire p1 h (fun (v15 : Bool) => ((¬ v15 = true) → P false) ∧ ((v15 = true) → ((p0 = p1) → P false) ∧ ((¬ p0 = p1) → J26)))))))

def wp_Md_pair (p0 : Int32) (p1 : Int32) (P : Int32 → Prop) : Prop := jn (fun (z10_0 : Int32) => jn (fun (z21_0 : Int32) => P (((5 : Int32) * z10_0) + z21_0)) (fun J21 => ((p1 ≤ p0) → J21 p0) ∧ ((¬ p1 ≤ p0) → J21 p1))) (fun J10 => ((p1 ≤ p0) → J10 p1) ∧ ((¬ p1 ≤ p0) → J10 p0))

def wp_Md_doTouch (p0 : Int32) (p1 : Int32) (h : Hp) (P : Bool → Prop) : Prop := wp_Md_pair p0 p1 (fun (v6 : Int32) => wp_Md_has (h.1 7 6) v6 (fun (v9 : Bool) => P v9))

def lp_Md_touchMany_16 : Nat → Int32 → Int32 → Int32 → Hp → (Int32 → Prop) → Prop
  | 0, _, _, _, _, _ => False
  | n + 1, a2, a1, a3, h, E => (((h.1 7 0) ≤ a3) → E a1) ∧ ((¬ (h.1 7 0) ≤ a3) → wp_Md_doTouch a2 a3 h (fun (v28 : Bool) => jn (fun (z39_1 : Int32) => lt ((a1 + z39_1)) fun (x40 : Int32) => lt (a3 + (1 : Int32)) fun (x41 : Int32) => lp_Md_touchMany_16 n a2 x40 x41 h E) (fun J39 => ((¬ v28 = true) → J39 (0 : Int32)) ∧ ((v28 = true) → J39 (1 : Int32)))))
def lp_Md_touchMany_4 : Nat → Int32 → Int32 → Hp → (Int32 → Prop) → Prop
  | 0, _, _, _, _ => False
  | n + 1, a1, a2, h, E => (((h.1 7 0) ≤ a2) → E a1) ∧ ((¬ (h.1 7 0) ≤ a2) → lt ((a2 + (1 : Int32))) fun (x15 : Int32) => ∃ n16, lp_Md_touchMany_16 n16 a2 a1 x15 h (fun (w16_1 : Int32) => lt (a2 + (1 : Int32)) fun (x47 : Int32) => lp_Md_touchMany_4 n w16_1 x47 h E))
def wp_Md_touchMany  (h : Hp) (P : Int32 → Prop) : Prop := ∃ n4, lp_Md_touchMany_4 n4 (0 : Int32) (0 : Int32) h (fun (w4_1 : Int32) => P w4_1)

def wp_Md_feed (p0 : Int32) (h : Hp) (P : Int32 → Hp → Prop) : Prop := wp_Md_in p0 (0 : Int32) (255 : Int32) (fun (v5 : Bool) => ((v5 = true) → ((¬ (h.1 7 17) = (240 : Int32)) → (vp_in (h.1 7 17) 240) ∧ lt (wi h 84 ((h.1 7 17)).toNatClampNeg p0) fun (h36 : Hp) => lt (wi h36 7 17 ((h36.1 7 17) + (1 : Int32))) fun (h44 : Hp) => P (h44.1 7 17) h44) ∧ (((h.1 7 17) = (240 : Int32)) → P (-1000000004 : Int32) h)) ∧ ((¬ v5 = true) → P (-1000000002 : Int32) h))

def lp_Md_skip_0 : Nat → Hp → (Hp → Prop) → Prop
  | 0, _, _ => False
  | n + 1, h, E => (((h.1 7 17) ≤ (h.1 7 18)) → E h) ∧ ((¬ (h.1 7 17) ≤ (h.1 7 18)) → (vp_in (h.1 7 18) 240) ∧ ((¬ (h.1 84 ((h.1 7 18)).toNatClampNeg) = (32 : Int32)) → E h) ∧ (((h.1 84 ((h.1 7 18)).toNatClampNeg) = (32 : Int32)) → lt (wi h 7 18 ((h.1 7 18) + (1 : Int32))) fun (h32 : Hp) => lp_Md_skip_0 n h32 E))
def wp_Md_skip  (h : Hp) (P : Hp → Prop) : Prop := ∃ n0, lp_Md_skip_0 n0 h (fun (h0x : Hp) => P h0x)

def wp_Md_here  (h : Hp) (P : Int32 → Prop) : Prop := (((h.1 7 17) ≤ (h.1 7 18)) → P (-1 : Int32)) ∧ ((¬ (h.1 7 17) ≤ (h.1 7 18)) → (vp_in (h.1 7 18) 240) ∧ P (h.1 84 ((h.1 7 18)).toNatClampNeg))

def wp_Md_fails (p0 : Int32) (p1 : Int32) (h : Hp) (P : Bool → Hp → Prop) : Prop := lt (wi h 7 19 p0) fun (h2 : Hp) => lt (wi h2 7 18 p1) fun (h7 : Hp) => P false h7

def lp_Md_number_17 : Nat → Int32 → Int32 → Int32 → Int32 → Hp → (Int32 → Int32 → Hp → Prop) → Prop
  | 0, _, _, _, _, _, _ => False
  | n + 1, a1, a2, a3, a4, h, E => wp_Md_here h (fun (v18 : Int32) => wp_Md_in v18 (48 : Int32) (57 : Int32) (fun (v25 : Bool) => ((¬ v25 = true) → E a3 a4 h) ∧ ((v25 = true) → jn (fun (z53_0 : Int32) => lt (a4 + (1 : Int32)) fun (x54 : Int32) => lt (wi h 7 18 ((h.1 7 18) + (1 : Int32))) fun (h64 : Hp) => lp_Md_number_17 n a1 a2 z53_0 x54 h64 E) (fun J53 => (((3 : Int32) ≤ a4) → J53 a3) ∧ ((¬ (3 : Int32) ≤ a4) → wp_Md_here h (fun (v42 : Int32) => J53 ((((10 : Int32) * a3) + v42) - (48 : Int32))))))))
def wp_Md_number (p0 : Int32) (p1 : Int32) (h : Hp) (P : Bool → Hp → Prop) : Prop := wp_Md_skip h (fun (h1 : Hp) => lt (wi h1 7 26 (h1.1 7 18)) fun (h9 : Hp) => ∃ n17, lp_Md_number_17 n17 p0 p1 (0 : Int32) (0 : Int32) h9 (fun (w17_3 : Int32) (w17_4 : Int32) (h17x : Hp) => ((¬ w17_4 = 0) → lt (wi h17x 7 25 w17_3) fun (h87 : Hp) => jn (fun (h117 : Hp) => P true h117) (fun J117 => jn (τ := Prop) (wp_Md_fails (2 : Int32) (h87.1 7 26) h87 (fun (v111 : Bool) (h111 : Hp) => ((¬ v111 = true) → P false h111) ∧ ((v111 = true) → J117 h111))) (fun J105 => (((3 : Int32) < w17_4) → J105) ∧ ((¬ (3 : Int32) < w17_4) → wp_Md_in w17_3 p0 p1 (fun (v99 : Bool) => ((v99 = true) → J117 h87) ∧ ((¬ v99 = true) → J105)))))) ∧ ((w17_4 = 0) → wp_Md_fails (1 : Int32) (h17x.1 7 26) h17x (fun (v81 : Bool) (h81 : Hp) => P v81 h81))))

def wp_Md_ends  (h : Hp) (P : Bool → Hp → Prop) : Prop := wp_Md_skip h (fun (h1 : Hp) => wp_Md_here h1 (fun (v5 : Int32) => ((v5 = (59 : Int32)) → lt (wi h1 7 18 ((h1.1 7 18) + (1 : Int32))) fun (h30 : Hp) => P true h30) ∧ ((¬ v5 = (59 : Int32)) → wp_Md_fails (1 : Int32) (h1.1 7 18) h1 (fun (v19 : Bool) (h19 : Hp) => P v19 h19))))

def lp_Md_isRead_4 : Nat → Int32 → Int32 → Int32 → Hp → (Int32 → Prop) → Prop
  | 0, _, _, _, _, _ => False
  | n + 1, a1, a2, a3, h, E => (((h.1 7 21) ≤ a3) → E a2) ∧ ((¬ (h.1 7 21) ≤ a3) → jn (fun (z31_0 : Int32) => lt (a3 + (1 : Int32)) fun (x32 : Int32) => lp_Md_isRead_4 n a1 z31_0 x32 h E) (fun J31 => jn (τ := Prop) (J31 (1 : Int32)) (fun J26 => ((¬ a2 = 0) → J26) ∧ ((a2 = 0) → (vp_in a3 5) ∧ ((¬ (h.1 85 (a3).toNatClampNeg) = a1) → J31 (0 : Int32)) ∧ (((h.1 85 (a3).toNatClampNeg) = a1) → J26)))))
def wp_Md_isRead (p0 : Int32) (h : Hp) (P : Bool → Prop) : Prop := ∃ n4, lp_Md_isRead_4 n4 p0 (0 : Int32) (0 : Int32) h (fun (w4_2 : Int32) => (w4_2 = 0 ∨ w4_2 = 1) ∧ P (w4_2 == 1))

def lp_Md_isWhole_16 : Nat → Int32 → Int32 → Hp → (Int32 → Prop) → Prop
  | 0, _, _, _, _ => False
  | n + 1, a1, a2, h, E => (((h.1 7 21) ≤ a2) → E a1) ∧ ((¬ (h.1 7 21) ≤ a2) → jn (fun (z41_0 : Int32) => lt (a2 + (1 : Int32)) fun (x42 : Int32) => lp_Md_isWhole_16 n z41_0 x42 h E) (fun J41 => jn (τ := Prop) (J41 (0 : Int32)) (fun J40 => ((a1 = 0) → J40) ∧ ((¬ a1 = 0) → wp_Md_isRead a2 h (fun (v30 : Bool) => ((¬ v30 = true) → J40) ∧ ((v30 = true) → J41 (1 : Int32)))))))
def wp_Md_isWhole  (h : Hp) (P : Bool → Prop) : Prop := jn (fun (z13_0 : Int32) => ∃ n16, lp_Md_isWhole_16 n16 z13_0 (0 : Int32) h (fun (w16_1 : Int32) => (w16_1 = 0 ∨ w16_1 = 1) ∧ P (w16_1 == 1))) (fun J13 => (((h.1 7 21) ≤ (1 : Int32)) → J13 (0 : Int32)) ∧ ((¬ (h.1 7 21) ≤ (1 : Int32)) → J13 (1 : Int32)))

def wp_Md_readsOne  (h : Hp) (P : Bool → Hp → Prop) : Prop := wp_Md_number (0 : Int32) (4 : Int32) h (fun (v3 : Bool) (h3 : Hp) => ((v3 = true) → wp_Md_isRead (h3.1 7 25) h3 (fun (v16 : Bool) => ((¬ v16 = true) → (vp_in (h3.1 7 21) 5) ∧ lt (wi h3 85 ((h3.1 7 21)).toNatClampNeg (h3.1 7 25)) fun (h44 : Hp) => lt (wi h44 7 21 ((h44.1 7 21) + (1 : Int32))) fun (h52 : Hp) => wp_Md_skip h52 (fun (h56 : Hp) => P true h56)) ∧ ((v16 = true) → wp_Md_fails (4 : Int32) (h3.1 7 26) h3 (fun (v28 : Bool) (h28 : Hp) => P v28 h28)))) ∧ ((¬ v3 = true) → P false h3))

def lp_Md_readsCable_9 : Nat → Hp → (Hp → Prop) → (Bool → Hp → Prop) → Prop
  | 0, _, _, _ => False
  | n + 1, h, E, P => wp_Md_here h (fun (v10 : Int32) => ((¬ v10 = (44 : Int32)) → E h) ∧ ((v10 = (44 : Int32)) → (((5 : Int32) ≤ (h.1 7 21)) → E h) ∧ ((¬ (5 : Int32) ≤ (h.1 7 21)) → lt (wi h 7 18 ((h.1 7 18) + (1 : Int32))) fun (h33 : Hp) => wp_Md_readsOne h33 (fun (v37 : Bool) (h37 : Hp) => ((v37 = true) → lp_Md_readsCable_9 n h37 E P) ∧ ((¬ v37 = true) → P false h37)))))
def wp_Md_readsCable  (h : Hp) (P : Bool → Hp → Prop) : Prop := wp_Md_readsOne h (fun (v1 : Bool) (h1 : Hp) => ((v1 = true) → ∃ n9, lp_Md_readsCable_9 n9 h1 (fun (h9x : Hp) => wp_Md_isWhole h9x (fun (v46 : Bool) => ((¬ v46 = true) → wp_Md_fails (1 : Int32) (h9x.1 7 18) h9x (fun (v65 : Bool) (h65 : Hp) => P v65 h65)) ∧ ((v46 = true) → wp_Md_ends h9x (fun (v53 : Bool) (h53 : Hp) => P v53 h53)))) P) ∧ ((¬ v1 = true) → P false h1))

def wp_Md_readsKind  (h : Hp) (P : Bool → Hp → Prop) : Prop := wp_Md_number (0 : Int32) ((h.1 7 21) - (1 : Int32)) h (fun (v8 : Bool) (h8 : Hp) => ((v8 = true) → lt ((h8.1 7 25)) fun (x20 : Int32) => (vp_in x20 5) ∧ (((h8.1 86 (x20).toNatClampNeg) = 0) → wp_Md_number (1 : Int32) (3 : Int32) h8 (fun (v43 : Bool) (h43 : Hp) => ((v43 = true) → (vp_in x20 5) ∧ lt (wi h43 86 (x20).toNatClampNeg (h43.1 7 25)) fun (h60 : Hp) => wp_Md_ends h60 (fun (v62 : Bool) (h62 : Hp) => P v62 h62)) ∧ ((¬ v43 = true) → P false h43))) ∧ ((¬ (h8.1 86 (x20).toNatClampNeg) = 0) → wp_Md_fails (4 : Int32) (h8.1 7 26) h8 (fun (v36 : Bool) (h36 : Hp) => P v36 h36))) ∧ ((¬ v8 = true) → P false h8))

def wp_Md_readsTouch  (h : Hp) (P : Bool → Hp → Prop) : Prop := wp_Md_number (0 : Int32) ((h.1 7 21) - (1 : Int32)) h (fun (v8 : Bool) (h8 : Hp) => ((v8 = true) → lt ((h8.1 7 25)) fun (x20 : Int32) => wp_Md_number (0 : Int32) ((h8.1 7 21) - (1 : Int32)) h8 (fun (v29 : Bool) (h29 : Hp) => ((v29 = true) → jn (τ := Prop) (wp_Md_fails (4 : Int32) (h29.1 7 26) h29 (fun (v69 : Bool) (h69 : Hp) => P v69 h69)) (fun J63 => ((x20 = (h29.1 7 25)) → J63) ∧ ((¬ x20 = (h29.1 7 25)) → wp_Md_pair x20 (h29.1 7 25) (fun (v54 : Int32) => wp_Md_has (h29.1 7 22) v54 (fun (v57 : Bool) => ((¬ v57 = true) → wp_Md_pair x20 (h29.1 7 25) (fun (v84 : Int32) => lt (wi h29 7 22 ((h29.1 7 22) ||| ((1 : Int32) <<< (v84 &&& 31)))) fun (h89 : Hp) => wp_Md_ends h89 (fun (v93 : Bool) (h93 : Hp) => P v93 h93))) ∧ ((v57 = true) → J63)))))) ∧ ((¬ v29 = true) → P false h29))) ∧ ((¬ v8 = true) → P false h8))

def wp_Md_readsClause  (h : Hp) (P : Bool → Hp → Prop) : Prop := wp_Md_here h (fun (v1 : Int32) => lt ((h.1 7 18)) fun (x9 : Int32) => lt (wi h 7 18 ((h.1 7 18) + (1 : Int32))) fun (h17 : Hp) => ((¬ (h17.1 7 21) = 0) → ((¬ v1 = (107 : Int32)) → ((¬ v1 = (115 : Int32)) → jn (fun (z81_1 : Int32) => wp_Md_fails z81_1 x9 h17 (fun (v82 : Bool) (h82 : Hp) => P v82 h82)) (fun J81 => ((¬ v1 = (99 : Int32)) → J81 (1 : Int32)) ∧ ((v1 = (99 : Int32)) → J81 (3 : Int32)))) ∧ ((v1 = (115 : Int32)) → wp_Md_readsTouch h17 (fun (v65 : Bool) (h65 : Hp) => P v65 h65))) ∧ ((v1 = (107 : Int32)) → wp_Md_readsKind h17 (fun (v54 : Bool) (h54 : Hp) => P v54 h54))) ∧ (((h17.1 7 21) = 0) → ((¬ v1 = (99 : Int32)) → wp_Md_fails (1 : Int32) x9 h17 (fun (v43 : Bool) (h43 : Hp) => P v43 h43)) ∧ ((v1 = (99 : Int32)) → wp_Md_readsCable h17 (fun (v34 : Bool) (h34 : Hp) => P v34 h34))))

def lp_Md_readsAll_17 : Nat → Int32 → Hp → (Hp → Prop) → Prop
  | 0, _, _, _ => False
  | n + 1, a1, h, E => (((5 : Int32) ≤ a1) → E h) ∧ ((¬ (5 : Int32) ≤ a1) → (vp_in a1 5) ∧ lt (wi h 86 (a1).toNatClampNeg (0 : Int32)) fun (h28 : Hp) => lt (a1 + (1 : Int32)) fun (x29 : Int32) => lp_Md_readsAll_17 n x29 h28 E)
def lp_Md_readsAll_39 : Nat → Hp → (Hp → Prop) → (Bool → Hp → Prop) → Prop
  | 0, _, _, _ => False
  | n + 1, h, E, P => (((h.1 7 17) ≤ (h.1 7 18)) → E h) ∧ ((¬ (h.1 7 17) ≤ (h.1 7 18)) → wp_Md_readsClause h (fun (v51 : Bool) (h51 : Hp) => ((v51 = true) → wp_Md_skip h51 (fun (h60 : Hp) => lp_Md_readsAll_39 n h60 E P)) ∧ ((¬ v51 = true) → P false h51)))
def wp_Md_readsAll  (h : Hp) (P : Bool → Hp → Prop) : Prop := lt (wi h 7 18 (0 : Int32)) fun (h2 : Hp) => lt (wi h2 7 21 (0 : Int32)) fun (h7 : Hp) => lt (wi h7 7 22 (0 : Int32)) fun (h12 : Hp) => ∃ n17, lp_Md_readsAll_17 n17 (0 : Int32) h12 (fun (h17x : Hp) => wp_Md_skip h17x (fun (h36 : Hp) => ∃ n39, lp_Md_readsAll_39 n39 h36 (fun (h39x : Hp) => P true h39x) P))

def lp_Md_cable_53 : Nat → Int32 → Hp → (Hp → Prop) → Prop
  | 0, _, _, _ => False
  | n + 1, a2, h, E => (((5 : Int32) ≤ a2) → E h) ∧ ((¬ (5 : Int32) ≤ a2) → (vp_in a2 5) ∧ (vp_in a2 5) ∧ lt (wi h 77 (a2).toNatClampNeg (h.1 85 (a2).toNatClampNeg)) fun (h69 : Hp) => (vp_in a2 5) ∧ (vp_in a2 5) ∧ lt (wi h69 78 (a2).toNatClampNeg (h69.1 86 (a2).toNatClampNeg)) fun (h81 : Hp) => (vp_in a2 5) ∧ lt (wi h81 79 (a2).toNatClampNeg (0 : Int32)) fun (h88 : Hp) => (vp_in a2 5) ∧ lt (wi h88 80 (a2).toNatClampNeg (0 : Int32)) fun (h95 : Hp) => lt (a2 + (1 : Int32)) fun (x96 : Int32) => lp_Md_cable_53 n x96 h95 E)
def wp_Md_cable  (h : Hp) (P : Int32 → Hp → Prop) : Prop := wp_Md_readsAll h (fun (v1 : Bool) (h1 : Hp) => lt (wi h1 7 17 (0 : Int32)) fun (h7 : Hp) => ((v1 = true) → lt (wi h7 7 20 (-1 : Int32)) fun (h32 : Hp) => lt (wi h32 7 0 (h32.1 7 21)) fun (h40 : Hp) => lt (wi h40 7 6 (h40.1 7 22)) fun (h48 : Hp) => ∃ n53, lp_Md_cable_53 n53 (0 : Int32) h48 (fun (h53x : Hp) => lt (wi h53x 7 2 (0 : Int32)) fun (h104 : Hp) => lt (wi h104 7 3 (0 : Int32)) fun (h109 : Hp) => lt (wi h109 7 4 (0 : Int32)) fun (h114 : Hp) => lt (wi h114 7 5 (0 : Int32)) fun (h119 : Hp) => lt (wi h119 7 11 (0 : Int32)) fun (h124 : Hp) => lt (wi h124 7 13 (0 : Int32)) fun (h129 : Hp) => lt (wi h129 7 28 (0 : Int32)) fun (h134 : Hp) => (vp_in (0 : Int32) 2) ∧ lt (wi h134 90 ((0 : Int32)).toNatClampNeg (0 : Int32)) fun (h143 : Hp) => (vp_in (1 : Int32) 2) ∧ lt (wi h143 90 ((1 : Int32)).toNatClampNeg (0 : Int32)) fun (h150 : Hp) => P (h150.1 7 0) h150)) ∧ ((¬ v1 = true) → lt (wi h7 7 20 (h7.1 7 18)) fun (h19 : Hp) => P ((-10 : Int32) - (h19.1 7 19)) h19))

def wp_Md_fault  (h : Hp) (P : Int32 → Prop) : Prop := P (h.1 7 20)

def wp_Md_passesBy (p0 : Int32) (p1 : Int32) (P : Bool → Prop) : Prop := jn (τ := Prop) (P true) (fun J20 => ((p0 = 0) → J20) ∧ ((¬ p0 = 0) → ((p0 = (2 : Int32)) → J20) ∧ ((¬ p0 = (2 : Int32)) → ((¬ p0 = (3 : Int32)) → P false) ∧ ((p0 = (3 : Int32)) → ((¬ (irm p1 (2 : Int32)) = 0) → P false) ∧ (((irm p1 (2 : Int32)) = 0) → J20)))))

def lp_Md_farEndOf_5 : Nat → Nat → Int32 → Int32 → Int32 → Hp → (Int32 → Prop) → Prop
  | 0, _, _, _, _, _, _ => False
  | n + 1, e1, a2, a3, a4, h, E => (((h.1 7 0) ≤ a4) → E a3) ∧ ((¬ (h.1 7 0) ≤ a4) → (vp_in a4 (al e1)) ∧ jn (fun (z28_0 : Int32) => lt (a4 + (1 : Int32)) fun (x29 : Int32) => lp_Md_farEndOf_5 n e1 a2 z28_0 x29 h E) (fun J28 => ((¬ (h.1 e1 (a4).toNatClampNeg) = a2) → J28 a3) ∧ (((h.1 e1 (a4).toNatClampNeg) = a2) → J28 a4)))
def wp_Md_farEndOf (c0 : Nat) (p1 : Int32) (h : Hp) (P : Int32 → Prop) : Prop := ∃ n5, lp_Md_farEndOf_5 n5 c0 p1 (-1 : Int32) (0 : Int32) h (fun (w5_3 : Int32) => P w5_3)

def wp_Md_together (p0 : Int32) (p1 : Int32) (P : Int32 → Prop) : Prop := ((¬ (p0 &&& p1) = 0) → P (p0 ||| p1)) ∧ (((p0 &&& p1) = 0) → P p0)

def lp_Md_joinedOnce_103 : Nat → Nat → Int32 → Nat → Nat → Int32 → Int32 → Int32 → Int32 → Int32 → Hp → (Int32 → Prop) → Prop
  | 0, _, _, _, _, _, _, _, _, _, _, _ => False
  | n + 1, e2, a3, e4, e5, a6, a7, a9, a8, a11, h, E => ((a9 ≤ a11) → E a8) ∧ ((¬ a9 ≤ a11) → wp_Md_doTouch a11 a9 h (fun (v115 : Bool) => jn (fun (z140_0 : Int32) => lt (a11 + (1 : Int32)) fun (x142 : Int32) => lp_Md_joinedOnce_103 n e2 a3 e4 e5 a6 a7 a9 z140_0 x142 h E) (fun J140 => ((¬ v115 = true) → J140 a8) ∧ ((v115 = true) → wp_Md_together a8 (((1 : Int32) <<< (a11 &&& 31)) ||| ((1 : Int32) <<< (a9 &&& 31))) (fun (v132 : Int32) => J140 v132)))))
def lp_Md_joinedOnce_6 : Nat → Nat → Int32 → Nat → Nat → Int32 → Int32 → Int32 → Int32 → Hp → (Int32 → Prop) → Prop
  | 0, _, _, _, _, _, _, _, _, _, _ => False
  | n + 1, e2, a3, e4, e5, a6, a7, a8, a9, h, E => (((h.1 7 0) ≤ a9) → E a8) ∧ ((¬ (h.1 7 0) ≤ a9) → wp_Md_has a7 a9 (fun (v19 : Bool) => jn (fun (z36_0 : Int32) => wp_Md_passesBy z36_0 a3 (fun (v41 : Bool) => jn (fun (z72_0 : Int32) => jn (fun (z98_0 : Int32) => ∃ n103, lp_Md_joinedOnce_103 n103 e2 a3 e4 e5 a6 a7 a9 z98_0 (0 : Int32) h (fun (w103_8 : Int32) => lt (a9 + (1 : Int32)) fun (x148 : Int32) => lp_Md_joinedOnce_6 n e2 a3 e4 e5 a6 a7 w103_8 x148 h E)) (fun J98 => ((¬ z36_0 = (2 : Int32)) → J98 z72_0) ∧ ((z36_0 = (2 : Int32)) → wp_Md_together z72_0 (((1 : Int32) <<< (a9 &&& 31)) ||| (1024 : Int32)) (fun (v90 : Int32) => J98 v90)))) (fun J72 => ((¬ v41 = true) → J72 a8) ∧ ((v41 = true) → wp_Md_farEndOf e2 a9 h (fun (v59 : Int32) => wp_Md_together a8 (((1 : Int32) <<< (a9 &&& 31)) ||| ((32 : Int32) <<< (v59 &&& 31))) (fun (v64 : Int32) => J72 v64)))))) (fun J36 => ((¬ v19 = true) → (vp_in a9 5) ∧ J36 (h.1 78 (a9).toNatClampNeg)) ∧ ((v19 = true) → J36 (1 : Int32)))))
def lp_Md_joinedOnce_172 : Nat → Nat → Nat → Int32 → Int32 → Int32 → Int32 → Int32 → Int32 → Hp → (Int32 → Int32 → Prop) → Prop
  | 0, _, _, _, _, _, _, _, _, _, _ => False
  | n + 1, e4, e5, a6, a8, a9, a10, a11, a12, h, E => (((h.1 7 0) ≤ a12) → E a10 a11) ∧ ((¬ (h.1 7 0) ≤ a12) → (vp_in (a6 + a12) (al e4)) ∧ jn (fun (z204_1 : Int32) => lt ((a10 ||| z204_1)) fun (x205 : Int32) => (vp_in (a6 + a12) (al e5)) ∧ jn (fun (z231_1 : Int32) => lt ((a11 ||| z231_1)) fun (x232 : Int32) => lt (a12 + (1 : Int32)) fun (x234 : Int32) => lp_Md_joinedOnce_172 n e4 e5 a6 a8 a9 x205 x232 x234 h E) (fun J231 => ((¬ (h.1 e5 ((a6 + a12)).toNatClampNeg) = a9) → J231 (0 : Int32)) ∧ (((h.1 e5 ((a6 + a12)).toNatClampNeg) = a9) → J231 ((32 : Int32) <<< (a12 &&& 31))))) (fun J204 => ((¬ (h.1 e4 ((a6 + a12)).toNatClampNeg) = a9) → J204 (0 : Int32)) ∧ (((h.1 e4 ((a6 + a12)).toNatClampNeg) = a9) → J204 ((1 : Int32) <<< (a12 &&& 31)))))
def lp_Md_joinedOnce_157 : Nat → Nat → Nat → Int32 → Int32 → Int32 → Hp → (Int32 → Prop) → Prop
  | 0, _, _, _, _, _, _, _ => False
  | n + 1, e4, e5, a6, a8, a9, h, E => (((5 : Int32) < a9) → E a8) ∧ ((¬ (5 : Int32) < a9) → ∃ n172, lp_Md_joinedOnce_172 n172 e4 e5 a6 a8 a9 (0 : Int32) (0 : Int32) (0 : Int32) h (fun (w172_10 : Int32) (w172_11 : Int32) => wp_Md_together a8 w172_10 (fun (v244 : Int32) => wp_Md_together v244 w172_11 (fun (v249 : Int32) => lt (a9 + (1 : Int32)) fun (x254 : Int32) => lp_Md_joinedOnce_157 n e4 e5 a6 v249 x254 h E))))
def wp_Md_joinedOnce (p0 : Int32) (c1 : Nat) (p2 : Int32) (c3 : Nat) (c4 : Nat) (p5 : Int32) (p6 : Int32) (h : Hp) (P : Int32 → Prop) : Prop := ∃ n6, lp_Md_joinedOnce_6 n6 c1 p2 c3 c4 p5 p6 p0 (0 : Int32) h (fun (w6_8 : Int32) => ∃ n157, lp_Md_joinedOnce_157 n157 c3 c4 p5 w6_8 (1 : Int32) h (fun (w157_8 : Int32) => P w157_8))

def lp_Md_joined_23 : Nat → Nat → Int32 → Nat → Nat → Int32 → Int32 → Int32 → Int32 → Hp → (Int32 → Prop) → Prop
  | 0, _, _, _, _, _, _, _, _, _, _ => False
  | n + 1, e2, a3, e4, e5, a6, a7, a8, a9, h, E => ((a9 = a8) → E a8) ∧ ((¬ a9 = a8) → wp_Md_joinedOnce a9 e2 a3 e4 e5 a6 a7 h (fun (v47 : Int32) => lp_Md_joined_23 n e2 a3 e4 e5 a6 a7 a9 v47 h E))
def wp_Md_joined (p0 : Int32) (c1 : Nat) (p2 : Int32) (c3 : Nat) (c4 : Nat) (p5 : Int32) (p6 : Int32) (h : Hp) (P : Int32 → Prop) : Prop := lt (((1 : Int32) <<< (p0 &&& 31))) fun (x3 : Int32) => wp_Md_joinedOnce x3 c1 p2 c3 c4 p5 p6 h (fun (v18 : Int32) => ∃ n23, lp_Md_joined_23 n23 c1 p2 c3 c4 p5 p6 x3 v18 h (fun (w23_8 : Int32) => P w23_8))

def wp_Md_netNow (p0 : Int32) (p1 : Int32) (p2 : Int32) (h : Hp) (P : Int32 → Prop) : Prop := wp_Md_joined (((5 : Int32) * p0) + p1) 77 (h.1 7 3) 79 80 (0 : Int32) p2 h (fun (v24 : Int32) => P v24)

def wp_Md_bitOf (p0 : Int32) (p1 : Int32) (P : Int32 → Prop) : Prop := ((¬ p1 = (-1 : Int32)) → P (((5 : Int32) * p0) + p1)) ∧ ((p1 = (-1 : Int32)) → P (10 : Int32))

def wp_Md_ringsNow (p0 : Int32) (p1 : Int32) (p2 : Int32) (h : Hp) (P : Bool → Prop) : Prop := wp_Md_netNow (h.1 7 2) p0 p2 h (fun (v7 : Int32) => wp_Md_bitOf (h.1 7 2) p1 (fun (v15 : Int32) => wp_Md_has v7 v15 (fun (v18 : Bool) => P v18)))

def lp_Md_goodSet_4 : Nat → Int32 → Int32 → Hp → (Int32 → Prop) → Prop
  | 0, _, _, _, _ => False
  | n + 1, a1, a2, h, E => (((h.1 7 0) ≤ a2) → E a1) ∧ ((¬ (h.1 7 0) ≤ a2) → wp_Md_netNow (1 : Int32) a2 (0 : Int32) h (fun (v17 : Int32) => (vp_in a2 5) ∧ wp_Md_has v17 (h.1 77 (a2).toNatClampNeg) (fun (v26 : Bool) => jn (fun (z44_1 : Int32) => lt ((a1 ||| z44_1)) fun (x45 : Int32) => lt (a2 + (1 : Int32)) fun (x46 : Int32) => lp_Md_goodSet_4 n x45 x46 h E) (fun J44 => ((¬ v26 = true) → J44 (0 : Int32)) ∧ ((v26 = true) → (vp_in a2 5) ∧ J44 ((1 : Int32) <<< ((h.1 77 (a2).toNatClampNeg) &&& 31)))))))
def wp_Md_goodSet  (h : Hp) (P : Int32 → Prop) : Prop := ∃ n4, lp_Md_goodSet_4 n4 (0 : Int32) (0 : Int32) h (fun (w4_1 : Int32) => P w4_1)

def wp_Md_wire (p0 : Int32) (p1 : Int32) (h : Hp) (P : Int32 → Prop) : Prop := wp_Md_isWire p0 h (fun (v2 : Bool) => ((v2 = true) → wp_Md_in p1 (0 : Int32) (3 : Int32) (fun (v14 : Bool) => ((v14 = true) → ((¬ p1 = 0) → ((¬ p1 = (1 : Int32)) → ((¬ p1 = (2 : Int32)) → (vp_in p0 5) ∧ P (h.1 79 (p0).toNatClampNeg)) ∧ ((p1 = (2 : Int32)) → (vp_in p0 5) ∧ wp_Md_passesBy (h.1 78 (p0).toNatClampNeg) (h.1 7 3) (fun (v68 : Bool) => ((¬ v68 = true) → P (0 : Int32)) ∧ ((v68 = true) → P (1 : Int32))))) ∧ ((p1 = (1 : Int32)) → wp_Md_farEndOf 77 p0 h (fun (v47 : Int32) => P v47))) ∧ ((p1 = 0) → (vp_in p0 5) ∧ P (h.1 78 (p0).toNatClampNeg))) ∧ ((¬ v14 = true) → P (-1000000002 : Int32)))) ∧ ((¬ v2 = true) → P (-1000000001 : Int32)))

def wp_Md_net (p0 : Int32) (p1 : Int32) (h : Hp) (P : Int32 → Prop) : Prop := wp_Md_isWire p1 h (fun (v2 : Bool) => ((v2 = true) → wp_Md_in p0 (0 : Int32) (1 : Int32) (fun (v14 : Bool) => ((¬ v14 = true) → P (-1000000002 : Int32)) ∧ ((v14 = true) → wp_Md_netNow p0 p1 (0 : Int32) h (fun (v24 : Int32) => P v24)))) ∧ ((¬ v2 = true) → P (-1000000001 : Int32)))

def wp_Md_rings (p0 : Int32) (p1 : Int32) (h : Hp) (P : Int32 → Prop) : Prop := wp_Md_areEnds p0 p1 h (fun (v3 : Bool) => ((v3 = true) → wp_Md_ringsNow p0 p1 (0 : Int32) h (fun (v16 : Bool) => ((¬ v16 = true) → P (0 : Int32)) ∧ ((v16 = true) → P (1 : Int32)))) ∧ ((¬ v3 = true) → P (-1000000001 : Int32)))

def wp_Md_touches (p0 : Int32) (p1 : Int32) (h : Hp) (P : Int32 → Prop) : Prop := wp_Md_isWire p0 h (fun (v2 : Bool) => ((¬ v2 = true) → P (-1000000001 : Int32)) ∧ ((v2 = true) → wp_Md_isWire p1 h (fun (v10 : Bool) => ((¬ v10 = true) → P (-1000000001 : Int32)) ∧ ((v10 = true) → ((¬ p0 = p1) → wp_Md_doTouch p0 p1 h (fun (v27 : Bool) => ((¬ v27 = true) → P (0 : Int32)) ∧ ((v27 = true) → P (1 : Int32)))) ∧ ((p0 = p1) → P (-1000000001 : Int32))))))

def lp_Md_lays_45 : Nat → Nat → Int32 → Int32 → Hp → (Hp → Prop) → Prop
  | 0, _, _, _, _, _ => False
  | n + 1, e1, a2, a3, h, E => (((5 : Int32) ≤ a3) → E h) ∧ ((¬ (5 : Int32) ≤ a3) → (vp_in a3 5) ∧ (vp_in ((a2 + (5 : Int32)) + a3) (al e1)) ∧ lt (wi h e1 (((a2 + (5 : Int32)) + a3)).toNatClampNeg (h.1 78 (a3).toNatClampNeg)) fun (h62 : Hp) => (vp_in a3 5) ∧ (vp_in ((a2 + (10 : Int32)) + a3) (al e1)) ∧ lt (wi h62 e1 (((a2 + (10 : Int32)) + a3)).toNatClampNeg (h62.1 79 (a3).toNatClampNeg)) fun (h76 : Hp) => (vp_in a3 5) ∧ (vp_in ((a2 + (15 : Int32)) + a3) (al e1)) ∧ lt (wi h76 e1 (((a2 + (15 : Int32)) + a3)).toNatClampNeg (h76.1 80 (a3).toNatClampNeg)) fun (h90 : Hp) => lt (a3 + (1 : Int32)) fun (x91 : Int32) => lp_Md_lays_45 n e1 a2 x91 h90 E)
def wp_Md_lays (c0 : Nat) (p1 : Int32) (h : Hp) (P : Hp → Prop) : Prop := (vp_in p1 (al c0)) ∧ lt (wi h c0 (p1).toNatClampNeg (h.1 7 2)) fun (h6 : Hp) => (vp_in (p1 + (1 : Int32)) (al c0)) ∧ lt (wi h6 c0 ((p1 + (1 : Int32))).toNatClampNeg (h6.1 7 3)) fun (h15 : Hp) => (vp_in (p1 + (2 : Int32)) (al c0)) ∧ lt (wi h15 c0 ((p1 + (2 : Int32))).toNatClampNeg (h15.1 7 4)) fun (h24 : Hp) => (vp_in (p1 + (3 : Int32)) (al c0)) ∧ lt (wi h24 c0 ((p1 + (3 : Int32))).toNatClampNeg (h24.1 7 5)) fun (h33 : Hp) => (vp_in (p1 + (4 : Int32)) (al c0)) ∧ lt (wi h33 c0 ((p1 + (4 : Int32))).toNatClampNeg (h33.1 7 6)) fun (h42 : Hp) => ∃ n45, lp_Md_lays_45 n45 c0 p1 (0 : Int32) h42 (fun (h45x : Hp) => P h45x)

def lp_Md_takes_45 : Nat → Nat → Int32 → Int32 → Hp → (Hp → Prop) → Prop
  | 0, _, _, _, _, _ => False
  | n + 1, e1, a2, a3, h, E => (((5 : Int32) ≤ a3) → E h) ∧ ((¬ (5 : Int32) ≤ a3) → (vp_in ((a2 + (5 : Int32)) + a3) (al e1)) ∧ (vp_in a3 5) ∧ lt (wi h 78 (a3).toNatClampNeg (h.1 e1 (((a2 + (5 : Int32)) + a3)).toNatClampNeg)) fun (h62 : Hp) => (vp_in ((a2 + (10 : Int32)) + a3) (al e1)) ∧ (vp_in a3 5) ∧ lt (wi h62 79 (a3).toNatClampNeg (h62.1 e1 (((a2 + (10 : Int32)) + a3)).toNatClampNeg)) fun (h76 : Hp) => (vp_in ((a2 + (15 : Int32)) + a3) (al e1)) ∧ (vp_in a3 5) ∧ lt (wi h76 80 (a3).toNatClampNeg (h76.1 e1 (((a2 + (15 : Int32)) + a3)).toNatClampNeg)) fun (h90 : Hp) => lt (a3 + (1 : Int32)) fun (x91 : Int32) => lp_Md_takes_45 n e1 a2 x91 h90 E)
def wp_Md_takes (c0 : Nat) (p1 : Int32) (h : Hp) (P : Hp → Prop) : Prop := (vp_in p1 (al c0)) ∧ lt (wi h 7 2 (h.1 c0 (p1).toNatClampNeg)) fun (h4 : Hp) => (vp_in (p1 + (1 : Int32)) (al c0)) ∧ lt (wi h4 7 3 (h4.1 c0 ((p1 + (1 : Int32))).toNatClampNeg)) fun (h13 : Hp) => (vp_in (p1 + (2 : Int32)) (al c0)) ∧ lt (wi h13 7 4 (h13.1 c0 ((p1 + (2 : Int32))).toNatClampNeg)) fun (h22 : Hp) => (vp_in (p1 + (3 : Int32)) (al c0)) ∧ lt (wi h22 7 5 (h22.1 c0 ((p1 + (3 : Int32))).toNatClampNeg)) fun (h31 : Hp) => (vp_in (p1 + (4 : Int32)) (al c0)) ∧ lt (wi h31 7 6 (h31.1 c0 ((p1 + (4 : Int32))).toNatClampNeg)) fun (h40 : Hp) => ∃ n45, lp_Md_takes_45 n45 c0 p1 (0 : Int32) h40 (fun (h45x : Hp) => P h45x)

def lp_Md_notes_11 : Nat → Int32 → Hp → (Hp → Prop) → Prop
  | 0, _, _, _ => False
  | n + 1, a1, h, E => (((300 : Int32) ≤ a1) → E h) ∧ ((¬ (300 : Int32) ≤ a1) → (vp_in (a1 + (20 : Int32)) 320) ∧ (vp_in a1 320) ∧ lt (wi h 87 (a1).toNatClampNeg (h.1 87 ((a1 + (20 : Int32))).toNatClampNeg)) fun (h32 : Hp) => lt (a1 + (1 : Int32)) fun (x33 : Int32) => lp_Md_notes_11 n x33 h32 E)
def wp_Md_notes  (h : Hp) (P : Hp → Prop) : Prop := jn (fun (h49 : Hp) => wp_Md_lays 87 ((20 : Int32) * (h49.1 7 28)) h49 (fun (h61 : Hp) => lt (wi h61 7 28 ((h61.1 7 28) + (1 : Int32))) fun (h71 : Hp) => P h71)) (fun J49 => ((¬ (h.1 7 28) = (16 : Int32)) → J49 h) ∧ (((h.1 7 28) = (16 : Int32)) → ∃ n11, lp_Md_notes_11 n11 (0 : Int32) h (fun (h11x : Hp) => lt (wi h11x 7 28 ((h11x.1 7 28) - (1 : Int32))) fun (h46 : Hp) => J49 h46)))

def wp_Md_groupOf (p0 : Int32) (h : Hp) (P : Int32 → Prop) : Prop := ((¬ (h.1 7 2) = 0) → (vp_in p0 5) ∧ P (h.1 80 (p0).toNatClampNeg)) ∧ (((h.1 7 2) = 0) → (vp_in p0 5) ∧ P (h.1 79 (p0).toNatClampNeg))

def wp_Md_comesInto (p0 : Int32) (p1 : Int32) (h : Hp) (P : Hp → Prop) : Prop := ((¬ (h.1 7 2) = 0) → (vp_in p0 5) ∧ lt (wi h 80 (p0).toNatClampNeg p1) fun (h23 : Hp) => P h23) ∧ (((h.1 7 2) = 0) → (vp_in p0 5) ∧ lt (wi h 79 (p0).toNatClampNeg p1) fun (h13 : Hp) => P h13)

def wp_Md_goesOver  (h : Hp) (P : Hp → Prop) : Prop := lt (wi h 7 2 ((1 : Int32) - (h.1 7 2))) fun (h7 : Hp) => jn (fun (z30_2 : Int32) => lt (wi h7 7 4 ((h7.1 7 4) + z30_2)) fun (h31 : Hp) => P h31) (fun J30 => (((9999 : Int32) ≤ (h7.1 7 4)) → J30 (0 : Int32)) ∧ ((¬ (9999 : Int32) ≤ (h7.1 7 4)) → J30 (1 : Int32)))

def wp_Md_tested  (h : Hp) (P : Hp → Prop) : Prop := jn (fun (z20_2 : Int32) => lt (wi h 7 5 ((h.1 7 5) + z20_2)) fun (h21 : Hp) => P h21) (fun J20 => (((9999 : Int32) ≤ (h.1 7 5)) → J20 (0 : Int32)) ∧ ((¬ (9999 : Int32) ≤ (h.1 7 5)) → J20 (1 : Int32)))

def wp_Md_tie (p0 : Int32) (p1 : Int32) (h : Hp) (P : Int32 → Hp → Prop) : Prop := wp_Md_isWire p0 h (fun (v2 : Bool) => ((v2 = true) → wp_Md_in p1 (0 : Int32) (3 : Int32) (fun (v14 : Bool) => ((v14 = true) → wp_Md_groupOf p0 h (fun (v25 : Int32) => ((¬ v25 = p1) → wp_Md_notes h (fun (h38 : Hp) => wp_Md_comesInto p0 p1 h38 (fun (h44 : Hp) => P v25 h44))) ∧ ((v25 = p1) → P (-1000000003 : Int32) h))) ∧ ((¬ v14 = true) → P (-1000000002 : Int32) h))) ∧ ((¬ v2 = true) → P (-1000000001 : Int32) h))

def wp_Md_cross  (h : Hp) (P : Int32 → Hp → Prop) : Prop := ((¬ (h.1 7 0) = 0) → (((h.1 7 3) ≤ (9000 : Int32)) → wp_Md_notes h (fun (h24 : Hp) => wp_Md_goesOver h24 (fun (h28 : Hp) => lt (wi h28 7 3 ((h28.1 7 3) + (1 : Int32))) fun (h38 : Hp) => P (h38.1 7 3) h38))) ∧ ((¬ (h.1 7 3) ≤ (9000 : Int32)) → P (-1000000004 : Int32) h)) ∧ (((h.1 7 0) = 0) → P (-1000000003 : Int32) h)

def wp_Md_test (p0 : Int32) (p1 : Int32) (h : Hp) (P : Int32 → Hp → Prop) : Prop := wp_Md_areEnds p0 p1 h (fun (v3 : Bool) => ((v3 = true) → wp_Md_notes h (fun (h13 : Hp) => wp_Md_tested h13 (fun (h17 : Hp) => wp_Md_ringsNow p0 p1 (0 : Int32) h17 (fun (v24 : Bool) => ((¬ v24 = true) → P (0 : Int32) h17) ∧ ((v24 = true) → P (1 : Int32) h17))))) ∧ ((¬ v3 = true) → P (-1000000001 : Int32) h))

def wp_Md_mayGoOn (p0 : Int32) (h : Hp) (P : Int32 → Prop) : Prop := wp_Md_in p0 (1 : Int32) (60 : Int32) (fun (v4 : Bool) => ((v4 = true) → ((¬ (h.1 7 0) = 0) → (((h.1 7 3) ≤ (9000 : Int32)) → P (0 : Int32)) ∧ ((¬ (h.1 7 3) ≤ (9000 : Int32)) → P (-1000000004 : Int32))) ∧ (((h.1 7 0) = 0) → P (-1000000003 : Int32))) ∧ ((¬ v4 = true) → P (-1000000002 : Int32)))

def wp_Md_rest (p0 : Int32) (h : Hp) (P : Int32 → Hp → Prop) : Prop := wp_Md_mayGoOn p0 h (fun (v2 : Int32) => ((0 ≤ v2) → wp_Md_notes h (fun (h13 : Hp) => lt (wi h13 7 3 ((h13.1 7 3) + p0)) fun (h23 : Hp) => P (h23.1 7 3) h23)) ∧ ((¬ 0 ≤ v2) → P v2 h))

def wp_Md_mend (p0 : Int32) (p1 : Int32) (h : Hp) (P : Int32 → Hp → Prop) : Prop := wp_Md_isWire p0 h (fun (v2 : Bool) => ((v2 = true) → wp_Md_in p1 (0 : Int32) (3 : Int32) (fun (v14 : Bool) => ((v14 = true) → (vp_in p0 5) ∧ lt ((h.1 78 (p0).toNatClampNeg)) fun (x29 : Int32) => ((¬ x29 = p1) → wp_Md_notes h (fun (h39 : Hp) => (vp_in p0 5) ∧ lt (wi h39 78 (p0).toNatClampNeg p1) fun (h48 : Hp) => P x29 h48)) ∧ ((x29 = p1) → P (-1000000003 : Int32) h)) ∧ ((¬ v14 = true) → P (-1000000002 : Int32) h))) ∧ ((¬ v2 = true) → P (-1000000001 : Int32) h))

def wp_Md_touch (p0 : Int32) (p1 : Int32) (p2 : Int32) (h : Hp) (P : Int32 → Hp → Prop) : Prop := wp_Md_isWire p0 h (fun (v2 : Bool) => ((¬ v2 = true) → P (-1000000001 : Int32) h) ∧ ((v2 = true) → wp_Md_isWire p1 h (fun (v10 : Bool) => ((¬ v10 = true) → P (-1000000001 : Int32) h) ∧ ((v10 = true) → ((¬ p0 = p1) → wp_Md_doTouch p0 p1 h (fun (v27 : Bool) => ((¬ (bI v27) = p2) → wp_Md_notes h (fun (h38 : Hp) => wp_Md_pair p0 p1 (fun (v49 : Int32) => lt (wi h38 7 6 ((h38.1 7 6) ^^^ ((1 : Int32) <<< (v49 &&& 31)))) fun (h54 : Hp) => wp_Md_touchMany h54 (fun (v58 : Int32) => P v58 h54)))) ∧ (((bI v27) = p2) → P (-1000000003 : Int32) h))) ∧ ((p0 = p1) → P (-1000000001 : Int32) h)))))

def wp_Md_draw (p0 : Int32) (h : Hp) (P : Int32 → Hp → Prop) : Prop := lt (wl h 7 10 (lrm (((h.2 7 10) * (1103515245 : Int64)) + (12345 : Int64)) (2147483648 : Int64))) fun (h17 : Hp) => (¬ ((p0).toInt64) = 0) ∧ P (((lrm ((h17.2 7 10) / (65536 : Int64)) ((p0).toInt64))).toInt32) h17

def wp_Md_driftsHour  (h : Hp) (P : Hp → Prop) : Prop := wp_Md_draw (4 : Int32) h (fun (v2 : Int32) (h2 : Hp) => wp_Md_draw (h2.1 7 0) h2 (fun (v11 : Int32) (h11 : Hp) => jn (fun (h79 : Hp) => lt (wi h79 7 3 ((h79.1 7 3) + (1 : Int32))) fun (h86 : Hp) => P h86) (fun J79 => ((¬ v2 = 0) → ((¬ v2 = (1 : Int32)) → ((¬ v2 = (2 : Int32)) → wp_Md_draw (4 : Int32) h11 (fun (v75 : Int32) (h75 : Hp) => (vp_in v11 5) ∧ lt (wi h75 78 (v11).toNatClampNeg v75) fun (h78 : Hp) => J79 h78)) ∧ ((v2 = (2 : Int32)) → wp_Md_goesOver h11 (fun (h62 : Hp) => J79 h62))) ∧ ((v2 = (1 : Int32)) → wp_Md_draw (h11.1 7 0) h11 (fun (v42 : Int32) (h42 : Hp) => ((v42 = v11) → J79 h42) ∧ ((¬ v42 = v11) → wp_Md_tested h42 (fun (h50 : Hp) => J79 h50))))) ∧ ((v2 = 0) → wp_Md_draw (4 : Int32) h11 (fun (v23 : Int32) (h23 : Hp) => wp_Md_comesInto v11 v23 h23 (fun (h26 : Hp) => J79 h26))))))

def lp_Md_drift_18 : Nat → Int32 → Int32 → Hp → (Hp → Prop) → Prop
  | 0, _, _, _, _ => False
  | n + 1, a1, a3, h, E => ((a1 ≤ a3) → E h) ∧ ((¬ a1 ≤ a3) → wp_Md_driftsHour h (fun (h24 : Hp) => lt (a3 + (1 : Int32)) fun (x27 : Int32) => lp_Md_drift_18 n a1 x27 h24 E))
def wp_Md_drift (p0 : Int32) (h : Hp) (P : Int32 → Hp → Prop) : Prop := wp_Md_mayGoOn p0 h (fun (v2 : Int32) => ((0 ≤ v2) → wp_Md_notes h (fun (h13 : Hp) => ∃ n18, lp_Md_drift_18 n18 p0 (0 : Int32) h13 (fun (h18x : Hp) => P (h18x.1 7 3) h18x))) ∧ ((¬ 0 ≤ v2) → P v2 h))

def wp_Md_undo  (h : Hp) (P : Int32 → Hp → Prop) : Prop := ((¬ (h.1 7 28) = 0) → lt (wi h 7 28 ((h.1 7 28) - (1 : Int32))) fun (h17 : Hp) => wp_Md_takes 87 ((20 : Int32) * (h17.1 7 28)) h17 (fun (h32 : Hp) => P (h32.1 7 28) h32)) ∧ (((h.1 7 28) = 0) → P (-1000000003 : Int32) h)

def lp_Md_cut_27 : Nat → Int32 → Int32 → Int32 → Int32 → Int32 → Hp → (Int32 → Prop) → Prop
  | 0, _, _, _, _, _, _, _ => False
  | n + 1, a1, a2, a3, a4, a5, h, E => ((((1 : Int32) <<< ((h.1 7 0) &&& 31)) ≤ a5) → E a3) ∧ ((¬ ((1 : Int32) <<< ((h.1 7 0) &&& 31)) ≤ a5) → wp_Md_bits a5 (fun (v40 : Int32) => jn (fun (y69_3 : Int32) (y69_4 : Int32) => lt (a5 + (1 : Int32)) fun (x69 : Int32) => lp_Md_cut_27 n a1 a2 y69_3 y69_4 x69 h E) (fun J69 => ((a4 ≤ v40) → J69 a3 a4) ∧ ((¬ a4 ≤ v40) → wp_Md_ringsNow a1 a2 a5 h (fun (v53 : Bool) => ((v53 = true) → J69 a3 a4) ∧ ((¬ v53 = true) → wp_Md_bits a5 (fun (v64 : Int32) => J69 a5 v64)))))))
def wp_Md_cut (p0 : Int32) (p1 : Int32) (h : Hp) (P : Int32 → Prop) : Prop := ((p1 = (-1 : Int32)) → P (-1000000001 : Int32)) ∧ ((¬ p1 = (-1 : Int32)) → wp_Md_areEnds p0 p1 h (fun (v8 : Bool) => ((v8 = true) → ∃ n27, lp_Md_cut_27 n27 p0 p1 (-1 : Int32) (1048576 : Int32) (0 : Int32) h (fun (w27_3 : Int32) => P w27_3)) ∧ ((¬ v8 = true) → P (-1000000001 : Int32))))

def lp_Md_firstOrder_2 : Nat → Int32 → Hp → (Hp → Prop) → Prop
  | 0, _, _, _ => False
  | n + 1, a1, h, E => (((5 : Int32) ≤ a1) → E h) ∧ ((¬ (5 : Int32) ≤ a1) → (vp_in a1 5) ∧ lt (wi h 91 (a1).toNatClampNeg a1) fun (h13 : Hp) => lt (a1 + (1 : Int32)) fun (x14 : Int32) => lp_Md_firstOrder_2 n x14 h13 E)
def wp_Md_firstOrder  (h : Hp) (P : Hp → Prop) : Prop := ∃ n2, lp_Md_firstOrder_2 n2 (0 : Int32) h (fun (h2x : Hp) => P h2x)

def lp_Md_nextOrder_7 : Nat → Int32 → Hp → (Int32 → Prop) → Prop
  | 0, _, _, _ => False
  | n + 1, a1, h, E => ((a1 < 0) → E a1) ∧ ((¬ a1 < 0) → (vp_in a1 5) ∧ (vp_in (a1 + (1 : Int32)) 5) ∧ (((h.1 91 (a1).toNatClampNeg) ≤ (h.1 91 ((a1 + (1 : Int32))).toNatClampNeg)) → E a1) ∧ ((¬ (h.1 91 (a1).toNatClampNeg) ≤ (h.1 91 ((a1 + (1 : Int32))).toNatClampNeg)) → lt (a1 + (-1 : Int32)) fun (x28 : Int32) => lp_Md_nextOrder_7 n x28 h E))
def lp_Md_nextOrder_47 : Nat → Int32 → Int32 → Hp → (Int32 → Prop) → Prop
  | 0, _, _, _, _ => False
  | n + 1, a1, a2, h, E => (vp_in a2 5) ∧ (vp_in a1 5) ∧ (((h.1 91 (a1).toNatClampNeg) ≤ (h.1 91 (a2).toNatClampNeg)) → E a2) ∧ ((¬ (h.1 91 (a1).toNatClampNeg) ≤ (h.1 91 (a2).toNatClampNeg)) → lt (a2 + (-1 : Int32)) fun (x62 : Int32) => lp_Md_nextOrder_47 n a1 x62 h E)
def lp_Md_nextOrder_107 : Nat → Int32 → Int32 → Hp → (Hp → Prop) → Prop
  | 0, _, _, _, _ => False
  | n + 1, a4, a5, h, E => ((a4 ≤ a5) → E h) ∧ ((¬ a4 ≤ a5) → (vp_in a5 5) ∧ lt ((h.1 91 (a5).toNatClampNeg)) fun (x121 : Int32) => (vp_in a4 5) ∧ (vp_in a5 5) ∧ lt (wi h 91 (a5).toNatClampNeg (h.1 91 (a4).toNatClampNeg)) fun (h136 : Hp) => (vp_in a4 5) ∧ lt (wi h136 91 (a4).toNatClampNeg x121) fun (h145 : Hp) => lt (a4 + (-1 : Int32)) fun (x146 : Int32) => lt (a5 + (1 : Int32)) fun (x149 : Int32) => lp_Md_nextOrder_107 n x146 x149 h145 E)
def wp_Md_nextOrder  (h : Hp) (P : Bool → Hp → Prop) : Prop := lt (((h.1 7 0) - (2 : Int32))) fun (x6 : Int32) => ∃ n7, lp_Md_nextOrder_7 n7 x6 h (fun (w7_1 : Int32) => ((0 ≤ w7_1) → lt (((h.1 7 0) - (1 : Int32))) fun (x46 : Int32) => ∃ n47, lp_Md_nextOrder_47 n47 w7_1 x46 h (fun (w47_2 : Int32) => (vp_in w7_1 5) ∧ lt ((h.1 91 (w7_1).toNatClampNeg)) fun (x74 : Int32) => (vp_in w47_2 5) ∧ (vp_in w7_1 5) ∧ lt (wi h 91 (w7_1).toNatClampNeg (h.1 91 (w47_2).toNatClampNeg)) fun (h86 : Hp) => (vp_in w47_2 5) ∧ lt (wi h86 91 (w47_2).toNatClampNeg x74) fun (h93 : Hp) => lt (((h93.1 7 0) - (1 : Int32))) fun (x100 : Int32) => lt ((w7_1 + (1 : Int32))) fun (x105 : Int32) => ∃ n107, lp_Md_nextOrder_107 n107 x100 x105 h93 (fun (h107x : Hp) => P true h107x))) ∧ ((¬ 0 ≤ w7_1) → P false h))

def lp_Md_couldBe_4 : Nat → Int32 → Int32 → Hp → (Int32 → Prop) → Prop
  | 0, _, _, _, _ => False
  | n + 1, a1, a2, h, E => (((h.1 7 11) ≤ a2) → E a1) ∧ ((¬ (h.1 7 11) ≤ a2) → ((a1 = 0) → E a1) ∧ ((¬ a1 = 0) → lt (((14 : Int32) * a2)) fun (x20 : Int32) => (vp_in x20 112) ∧ (vp_in (x20 + (2 : Int32)) 112) ∧ (vp_in (x20 + (1 : Int32)) 112) ∧ wp_Md_joined (((5 : Int32) * (h.1 81 (x20).toNatClampNeg)) + (h.1 81 ((x20 + (2 : Int32))).toNatClampNeg)) 91 (h.1 81 ((x20 + (1 : Int32))).toNatClampNeg) 81 92 (x20 + (5 : Int32)) (0 : Int32) h (fun (v63 : Int32) => (vp_in x20 112) ∧ (vp_in (x20 + (3 : Int32)) 112) ∧ wp_Md_bitOf (h.1 81 (x20).toNatClampNeg) (h.1 81 ((x20 + (3 : Int32))).toNatClampNeg) (fun (v84 : Int32) => wp_Md_has v63 v84 (fun (v87 : Bool) => (vp_in (x20 + (4 : Int32)) 112) ∧ jn (fun (z107_1 : Int32) => jn (fun (z115_0 : Int32) => lt (a2 + (1 : Int32)) fun (x116 : Int32) => lp_Md_couldBe_4 n z115_0 x116 h E) (fun J115 => ((¬ (bI v87) = z107_1) → J115 (0 : Int32)) ∧ (((bI v87) = z107_1) → J115 (1 : Int32)))) (fun J107 => ((¬ (h.1 81 ((x20 + (4 : Int32))).toNatClampNeg) = (1 : Int32)) → J107 (0 : Int32)) ∧ (((h.1 81 ((x20 + (4 : Int32))).toNatClampNeg) = (1 : Int32)) → J107 (1 : Int32))))))))
def wp_Md_couldBe  (h : Hp) (P : Bool → Prop) : Prop := ∃ n4, lp_Md_couldBe_4 n4 (1 : Int32) (0 : Int32) h (fun (w4_1 : Int32) => (w4_1 = 0 ∨ w4_1 = 1) ∧ P (w4_1 == 1))

def lp_Md_countsOrder_90 : Nat → Int32 → Int32 → Int32 → Hp → (Hp → Prop) → Prop
  | 0, _, _, _, _, _ => False
  | n + 1, a1, a2, a3, h, E => (((h.1 7 0) ≤ a3) → E h) ∧ ((¬ (h.1 7 0) ≤ a3) → wp_Md_pair a1 a3 (fun (v104 : Int32) => (vp_in v104 25) ∧ wp_Md_has a2 (((5 : Int32) * (h.1 7 2)) + a3) (fun (v118 : Bool) => jn (fun (z129_3 : Int32) => (vp_in v104 25) ∧ lt (wi h 95 (v104).toNatClampNeg ((h.1 95 (v104).toNatClampNeg) + z129_3)) fun (h130 : Hp) => lt (a3 + (1 : Int32)) fun (x131 : Int32) => lp_Md_countsOrder_90 n a1 a2 x131 h130 E) (fun J129 => ((¬ v118 = true) → J129 (0 : Int32)) ∧ ((v118 = true) → J129 (1 : Int32))))))
def lp_Md_countsOrder_2 : Nat → Int32 → Hp → (Hp → Prop) → Prop
  | 0, _, _, _ => False
  | n + 1, a1, h, E => (((h.1 7 0) ≤ a1) → E h) ∧ ((¬ (h.1 7 0) ≤ a1) → (vp_in a1 5) ∧ (vp_in a1 5) ∧ (vp_in a1 5) ∧ lt (wi h 93 (a1).toNatClampNeg ((h.1 93 (a1).toNatClampNeg) ||| ((1 : Int32) <<< ((h.1 91 (a1).toNatClampNeg) &&& 31)))) fun (h26 : Hp) => jn (fun (z54_2 : Int32) => (vp_in a1 5) ∧ lt (wi h26 94 (a1).toNatClampNeg z54_2) fun (h54 : Hp) => wp_Md_joined (((5 : Int32) * (h54.1 7 2)) + a1) 91 (h54.1 7 3) 79 80 (0 : Int32) (0 : Int32) h54 (fun (v82 : Int32) => lt ((a1 + (1 : Int32))) fun (x89 : Int32) => ∃ n90, lp_Md_countsOrder_90 n90 a1 v82 x89 h54 (fun (h90x : Hp) => lt (a1 + (1 : Int32)) fun (x137 : Int32) => lp_Md_countsOrder_2 n x137 h90x E))) (fun J54 => ((¬ (h26.1 7 34) = 0) → (vp_in a1 5) ∧ J54 (h26.1 94 (a1).toNatClampNeg)) ∧ (((h26.1 7 34) = 0) → (vp_in a1 5) ∧ J54 (h26.1 91 (a1).toNatClampNeg))))
def wp_Md_countsOrder  (h : Hp) (P : Hp → Prop) : Prop := ∃ n2, lp_Md_countsOrder_2 n2 (0 : Int32) h (fun (h2x : Hp) => lt (wi h2x 7 34 ((h2x.1 7 34) + (1 : Int32))) fun (h150 : Hp) => P h150)

def lp_Md_setCould_7 : Nat → Int32 → Hp → (Hp → Prop) → Prop
  | 0, _, _, _ => False
  | n + 1, a1, h, E => (((5 : Int32) ≤ a1) → E h) ∧ ((¬ (5 : Int32) ≤ a1) → (vp_in a1 5) ∧ lt (wi h 93 (a1).toNatClampNeg (0 : Int32)) fun (h18 : Hp) => (vp_in a1 5) ∧ lt (wi h18 94 (a1).toNatClampNeg (-1 : Int32)) fun (h25 : Hp) => lt (a1 + (1 : Int32)) fun (x26 : Int32) => lp_Md_setCould_7 n x26 h25 E)
def lp_Md_setCould_34 : Nat → Int32 → Hp → (Hp → Prop) → Prop
  | 0, _, _, _ => False
  | n + 1, a1, h, E => (((25 : Int32) ≤ a1) → E h) ∧ ((¬ (25 : Int32) ≤ a1) → (vp_in a1 25) ∧ lt (wi h 95 (a1).toNatClampNeg (0 : Int32)) fun (h46 : Hp) => lt (a1 + (1 : Int32)) fun (x47 : Int32) => lp_Md_setCould_34 n x47 h46 E)
def lp_Md_setCould_70 : Nat → Int32 → Hp → (Hp → Prop) → Prop
  | 0, _, _, _ => False
  | n + 1, a1, h, E => ((a1 = 0) → E h) ∧ ((¬ a1 = 0) → wp_Md_couldBe h (fun (v75 : Bool) => jn (fun (h85 : Hp) => wp_Md_nextOrder h85 (fun (v86 : Bool) (h86 : Hp) => lp_Md_setCould_70 n (bI v86) h86 E)) (fun J85 => ((¬ v75 = true) → J85 h) ∧ ((v75 = true) → wp_Md_countsOrder h (fun (h82 : Hp) => J85 h82)))))
def wp_Md_setCould  (h : Hp) (P : Hp → Prop) : Prop := lt (wi h 7 34 (0 : Int32)) fun (h2 : Hp) => ∃ n7, lp_Md_setCould_7 n7 (0 : Int32) h2 (fun (h7x : Hp) => ∃ n34, lp_Md_setCould_34 n34 (0 : Int32) h7x (fun (h34x : Hp) => wp_Md_firstOrder h34x (fun (h54 : Hp) => jn (fun (z69_0 : Int32) => ∃ n70, lp_Md_setCould_70 n70 z69_0 h54 (fun (h70x : Hp) => P h70x)) (fun J69 => (((h54.1 7 0) ≤ 0) → J69 (0 : Int32)) ∧ ((¬ (h54.1 7 0) ≤ 0) → J69 (1 : Int32))))))

def lp_Md_askPair_26 : Nat → Int32 → Int32 → Int32 → Int32 → Hp → (Int32 → Int32 → Prop) → Prop
  | 0, _, _, _, _, _, _ => False
  | n + 1, a3, a1, a2, a4, h, E => (((h.1 7 0) ≤ a4) → E a1 a2) ∧ ((¬ (h.1 7 0) ≤ a4) → wp_Md_pair a3 a4 (fun (v42 : Int32) => (vp_in v42 25) ∧ lt ((h.1 95 (v42).toNatClampNeg)) fun (x46 : Int32) => jn (fun (z72_0 : Int32) => jn (fun (z91_0 : Int32) => jn (fun (z104_0 : Int32) => lt (a4 + (1 : Int32)) fun (x105 : Int32) => lp_Md_askPair_26 n a3 z91_0 z104_0 x105 h E) (fun J104 => ((a2 ≤ z72_0) → J104 a2) ∧ ((¬ a2 ≤ z72_0) → J104 z72_0))) (fun J91 => ((a2 ≤ z72_0) → J91 a1) ∧ ((¬ a2 ≤ z72_0) → J91 (((10 : Int32) * a3) + a4)))) (fun J72 => ((x46 ≤ ((h.1 7 34) - x46)) → J72 ((h.1 7 34) - x46)) ∧ ((¬ x46 ≤ ((h.1 7 34) - x46)) → J72 x46))))
def lp_Md_askPair_13 : Nat → Int32 → Int32 → Int32 → Hp → (Int32 → Prop) → Prop
  | 0, _, _, _, _, _ => False
  | n + 1, a1, a2, a3, h, E => (((h.1 7 0) ≤ a3) → E a1) ∧ ((¬ (h.1 7 0) ≤ a3) → lt ((a3 + (1 : Int32))) fun (x24 : Int32) => ∃ n26, lp_Md_askPair_26 n26 a3 a1 a2 x24 h (fun (w26_1 : Int32) (w26_2 : Int32) => lt (a3 + (1 : Int32)) fun (x111 : Int32) => lp_Md_askPair_13 n w26_1 w26_2 x111 h E))
def wp_Md_askPair  (h : Hp) (P : Int32 → Hp → Prop) : Prop := wp_Md_setCould h (fun (h1 : Hp) => lt ((h1.1 7 34)) fun (x10 : Int32) => ∃ n13, lp_Md_askPair_13 n13 (-1 : Int32) x10 (0 : Int32) h1 (fun (w13_1 : Int32) => P w13_1 h1))

def lp_Md_allRings_46 : Nat → Int32 → Nat → Nat → Nat → Int32 → Int32 → Int32 → Int32 → Int32 → Hp → (Int32 → Int32 → Prop) → Prop
  | 0, _, _, _, _, _, _, _, _, _, _, _ => False
  | n + 1, a1, e2, e3, e4, a7, a8, a5, a6, a9, h, E => (((h.1 7 0) < a9) → E a5 a6) ∧ ((¬ (h.1 7 0) < a9) → jn (fun (z79_2 : Int32) => wp_Md_has a8 z79_2 (fun (v79 : Bool) => jn (fun (z93_1 : Int32) => lt ((a5 ||| z93_1)) fun (x94 : Int32) => lt (a6 + (1 : Int32)) fun (x96 : Int32) => lt (a9 + (1 : Int32)) fun (x99 : Int32) => lp_Md_allRings_46 n a1 e2 e3 e4 a7 a8 x94 x96 x99 h E) (fun J93 => ((¬ v79 = true) → J93 (0 : Int32)) ∧ ((v79 = true) → J93 ((1 : Int32) <<< (a6 &&& 31)))))) (fun J79 => ((¬ a9 = (h.1 7 0)) → J79 (((5 : Int32) * a1) + a9)) ∧ ((a9 = (h.1 7 0)) → J79 (10 : Int32))))
def lp_Md_allRings_9 : Nat → Int32 → Nat → Nat → Nat → Int32 → Int32 → Int32 → Hp → (Int32 → Prop) → Prop
  | 0, _, _, _, _, _, _, _, _, _ => False
  | n + 1, a1, e2, e3, e4, a5, a6, a7, h, E => (((h.1 7 0) ≤ a7) → E a5) ∧ ((¬ (h.1 7 0) ≤ a7) → wp_Md_joined (((5 : Int32) * a1) + a7) e2 (h.1 7 3) e3 e4 (0 : Int32) (0 : Int32) h (fun (v35 : Int32) => lt ((a7 + (1 : Int32))) fun (x44 : Int32) => ∃ n46, lp_Md_allRings_46 n46 a1 e2 e3 e4 a7 v35 a5 a6 x44 h (fun (w46_5 : Int32) (w46_6 : Int32) => lt (a7 + (1 : Int32)) fun (x105 : Int32) => lp_Md_allRings_9 n a1 e2 e3 e4 w46_5 w46_6 x105 h E)))
def wp_Md_allRings (p0 : Int32) (c1 : Nat) (c2 : Nat) (c3 : Nat) (h : Hp) (P : Int32 → Prop) : Prop := ∃ n9, lp_Md_allRings_9 n9 p0 c1 c2 c3 (0 : Int32) (0 : Int32) (0 : Int32) h (fun (w9_5 : Int32) => P w9_5)

def lp_Md_leftBy_34 : Nat → Int32 → Nat → Nat → Int32 → Int32 → Int32 → Hp → (Int32 → Hp → Prop) → Prop
  | 0, _, _, _, _, _, _, _, _ => False
  | n + 1, a1, e2, e3, a4, a5, a6, h, E => ((a6 = 0) → E a5 h) ∧ ((¬ a6 = 0) → wp_Md_allRings a1 91 e2 e3 h (fun (v49 : Int32) => jn (fun (z62_1 : Int32) => lt ((a5 + z62_1)) fun (x63 : Int32) => wp_Md_nextOrder h (fun (v66 : Bool) (h66 : Hp) => lp_Md_leftBy_34 n a1 e2 e3 a4 x63 (bI v66) h66 E)) (fun J62 => ((¬ v49 = a4) → J62 (0 : Int32)) ∧ ((v49 = a4) → J62 (1 : Int32)))))
def wp_Md_leftBy (p0 : Int32) (c1 : Nat) (c2 : Nat) (h : Hp) (P : Int32 → Hp → Prop) : Prop := wp_Md_allRings p0 77 c1 c2 h (fun (v8 : Int32) => wp_Md_firstOrder h (fun (h17 : Hp) => jn (fun (z32_0 : Int32) => ∃ n34, lp_Md_leftBy_34 n34 p0 c1 c2 v8 (0 : Int32) z32_0 h17 (fun (w34_5 : Int32) (h34x : Hp) => P w34_5 h34x)) (fun J32 => (((h17.1 7 0) ≤ 0) → J32 (0 : Int32)) ∧ ((¬ (h17.1 7 0) ≤ 0) → J32 (1 : Int32)))))

def wp_Md_end (p0 : Int32) (p1 : Int32) (h : Hp) (P : Int32 → Hp → Prop) : Prop := wp_Md_isWire p0 h (fun (v2 : Bool) => ((v2 = true) → wp_Md_in p1 (0 : Int32) (3 : Int32) (fun (v14 : Bool) => ((v14 = true) → (((2 : Int32) ≤ p1) → wp_Md_setCould h (fun (h49 : Hp) => ((¬ p1 = (2 : Int32)) → (vp_in p0 5) ∧ P (h49.1 94 (p0).toNatClampNeg) h49) ∧ ((p1 = (2 : Int32)) → (vp_in p0 5) ∧ P (h49.1 93 (p0).toNatClampNeg) h49))) ∧ ((¬ (2 : Int32) ≤ p1) → ((¬ p1 = 0) → (vp_in p0 5) ∧ P (h.1 80 (p0).toNatClampNeg) h) ∧ ((p1 = 0) → (vp_in p0 5) ∧ P (h.1 77 (p0).toNatClampNeg) h))) ∧ ((¬ v14 = true) → P (-1000000002 : Int32) h))) ∧ ((¬ v2 = true) → P (-1000000001 : Int32) h))

def lp_Md_nextWay_15 : Nat → Int32 → Int32 → Int32 → Hp → (Int32 → Prop) → Prop
  | 0, _, _, _, _, _ => False
  | n + 1, a1, a2, a3, h, E => ((a1 ≤ a3) → E a2) ∧ ((¬ a1 ≤ a3) → (vp_in a3 5) ∧ jn (fun (z40_0 : Int32) => lt (a3 + (1 : Int32)) fun (x41 : Int32) => lp_Md_nextWay_15 n a1 z40_0 x41 h E) (fun J40 => (((h.1 96 (a3).toNatClampNeg) ≤ a2) → J40 a2) ∧ ((¬ (h.1 96 (a3).toNatClampNeg) ≤ a2) → (vp_in a3 5) ∧ J40 (h.1 96 (a3).toNatClampNeg))))
def lp_Md_nextWay_7 : Nat → Int32 → Hp → (Hp → Prop) → (Bool → Hp → Prop) → Prop
  | 0, _, _, _, _ => False
  | n + 1, a1, h, E, P => ((a1 ≤ 0) → E h) ∧ ((¬ a1 ≤ 0) → ∃ n15, lp_Md_nextWay_15 n15 a1 (0 : Int32) (0 : Int32) h (fun (w15_2 : Int32) => (vp_in a1 5) ∧ ((w15_2 < (h.1 96 (a1).toNatClampNeg)) → (vp_in a1 5) ∧ lt (wi h 96 (a1).toNatClampNeg (1 : Int32)) fun (h75 : Hp) => lt (a1 + (-1 : Int32)) fun (x76 : Int32) => lp_Md_nextWay_7 n x76 h75 E P) ∧ ((¬ w15_2 < (h.1 96 (a1).toNatClampNeg)) → (vp_in a1 5) ∧ (vp_in a1 5) ∧ lt (wi h 96 (a1).toNatClampNeg ((h.1 96 (a1).toNatClampNeg) + (1 : Int32))) fun (h66 : Hp) => P true h66)))
def wp_Md_nextWay  (h : Hp) (P : Bool → Hp → Prop) : Prop := lt (((h.1 7 0) - (1 : Int32))) fun (x6 : Int32) => ∃ n7, lp_Md_nextWay_7 n7 x6 h (fun (h7x : Hp) => P false h7x) P

def lp_Md_ties_28 : Nat → Int32 → Int32 → Hp → (Hp → Prop) → Prop
  | 0, _, _, _, _ => False
  | n + 1, a1, a2, h, E => (((5 : Int32) ≤ a2) → E h) ∧ ((¬ (5 : Int32) ≤ a2) → (vp_in a2 5) ∧ lt (wi h 96 (a2).toNatClampNeg (1 : Int32)) fun (h39 : Hp) => lt (a2 + (1 : Int32)) fun (x40 : Int32) => lp_Md_ties_28 n a1 x40 h39 E)
def lp_Md_ties_83 : Nat → Int32 → Int32 → Int32 → Hp → (Hp → Prop) → Prop
  | 0, _, _, _, _, _ => False
  | n + 1, a1, a2, a5, h, E => (((h.1 7 0) ≤ a5) → E h) ∧ ((¬ (h.1 7 0) ≤ a5) → (vp_in a5 5) ∧ (vp_in a5 5) ∧ lt (wi h 98 (a5).toNatClampNeg (h.1 96 (a5).toNatClampNeg)) fun (h105 : Hp) => lt (a5 + (1 : Int32)) fun (x106 : Int32) => lp_Md_ties_83 n a1 a2 x106 h105 E)
def lp_Md_ties_52 : Nat → Int32 → Int32 → Int32 → Hp → (Int32 → Hp → Prop) → Prop
  | 0, _, _, _, _, _ => False
  | n + 1, a1, a2, a3, h, E => ((a3 = 0) → E a2 h) ∧ ((¬ a3 = 0) → wp_Md_leftBy (1 : Int32) 96 97 h (fun (v66 : Int32) (h66 : Hp) => jn (fun (y112_2 : Int32) (h112 : Hp) => wp_Md_nextWay h112 (fun (v113 : Bool) (h113 : Hp) => lp_Md_ties_52 n a1 y112_2 (bI v113) h113 E)) (fun J112 => ((a2 ≤ v66) → J112 a2 h66) ∧ ((¬ a2 ≤ v66) → ∃ n83, lp_Md_ties_83 n83 a1 v66 (0 : Int32) h66 (fun (h83x : Hp) => J112 v66 h83x)))))
def wp_Md_ties (p0 : Int32) (h : Hp) (P : Int32 → Hp → Prop) : Prop := jn (τ := Prop) (((¬ (h.1 7 0) = 0) → ∃ n28, lp_Md_ties_28 n28 p0 (0 : Int32) h (fun (h28x : Hp) => ∃ n52, lp_Md_ties_52 n52 p0 (1048576 : Int32) (1 : Int32) h28x (fun (w52_2 : Int32) (h52x : Hp) => ((¬ p0 = (-1 : Int32)) → (vp_in p0 5) ∧ P ((h52x.1 98 (p0).toNatClampNeg) - (1 : Int32)) h52x) ∧ ((p0 = (-1 : Int32)) → P w52_2 h52x)))) ∧ (((h.1 7 0) = 0) → P (-1000000003 : Int32) h)) (fun J16 => ((p0 = (-1 : Int32)) → J16) ∧ ((¬ p0 = (-1 : Int32)) → wp_Md_isWire p0 h (fun (v7 : Bool) => ((v7 = true) → J16) ∧ ((¬ v7 = true) → P (-1000000001 : Int32) h))))

def lp_Md_dry_30 : Nat → Int32 → Int32 → Int64 → Int32 → (Int64 → Prop) → Prop
  | 0, _, _, _, _, _ => False
  | n + 1, a1, a2, a3, a5, E => ((a1 ≤ a5) → E a3) ∧ ((¬ a1 ≤ a5) → lt (((a3 * ((a2).toInt64)) / (100 : Int64))) fun (x44 : Int64) => lt (a5 + (1 : Int32)) fun (x45 : Int32) => lp_Md_dry_30 n a1 a2 x44 x45 E)
def wp_Md_dry (p0 : Int32) (p1 : Int32) (P : Int32 → Prop) : Prop := wp_Md_in p0 (0 : Int32) (60 : Int32) (fun (v4 : Bool) => ((¬ v4 = true) → P (-1000000002 : Int32)) ∧ ((v4 = true) → wp_Md_in p1 (0 : Int32) (100 : Int32) (fun (v14 : Bool) => ((v14 = true) → lt ((1000000000 : Int64)) fun (x26 : Int64) => ∃ n30, lp_Md_dry_30 n30 p0 p1 x26 (0 : Int32) (fun (w30_3 : Int64) => P ((w30_3).toInt32))) ∧ ((¬ v14 = true) → P (-1000000002 : Int32)))))

def lp_Md_see_98 : Nat → Int32 → Int32 → Hp → (Hp → Prop) → Prop
  | 0, _, _, _, _ => False
  | n + 1, a4, a5, h, E => (((5 : Int32) ≤ a5) → E h) ∧ ((¬ (5 : Int32) ≤ a5) → (vp_in a5 5) ∧ (vp_in ((a4 + (5 : Int32)) + a5) 112) ∧ lt (wi h 81 (((a4 + (5 : Int32)) + a5)).toNatClampNeg (h.1 79 (a5).toNatClampNeg)) fun (h122 : Hp) => (vp_in a5 5) ∧ (vp_in ((a4 + (5 : Int32)) + a5) 112) ∧ lt (wi h122 92 (((a4 + (5 : Int32)) + a5)).toNatClampNeg (h122.1 80 (a5).toNatClampNeg)) fun (h141 : Hp) => lt (a5 + (1 : Int32)) fun (x142 : Int32) => lp_Md_see_98 n a4 x142 h141 E)
def wp_Md_see (p0 : Int32) (p1 : Int32) (p2 : Int32) (h : Hp) (P : Int32 → Hp → Prop) : Prop := wp_Md_areEnds p0 p1 h (fun (v3 : Bool) => ((v3 = true) → ((¬ (h.1 7 11) = (8 : Int32)) → lt (((14 : Int32) * (h.1 7 11))) fun (x31 : Int32) => (vp_in x31 112) ∧ lt (wi h 81 (x31).toNatClampNeg (h.1 7 2)) fun (h43 : Hp) => (vp_in (x31 + (1 : Int32)) 112) ∧ lt (wi h43 81 ((x31 + (1 : Int32))).toNatClampNeg (h43.1 7 3)) fun (h56 : Hp) => (vp_in (x31 + (2 : Int32)) 112) ∧ lt (wi h56 81 ((x31 + (2 : Int32))).toNatClampNeg p0) fun (h66 : Hp) => (vp_in (x31 + (3 : Int32)) 112) ∧ lt (wi h66 81 ((x31 + (3 : Int32))).toNatClampNeg p1) fun (h76 : Hp) => jn (fun (z94_2 : Int32) => (vp_in (x31 + (4 : Int32)) 112) ∧ lt (wi h76 81 ((x31 + (4 : Int32))).toNatClampNeg z94_2) fun (h94 : Hp) => ∃ n98, lp_Md_see_98 n98 x31 (0 : Int32) h94 (fun (h98x : Hp) => lt (wi h98x 7 11 ((h98x.1 7 11) + (1 : Int32))) fun (h155 : Hp) => P (h155.1 7 11) h155)) (fun J94 => ((p2 = 0) → J94 (0 : Int32)) ∧ ((¬ p2 = 0) → J94 (1 : Int32)))) ∧ (((h.1 7 11) = (8 : Int32)) → P (-1000000004 : Int32) h)) ∧ ((¬ v3 = true) → P (-1000000001 : Int32) h))

def wp_Md_write (p0 : Int32) (p1 : Int32) (h : Hp) (P : Int32 → Hp → Prop) : Prop := wp_Md_isWire p0 h (fun (v2 : Bool) => ((¬ v2 = true) → P (-1000000001 : Int32) h) ∧ ((v2 = true) → wp_Md_isWire p1 h (fun (v10 : Bool) => ((v10 = true) → ((¬ (h.1 7 13) = (15 : Int32)) → (vp_in (h.1 7 13) 15) ∧ lt (wi h 82 ((h.1 7 13)).toNatClampNeg p0) fun (h40 : Hp) => (vp_in (h40.1 7 13) 15) ∧ lt (wi h40 83 ((h40.1 7 13)).toNatClampNeg p1) fun (h50 : Hp) => lt (wi h50 7 13 ((h50.1 7 13) + (1 : Int32))) fun (h58 : Hp) => P (h58.1 7 13) h58) ∧ (((h.1 7 13) = (15 : Int32)) → P (-1000000004 : Int32) h)) ∧ ((¬ v10 = true) → P (-1000000001 : Int32) h))))

def wp_Md_tear  (h : Hp) (P : Int32 → Hp → Prop) : Prop := lt (((h.1 7 11) + (h.1 7 13))) fun (x9 : Int32) => lt (wi h 7 11 (0 : Int32)) fun (h12 : Hp) => lt (wi h12 7 13 (0 : Int32)) fun (h17 : Hp) => P x9 h17

def lp_Md_judge_9 : Nat → Int32 → Int32 → Hp → (Int32 → Prop) → Prop
  | 0, _, _, _, _ => False
  | n + 1, a1, a2, h, E => ((a2 < 0) → E a1) ∧ ((¬ a2 < 0) → (vp_in a2 15) ∧ (vp_in (h.1 82 (a2).toNatClampNeg) 5) ∧ (vp_in a2 15) ∧ jn (fun (z38_0 : Int32) => lt (a2 + (-1 : Int32)) fun (x39 : Int32) => lp_Md_judge_9 n z38_0 x39 h E) (fun J38 => ((¬ (h.1 77 ((h.1 82 (a2).toNatClampNeg)).toNatClampNeg) = (h.1 83 (a2).toNatClampNeg)) → J38 a2) ∧ (((h.1 77 ((h.1 82 (a2).toNatClampNeg)).toNatClampNeg) = (h.1 83 (a2).toNatClampNeg)) → J38 a1)))
def wp_Md_judge  (h : Hp) (P : Int32 → Prop) : Prop := lt (((h.1 7 13) - (1 : Int32))) fun (x8 : Int32) => ∃ n9, lp_Md_judge_9 n9 (-1 : Int32) x8 h (fun (w9_1 : Int32) => P w9_1)

def wp_Md_seed (p0 : Int32) (h : Hp) (P : Int32 → Hp → Prop) : Prop := ((0 ≤ p0) → lt ((((h.2 7 10)).toInt32)) fun (x12 : Int32) => lt (wl h 7 10 ((p0).toInt64)) fun (h16 : Hp) => P x12 h16) ∧ ((¬ 0 ≤ p0) → P (-1000000002 : Int32) h)

def wp_Md_keep (p0 : Int32) (h : Hp) (P : Int32 → Hp → Prop) : Prop := wp_Md_in p0 (0 : Int32) (1 : Int32) (fun (v3 : Bool) => ((v3 = true) → wp_Md_lays 88 ((20 : Int32) * p0) h (fun (h21 : Hp) => (vp_in p0 2) ∧ lt (wl h21 89 (p0).toNatClampNeg (h21.2 7 10)) fun (h33 : Hp) => (vp_in p0 2) ∧ lt (wi h33 90 (p0).toNatClampNeg (1 : Int32)) fun (h40 : Hp) => lt (wi h40 7 28 (0 : Int32)) fun (h43 : Hp) => P (1 : Int32) h43)) ∧ ((¬ v3 = true) → P (-1000000001 : Int32) h))

def wp_Md_goBack (p0 : Int32) (h : Hp) (P : Int32 → Hp → Prop) : Prop := wp_Md_in p0 (0 : Int32) (1 : Int32) (fun (v3 : Bool) => ((v3 = true) → (vp_in p0 2) ∧ ((¬ (h.1 90 (p0).toNatClampNeg) = 0) → wp_Md_takes 88 ((20 : Int32) * p0) h (fun (h33 : Hp) => (vp_in p0 2) ∧ lt (wl h33 7 10 (h33.2 89 (p0).toNatClampNeg)) fun (h43 : Hp) => lt (wi h43 7 28 (0 : Int32)) fun (h48 : Hp) => P (1 : Int32) h48)) ∧ (((h.1 90 (p0).toNatClampNeg) = 0) → P (-1000000003 : Int32) h)) ∧ ((¬ v3 = true) → P (-1000000001 : Int32) h))

def wp_Md_told (p0 : Int32) (h : Hp) (P : Int32 → Hp → Prop) : Prop := wp_Md_in p0 (0 : Int32) (13 : Int32) (fun (v4 : Bool) => ((v4 = true) → ((p0 = (0 : Int32)) → P (h.1 7 0) h) ∧ ((¬ p0 = (0 : Int32)) → ((p0 = (1 : Int32)) → P (h.1 7 2) h) ∧ ((¬ p0 = (1 : Int32)) → ((p0 = (2 : Int32)) → P (h.1 7 3) h) ∧ ((¬ p0 = (2 : Int32)) → ((p0 = (3 : Int32)) → P (h.1 7 4) h) ∧ ((¬ p0 = (3 : Int32)) → ((p0 = (4 : Int32)) → P (h.1 7 5) h) ∧ ((¬ p0 = (4 : Int32)) → ((p0 = (5 : Int32)) → P (h.1 7 17) h) ∧ ((¬ p0 = (5 : Int32)) → ((p0 = (6 : Int32)) → wp_Md_touchMany h (fun (v111 : Int32) => P v111 h)) ∧ ((¬ p0 = (6 : Int32)) → ((p0 = (7 : Int32)) → wp_Md_goodSet h (fun (v116 : Int32) => P v116 h)) ∧ ((¬ p0 = (7 : Int32)) → ((p0 = (8 : Int32)) → wp_Md_setCould h (fun (h121 : Hp) => P (h121.1 7 34) h121)) ∧ ((¬ p0 = (8 : Int32)) → ((p0 = (9 : Int32)) → wp_Md_askPair h (fun (v130 : Int32) (h130 : Hp) => P v130 h130)) ∧ ((¬ p0 = (9 : Int32)) → ((p0 = (10 : Int32)) → wp_Md_leftBy (h.1 7 2) 79 80 h (fun (v147 : Int32) (h147 : Hp) => P v147 h147)) ∧ ((¬ p0 = (10 : Int32)) → ((p0 = (11 : Int32)) → P (h.1 7 11) h) ∧ ((¬ p0 = (11 : Int32)) → ((p0 = (12 : Int32)) → P (h.1 7 13) h) ∧ ((¬ p0 = (12 : Int32)) → P (h.1 7 28) h)))))))))))))) ∧ ((¬ v4 = true) → P (-1000000002 : Int32) h))
