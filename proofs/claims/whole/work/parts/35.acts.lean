section
def um (m : Nat → Nat) (j v : Nat) : Nat → Nat := fun q => if q = j then v else m q
theorem um_eq {m : Nat → Nat} {j v : Nat} : um m j v j = v := by simp [um]
theorem um_ne {m : Nat → Nat} {j v q : Nat} (h : q ≠ j) : um m j v q = m q := by simp [um, h]
theorem um_pk {m : Nat → Nat} {j v b : Nat} (h : ∀ w, w < 5 → b + w ≠ j) : (pk fun w => um m j v (b + w)) = pk fun w => m (b + w) := pack_cg (fun w hw => um_ne (h w hw))
theorem um_pk2 {m : Nat → Nat} {i v b : Nat} : (pk fun w => um m (b + i) v (b + w)) = pk (setd (fun w => m (b + w)) i v) := pack_cg (fun w hw => by
  simp only [um, setd]
  by_cases e : w = i
  · simp [e]
  · rw [if_neg e, if_neg (by omega)])
theorem CS_kind {f : Nat → Int32} {m : Nat → Nat} {i v : Nat} (a : CS f m) (hi : i < 5) : CS (upd f 0 (nI (pk (setd (fun w => m (5 + w)) i v)))) (um m (5 + i) v) := by
  obtain ⟨a0, a1, a2, a3, a4, a5, a6, a7⟩ := a
  refine ⟨by rw [pk_us, um_pk2], by rw [pk_un (by omega), um_ne (by omega)]; exact a1, by rw [pk_un (by omega), um_pk (fun w hw => by omega)]; exact a2, by rw [pk_un (by omega), um_pk (fun w hw => by omega)]; exact a3, by rw [pk_un (by omega), um_ne (by omega)]; exact a4, by rw [pk_un (by omega), um_ne (by omega)]; exact a5, by rw [pk_un (by omega), um_ne (by omega)]; exact a6, by rw [pk_un (by omega), um_ne (by omega)]; exact a7⟩
theorem CS_near {f : Nat → Int32} {m : Nat → Nat} {i v : Nat} (a : CS f m) (hi : i < 5) : CS (upd f 2 (nI (pk (setd (fun w => m (10 + w)) i v)))) (um m (10 + i) v) := by
  obtain ⟨a0, a1, a2, a3, a4, a5, a6, a7⟩ := a
  refine ⟨by rw [pk_un (by omega), um_pk (fun w hw => by omega)]; exact a0, by rw [pk_un (by omega), um_ne (by omega)]; exact a1, by rw [pk_us, um_pk2], by rw [pk_un (by omega), um_pk (fun w hw => by omega)]; exact a3, by rw [pk_un (by omega), um_ne (by omega)]; exact a4, by rw [pk_un (by omega), um_ne (by omega)]; exact a5, by rw [pk_un (by omega), um_ne (by omega)]; exact a6, by rw [pk_un (by omega), um_ne (by omega)]; exact a7⟩
theorem CS_far {f : Nat → Int32} {m : Nat → Nat} {i v : Nat} (a : CS f m) (hi : i < 5) : CS (upd f 3 (nI (pk (setd (fun w => m (15 + w)) i v)))) (um m (15 + i) v) := by
  obtain ⟨a0, a1, a2, a3, a4, a5, a6, a7⟩ := a
  refine ⟨by rw [pk_un (by omega), um_pk (fun w hw => by omega)]; exact a0, by rw [pk_un (by omega), um_ne (by omega)]; exact a1, by rw [pk_un (by omega), um_pk (fun w hw => by omega)]; exact a2, by rw [pk_us, um_pk2], by rw [pk_un (by omega), um_ne (by omega)]; exact a4, by rw [pk_un (by omega), um_ne (by omega)]; exact a5, by rw [pk_un (by omega), um_ne (by omega)]; exact a6, by rw [pk_un (by omega), um_ne (by omega)]; exact a7⟩
/-- scalars: place 0 (field 4), hours 1 (5), crossed 2 (6), tests 3 (7), touching 4 (1) -/
theorem CS_sc {f : Nat → Int32} {m : Nat → Nat} {q v : Nat} (a : CS f m) (hq : q < 4) : CS (upd f (4 + q) (nI v)) (um m q v) := by
  obtain ⟨a0, a1, a2, a3, a4, a5, a6, a7⟩ := a
  refine ⟨by rw [pk_un (by omega), um_pk (fun w hw => by omega)]; exact a0, by rw [pk_un (by omega), um_ne (by omega)]; exact a1, by rw [pk_un (by omega), um_pk (fun w hw => by omega)]; exact a2, by rw [pk_un (by omega), um_pk (fun w hw => by omega)]; exact a3, ?_, ?_, ?_, ?_⟩
  all_goals (rcases (show q = 0 ∨ q = 1 ∨ q = 2 ∨ q = 3 by omega) with rfl | rfl | rfl | rfl <;> first | (rw [pk_us, um_eq]; done) | (rw [pk_un (by omega), um_ne (by omega)]; assumption))
theorem CS_tch {f : Nat → Int32} {m : Nat → Nat} {v : Nat} (a : CS f m) : CS (upd f 1 (nI v)) (um m 4 v) := by
  obtain ⟨a0, a1, a2, a3, a4, a5, a6, a7⟩ := a
  exact ⟨by rw [pk_un (by omega), um_pk (fun w hw => by omega)]; exact a0, by rw [pk_us, um_eq], by rw [pk_un (by omega), um_pk (fun w hw => by omega)]; exact a2, by rw [pk_un (by omega), um_pk (fun w hw => by omega)]; exact a3, by rw [pk_un (by omega), um_ne (by omega)]; exact a4, by rw [pk_un (by omega), um_ne (by omega)]; exact a5, by rw [pk_un (by omega), um_ne (by omega)]; exact a6, by rw [pk_un (by omega), um_ne (by omega)]; exact a7⟩
theorem ML_arr {g : Hp} {m : Nat → Nat} {i v c : Nat} (a : ML g m) (hi : i < 5) (hc : c < 3) : ML (wi g (78 + c) i (nI v)) (um m (5 + 5 * c + i) v) := by
  obtain ⟨a0, a1, a2, a3, a4, a5⟩ := a
  refine ⟨by rw [wi_ne (by omega), um_ne (by omega)]; exact a0, by rw [wi_ne (by omega), um_ne (by omega)]; exact a1, by rw [wi_ne (by omega), um_ne (by omega)]; exact a2, by rw [wi_ne (by omega), um_ne (by omega)]; exact a3, by rw [wi_ne (by omega), um_ne (by omega)]; exact a4, fun w hw => ?_⟩
  obtain ⟨b1, b2, b3⟩ := a5 w hw
  rcases (show c = 0 ∨ c = 1 ∨ c = 2 by omega) with rfl | rfl | rfl
  · refine ⟨?_, by rw [wi_ne (by omega), um_ne (by omega)]; exact b2, by rw [wi_ne (by omega), um_ne (by omega)]; exact b3⟩
    by_cases e : w = i
    · subst e; rw [wi_eq, pk_us, um_eq]
    · rw [wi_eq, pk_un e, um_ne (by omega)]; exact b1
  · refine ⟨by rw [wi_ne (by omega), um_ne (by omega)]; exact b1, ?_, by rw [wi_ne (by omega), um_ne (by omega)]; exact b3⟩
    by_cases e : w = i
    · subst e; rw [wi_eq, pk_us, um_eq]
    · rw [wi_eq, pk_un e, um_ne (by omega)]; exact b2
  · refine ⟨by rw [wi_ne (by omega), um_ne (by omega)]; exact b1, by rw [wi_ne (by omega), um_ne (by omega)]; exact b2, ?_⟩
    by_cases e : w = i
    · subst e; rw [wi_eq, pk_us, um_eq]
    · rw [wi_eq, pk_un e, um_ne (by omega)]; exact b3
theorem ML_sc {g : Hp} {m : Nat → Nat} {q v : Nat} (a : ML g m) (hq : q < 5) : ML (wi g 7 (2 + q) (nI v)) (um m q v) := by
  obtain ⟨a0, a1, a2, a3, a4, a5⟩ := a
  refine ⟨?_, ?_, ?_, ?_, ?_, fun w hw => ?_⟩
  iterate 5 (rcases (show q = 0 ∨ q = 1 ∨ q = 2 ∨ q = 3 ∨ q = 4 by omega) with rfl | rfl | rfl | rfl | rfl <;> first | (rw [wi_eq, pk_us, um_eq]; done) | (rw [wi_eq, pk_un (by omega), um_ne (by omega)]; assumption))
  rw [wi_ne (by omega), wi_ne (by omega), wi_ne (by omega), um_ne (by omega), um_ne (by omega), um_ne (by omega)]
  exact a5 w hw
theorem WF_arr {n : Nat} {m : Nat → Nat} {i v c : Nat} (a : WF n m) (hi : i < n) (hn : n ≤ 5) (hv : v < 4) (hc : c < 3) : WF n (um m (5 + 5 * c + i) v) := by
  obtain ⟨a0, a1, a2, a3, a4, a5⟩ := a
  refine ⟨by rw [um_ne (by omega)]; exact a0, by rw [um_ne (by omega)]; exact a1, by rw [um_ne (by omega)]; exact a2, by rw [um_ne (by omega)]; exact a3, by rw [um_ne (by omega)]; exact a4, fun w hw => ?_⟩
  obtain ⟨b1, b2, b3, b4⟩ := a5 w hw
  refine ⟨?_, ?_, ?_, fun q => ?_⟩
  · simp only [um]; split <;> omega
  · simp only [um]; split <;> omega
  · simp only [um]; split <;> omega
  · rw [um_ne (by omega), um_ne (by omega), um_ne (by omega)]; exact b4 q
theorem WF_sc {n : Nat} {m : Nat → Nat} {q v : Nat} (a : WF n m) (hq : q < 4) (h0 : q = 0 → v ≤ 1) (h1 : q = 1 → v ≤ 9060) (h2 : q = 2 ∨ q = 3 → v ≤ 9999) : WF n (um m q v) := by
  obtain ⟨a0, a1, a2, a3, a4, a5⟩ := a
  refine ⟨?_, ?_, ?_, ?_, by rw [um_ne (by omega)]; exact a4, fun w hw => by rw [um_ne (by omega), um_ne (by omega), um_ne (by omega)]; exact a5 w hw⟩
  · simp only [um]; split <;> omega
  · simp only [um]; split <;> omega
  · simp only [um]; split <;> omega
  · simp only [um]; split <;> omega
/-- a pair of acts: the class remembers and has the state m', the model notes and has it -/
theorem Rel_act {n uc nx : Nat} {o m m' : Nat → Nat} {un : Nat → Nat → Nat} {h g : Hp} (a1 : R1 n o h) (a2 : R2 n m h) (huc : uc ≤ 16) (hnx : nx < 16) (hun : ∀ k, k < uc → CS (h.1 (10 + (nx + 16 - uc + k) % 16)) (un k) ∧ MR (h.1 87) (20 * k) (un k) ∧ WF n (un k)) (a4 : R4 g) (a5 : R5 n h) (a6 : R6 n h) (a7 : R7 n h) (a8 : R8 h) (a9 : R9 h) (hwf : WF n m') (hcs : CS (g.1 26) m') (hml : ML g m')
    (ex : ∀ c, c < 77 → c ≠ 7 → c ≠ 26 → c ≠ 3 → g.1 c = (rem h nx uc).1 c) (e7 : ∀ j, j ≠ 28 → (j < 2 ∨ 6 < j) → g.1 7 j = h.1 7 j) (em : ∀ c, 77 ≤ c → c ≠ 78 → c ≠ 79 → c ≠ 80 → c ≠ 87 → g.1 c = h.1 c) (e28 : g.1 7 28 = nI (min (uc + 1) 16)) (e87a : ∀ j, j < 20 → g.1 87 (20 * min uc 15 + j) = nI (m j)) (e87b : ∀ q, q < min uc 15 → ∀ j, j < 20 → g.1 87 (20 * q + j) = h.1 87 (20 * (q + (if uc = 16 then 1 else 0)) + j)) (el : g.2 89 = h.2 89) : Rel g := by
  have ex2 : ∀ c, c < 77 → c ≠ 7 → c ≠ 26 → c ≠ 3 → c ≠ 2 → (c < 10 ∨ 25 < c) → g.1 c = h.1 c := fun c h1 h2 h3 h4 h5 h6 => by rw [ex c h1 h2 h3 h4, rem_ne h5 (by omega)]
  refine ⟨n, o, a1.keep (by rw [ex2 0 (by omega) (by omega) (by omega) (by omega) (by omega) (by omega)]) (e7 0 (by omega) (by omega)) (ex2 69 (by omega) (by omega) (by omega) (by omega) (by omega) (by omega)) (em 77 (by omega) (by omega) (by omega) (by omega) (by omega)), ⟨m', hcs, hml, hwf⟩, R3_push huc hnx hun a2.1 a2.2.2 (fun c h1 h2 h3 => ex c (by omega) (by omega) (by omega) (by omega)) e28 e87a e87b, a4, a5.keep (ex2 8 (by omega) (by omega) (by omega) (by omega) (by omega) (by omega)) (ex2 9 (by omega) (by omega) (by omega) (by omega) (by omega) (by omega)) (ex2 27 (by omega) (by omega) (by omega) (by omega) (by omega) (by omega)) (ex2 28 (by omega) (by omega) (by omega) (by omega) (by omega) (by omega)) (em 90 (by omega) (by omega) (by omega) (by omega) (by omega)) (em 88 (by omega) (by omega) (by omega) (by omega) (by omega)) el, a6.keep (by rw [ex2 0 (by omega) (by omega) (by omega) (by omega) (by omega) (by omega)]) (e7 11 (by omega) (by omega)) (em 81 (by omega) (by omega) (by omega) (by omega) (by omega)) (em 92 (by omega) (by omega) (by omega) (by omega) (by omega)) (fun k hk j hj => by rw [ex2 (29 + k) (by omega) (by omega) (by omega) (by omega) (by omega) (by omega)]), a7.keep (by rw [ex2 0 (by omega) (by omega) (by omega) (by omega) (by omega) (by omega)]) (e7 13 (by omega) (by omega)) (ex2 70 (by omega) (by omega) (by omega) (by omega) (by omega) (by omega)) (ex2 71 (by omega) (by omega) (by omega) (by omega) (by omega) (by omega)) (em 82 (by omega) (by omega) (by omega) (by omega) (by omega)) (em 83 (by omega) (by omega) (by omega) (by omega) (by omega)), a8.keep (by rw [ex2 1 (by omega) (by omega) (by omega) (by omega) (by omega) (by omega)]) (e7 17 (by omega) (by omega)) (ex2 67 (by omega) (by omega) (by omega) (by omega) (by omega) (by omega)) (em 84 (by omega) (by omega) (by omega) (by omega) (by omega)), a9.keep (by rw [ex2 1 (by omega) (by omega) (by omega) (by omega) (by omega) (by omega)]) (e7 20 (by omega) (by omega)) (em 97 (by omega) (by omega) (by omega) (by omega) (by omega))⟩
/-- the whole of a pair of acts: the class remembers and does X (on row 26 alone), the model notes and does Y (on the live state alone) -/
theorem act_pair {n uc nx : Nat} {o m m' : Nat → Nat} {un : Nat → Nat → Nat} {h h1 : Hp} {P : Hp → Prop} (a1 : R1 n o h) (a2 : R2 n m h) (huc : uc ≤ 16) (hnx : nx < 16) (u2 : h.1 7 28 = nI uc) (hun : ∀ k, k < uc → CS (h.1 (10 + (nx + 16 - uc + k) % 16)) (un k) ∧ MR (h.1 87) (20 * k) (un k) ∧ WF n (un k)) (a4 : R4 h) (a5 : R5 n h) (a6 : R6 n h) (a7 : R7 n h) (a8 : R8 h) (a9 : R9 h) (hwf : WF n m')
    (hh : ∀ c, c ≠ 26 → h1.1 c = (rem h nx uc).1 c) (hl : h1.2 = h.2) (hcs : CS (h1.1 26) m')
    (k : ∀ g0 : Hp, (∀ c, c ≠ 7 → c ≠ 87 → g0.1 c = h1.1 c) → (∀ j, j ≠ 28 → g0.1 7 j = h.1 7 j) → g0.2 = h.2 → ML g0 m → (∀ g : Hp, ML g m' → (∀ c, c ≠ 7 → c ≠ 78 → c ≠ 79 → c ≠ 80 → g.1 c = g0.1 c) → (∀ j, j < 2 ∨ 6 < j → g.1 7 j = g0.1 7 j) → g.2 = g0.2 → Rel g) → P g0) : wp_Md_notes h1 P := by
  have hm : ∀ c, c ≠ 26 → c ≠ 2 → c < 10 ∨ 25 < c → h1.1 c = h.1 c := fun c q1 q2 q3 => by rw [hh c q1, rem_ne q2 (by omega)]
  refine notes_s (uc := uc) (m := m) (by rw [hm 7 (by omega) (by omega) (by omega)]; exact u2) huc (a2.2.1.keep (by rw [hm 7 (by omega) (by omega) (by omega)]) (by rw [hm 7 (by omega) (by omega) (by omega)]) (by rw [hm 7 (by omega) (by omega) (by omega)]) (by rw [hm 7 (by omega) (by omega) (by omega)]) (by rw [hm 7 (by omega) (by omega) (by omega)]) (hm 78 (by omega) (by omega) (by omega)) (hm 79 (by omega) (by omega) (by omega)) (hm 80 (by omega) (by omega) (by omega))) (fun g0 q1 q2 q3 q4 q5 q6 => ?_)
  have q4' : ∀ j, j ≠ 28 → g0.1 7 j = h.1 7 j := fun j hj => by rw [q4 j hj, hm 7 (by omega) (by omega) (by omega)]
  refine k g0 q3 q4' (by rw [q6, hl]) (a2.2.1.keep (q4' 2 (by omega)) (q4' 3 (by omega)) (q4' 4 (by omega)) (q4' 5 (by omega)) (q4' 6 (by omega)) (by rw [q3 78 (by omega) (by omega), hm 78 (by omega) (by omega) (by omega)]) (by rw [q3 79 (by omega) (by omega), hm 79 (by omega) (by omega) (by omega)]) (by rw [q3 80 (by omega) (by omega), hm 80 (by omega) (by omega) (by omega)])) (fun g w1 w2 w3 w4 => ?_)
  have e87 : g.1 87 = g0.1 87 := w2 87 (by omega) (by omega) (by omega) (by omega)
  refine Rel_act (m' := m') a1 a2 huc hnx hun (a4.keep (by rw [w2 3 (by omega) (by omega) (by omega) (by omega), q3 3 (by omega) (by omega), hm 3 (by omega) (by omega) (by omega)]) (by rw [w4, q6, hl])) a5 a6 a7 a8 a9 hwf (by rw [w2 26 (by omega) (by omega) (by omega) (by omega), q3 26 (by omega) (by omega)]; exact hcs) w1 (fun c c1 c2 c3 c4 => by rw [w2 c (by omega) (by omega) (by omega) (by omega), q3 c (by omega) (by omega), hh c c3]) (fun j j1 j2 => by rw [w3 j j2, q4' j j1]) (fun c c1 c2 c3 c4 c5 => by rw [w2 c (by omega) (by omega) (by omega) (by omega), q3 c (by omega) (by omega), hm c (by omega) (by omega) (by omega)]) (by rw [w3 28 (by omega)]; exact q5) (fun j hj => by rw [e87]; exact q1 j hj) (fun q hq j hj => by rw [e87, q2 q hq j hj, hm 87 (by omega) (by omega) (by omega)]) (by rw [w4, q6, hl])
end
