/-! the beginning: what the Statement gives -/
section BG
variable {s : State} {args : Array Value} {b : Nat}
abbrev gvF : List Cond := flatC (Jvm.Cond.and given_1 narrow_1)
theorem gwL {w : Cond} (h : w ∈ gw) : w ∈ lw_tbl := (List.mem_filter.mp h).1
theorem nwL {w : Cond} (h : w ∈ nw) : w ∈ lw_tbl := List.mem_append_right _ (List.mem_filter.mp h).1
theorem tb1 {w : Cond} (i : Nat) (h : tables_1_1[i]? = some w) : w ∈ lw_tbl := List.mem_append_right _ (tm1 (List.mem_of_getElem? h))
theorem tb2 {w : Cond} (i : Nat) (h : tables_1_2[i]? = some w) : w ∈ lw_tbl := List.mem_append_right _ (tm2 (List.mem_of_getElem? h))
theorem tb3 {w : Cond} (i : Nat) (h : tables_1_3[i]? = some w) : w ∈ lw_tbl := List.mem_append_right _ (tm3 (List.mem_of_getElem? h))
theorem tb4 {w : Cond} (i : Nat) (h : tables_1_4[i]? = some w) : w ∈ lw_tbl := List.mem_append_right _ (tm4 (List.mem_of_getElem? h))
theorem tb5 {w : Cond} (i : Nat) (h : tables_1_5[i]? = some w) : w ∈ lw_tbl := List.mem_append_right _ (tm5 (List.mem_of_getElem? h))
theorem tb6 {w : Cond} (i : Nat) (h : tables_1_6[i]? = some w) : w ∈ lw_tbl := List.mem_append_right _ (tm6 (List.mem_of_getElem? h))
theorem tb7 {w : Cond} (i : Nat) (h : tables_1_7[i]? = some w) : w ∈ lw_tbl := List.mem_append_right _ (tm7 (List.mem_of_getElem? h))
theorem tb8 {w : Cond} (i : Nat) (h : tables_1_8[i]? = some w) : w ∈ lw_tbl := List.mem_append_right _ (tm8 (List.mem_of_getElem? h))
theorem tb9 {w : Cond} (i : Nat) (h : tables_1_9[i]? = some w) : w ∈ lw_tbl := List.mem_append_right _ (tm9 (List.mem_of_getElem? h))
theorem gvm {w : Cond} (i : Nat) (h : gvF[i]? = some w) : w ∈ gvF := List.mem_of_getElem? h
theorem ins_am : ∀ q ∈ am_cl, Cond.instantiable q.1 q.2.2 ∈ lw_tbl := List.forall_mem_cons.mpr ⟨(tb1 27 rfl), List.forall_mem_cons.mpr ⟨(tb1 35 rfl), List.forall_mem_cons.mpr ⟨(tb1 57 rfl), List.forall_mem_cons.mpr ⟨(tb1 63 rfl), List.forall_mem_cons.mpr ⟨(tb1 140 rfl), List.forall_mem_cons.mpr ⟨(tb1 146 rfl), List.forall_mem_cons.mpr ⟨(tb1 170 rfl), List.forall_mem_cons.mpr ⟨(tb1 176 rfl), List.forall_mem_cons.mpr ⟨(tb1 199 rfl), List.forall_mem_cons.mpr ⟨(tb1 237 rfl), List.forall_mem_cons.mpr ⟨(tb2 14 rfl), List.forall_mem_cons.mpr ⟨(tb2 55 rfl), List.forall_mem_cons.mpr ⟨(tb6 109 rfl), fun _ h => absurd h List.not_mem_nil⟩⟩⟩⟩⟩⟩⟩⟩⟩⟩⟩⟩⟩
theorem cls_of (hts : ∀ w ∈ lw_tbl, w.before args s = true) : ∃ D : va_G, ∀ (c : Nat) (q : vw_C), am_cl[c]? = some q → u_Kn s q.1 q.2.1 q.2.2 (D.1 c) (D.2 c) := by
  have kn : ∀ (c : Nat) (q : vw_C), am_cl[c]? = some q → ∃ z : ClassId × (Nat → Nat), u_Kn s q.1 q.2.1 q.2.2 z.1 z.2 := by
    intro c q hq
    obtain ⟨cC, iS, k⟩ := u_known (ws := gw) (fun w hw => hts w (gwL hw)) (r_fld (ci := c) (j := 0) hq) (hts _ (ins_am q (List.mem_of_getElem? hq)))
    exact ⟨(cC, iS), k⟩
  have h : ∀ c : Nat, ∃ z : ClassId × (Nat → Nat), ∀ q : vw_C, am_cl[c]? = some q → u_Kn s q.1 q.2.1 q.2.2 z.1 z.2 := by
    intro c
    cases hc : am_cl[c]? with
    | none =>
      obtain ⟨z, _⟩ := kn 0 _ rfl
      exact ⟨z, fun q h => by cases h⟩
    | some q =>
      obtain ⟨z, hz⟩ := kn c q hc
      exact ⟨z, fun q' h' => by cases h'; exact hz⟩
  obtain ⟨f, hf⟩ := Classical.axiomOfChoice h
  exact ⟨(fun c => (f c).1, fun c => (f c).2), hf⟩
theorem ar_of {ty : FieldType} (h : (Cond.arrayClass ty).before args s = true) : ∃ cA, ArrOfT s cA ty ∧ s.vm.findClass ("[" ++ ty.toString) = some cA := by
  obtain ⟨cA, kA, comp, h1, h2, h3⟩ := Cond.arrayClass_spec h
  exact ⟨cA, fun n z => ⟨fun k h => (by cases h), kA, h2, comp, h3⟩, h1⟩
theorem aq_of {Cn : String} (h : va_AO Cn s) : ∃ cA, ArrOfT s cA (.object Cn) ∧ va_RA s cA (.object Cn) := by
  obtain ⟨comp, cA, kA, h1, h2, h3, h4, h5⟩ := Cond.arrayOver_spec h
  exact ⟨cA, fun N z => ⟨(fun k h => by cases h), kA, h3, comp, h4⟩, kA, comp, h3, h4, h1, h5⟩
def tmL : List Term := [.string "HeathForks$HeathReader" 60, .string "HeathForks$HeathReader" 77, .string "HeathForks$HeathReader" 79, .string "HeathForks$HeathReader" 81, .string "HeathForks$HeathReader" 83, .string "HeathForks$HeathReader" 85, .string "HeathForks$HeathReader" 116, .string "HeathForks$LawReader" 68, .string "HeathForks" 185, .string "HeathForksModel" 26]
def tmS (i : Nat) : Term := tmL.getD i (.arg 0)
def lenS : List Nat := am_str.map List.length
theorem gs_le31 : ∀ i : Nat, i < 10 → lenS.getD i 0 < 2 ^ 31 := by decide +kernel
def spL : List Nat := [161, 170, 179, 188, 197, 207, 222, 236, 269, 316]
def neL : List (List Nat) := [[0, 178, 186, 194, 203, 217, 230, 246, 307, 321], [0, 0, 187, 195, 204, 218, 231, 247, 308, 322], [0, 0, 0, 196, 205, 219, 232, 248, 309, 323], [0, 0, 0, 0, 206, 220, 233, 249, 310, 324], [0, 0, 0, 0, 0, 221, 234, 250, 311, 325], [0, 0, 0, 0, 0, 0, 235, 251, 312, 326], [0, 0, 0, 0, 0, 0, 0, 252, 313, 327], [0, 0, 0, 0, 0, 0, 0, 0, 314, 328], [0, 0, 0, 0, 0, 0, 0, 0, 0, 330], [0, 0, 0, 0, 0, 0, 0, 0, 0, 0]]
theorem gs_ex0 : ∀ i : Nat, i < 10 → gvF[spL.getD i 0]? = some (Cond.exactly (tmS i) "java/lang/String") := by decide +kernel
theorem gs_ex : ∀ i : Nat, i < 10 → (Cond.exactly (tmS i) "java/lang/String") ∈ gvF := fun i hi => List.mem_of_getElem? (gs_ex0 i hi)
theorem gs_co0 : ∀ i : Nat, i < 10 → gvF[spL.getD i 0 + 1]? = some (Cond.eq (.field (tmS i) "java/lang/String" "coder" "B") (.int 0)) := by decide +kernel
theorem gs_co : ∀ i : Nat, i < 10 → (Cond.eq (.field (tmS i) "java/lang/String" "coder" "B") (.int 0)) ∈ gvF := fun i hi => List.mem_of_getElem? (gs_co0 i hi)
theorem gs_ar0 : ∀ i : Nat, i < 10 → gvF[spL.getD i 0 + 2]? = some (Cond.arrayOf (.field (tmS i) "java/lang/String" "value" "[B") .byte) := by decide +kernel
theorem gs_ar : ∀ i : Nat, i < 10 → (Cond.arrayOf (.field (tmS i) "java/lang/String" "value" "[B") .byte) ∈ gvF := fun i hi => List.mem_of_getElem? (gs_ar0 i hi)
theorem gs_ln0 : ∀ i : Nat, i < 10 → gvF[spL.getD i 0 + 3]? = some (Cond.eq (.length (.field (tmS i) "java/lang/String" "value" "[B")) (.int (Int32.ofNat (lenS.getD i 0)))) := by decide +kernel
theorem gs_ln : ∀ i : Nat, i < 10 → (Cond.eq (.length (.field (tmS i) "java/lang/String" "value" "[B")) (.int (Int32.ofNat (lenS.getD i 0)))) ∈ gvF := fun i hi => List.mem_of_getElem? (gs_ln0 i hi)
theorem gs_el0 : ∀ i : Nat, i < 10 → ∀ j : Nat, j < lenS.getD i 0 → gvF[spL.getD i 0 + 4 + j]? = some (Cond.eq (.elem (.field (tmS i) "java/lang/String" "value" "[B") (.int (Int32.ofNat j))) (.int ((am_str.getD i []).getD j 0))) := by decide +kernel
theorem gs_el : ∀ i : Nat, i < 10 → ∀ j : Nat, j < lenS.getD i 0 → (Cond.eq (.elem (.field (tmS i) "java/lang/String" "value" "[B") (.int (Int32.ofNat j))) (.int ((am_str.getD i []).getD j 0))) ∈ gvF := fun i hi j hj => List.mem_of_getElem? (gs_el0 i hi j hj)
theorem gs_ne0 : ∀ i : Nat, i < 10 → ∀ j : Nat, j < 10 → i ≠ j → (neL.getD i []).getD j 0 ≠ 0 → gvF[(neL.getD i []).getD j 0]? = some (Cond.not (Cond.eq (tmS i) (tmS j))) := by decide +kernel
theorem gs_ne1 : ∀ i : Nat, i < 10 → ∀ j : Nat, j < 10 → i ≠ j → ((neL.getD i []).getD j 0 ≠ 0 ∨ (neL.getD j []).getD i 0 ≠ 0) := by decide +kernel
theorem gs_ne (i : Nat) (hi : i < 10) (j : Nat) (hj : j < 10) (h : i ≠ j) : Cond.not (Cond.eq (tmS i) (tmS j)) ∈ gvF ∨ Cond.not (Cond.eq (tmS j) (tmS i)) ∈ gvF :=
  (gs_ne1 i hi j hj h).elim (fun q => Or.inl (List.mem_of_getElem? (gs_ne0 i hi j hj h q))) (fun q => Or.inr (List.mem_of_getElem? (gs_ne0 j hj i hi (Ne.symm h) q)))
def SR : List (String × Nat × Nat) := [("HeathForks", 185, 8), ("HeathForks$HeathReader", 60, 0), ("HeathForks$HeathReader", 77, 1), ("HeathForks$HeathReader", 79, 2), ("HeathForks$HeathReader", 81, 3), ("HeathForks$HeathReader", 83, 4), ("HeathForks$HeathReader", 85, 5), ("HeathForks$HeathReader", 116, 6), ("HeathForks$LawReader", 68, 7), ("HeathForks$WalksReader", 42, 6), ("HeathForksModel", 26, 9), ("HeathForksModel", 32, 7), ("HeathForksModel", 275, 1), ("HeathForksModel", 253, 2), ("HeathForksModel", 248, 6), ("HeathForksModel", 280, 3), ("HeathForksModel", 282, 4), ("HeathForksModel", 284, 5)]
theorem sr_cover : ∀ own : Nat, own < 18 → ∀ r ∈ am_cpc.getD own [], r.2.1 = 1 → (am_own.getD own "", r.1, r.2.2.1.toNat) ∈ SR := by decide +kernel
theorem sr_none {own : Nat} (h : 18 ≤ own) : am_cpc.getD own [] = [] := by
  rw [List.getD_eq_getElem?_getD, List.getElem?_eq_none (show am_cpc.length ≤ own from h)]
  rfl
theorem sr_tbl : ∀ q ∈ SR, Cond.stringRef q.1 q.2.1 (am_strT.getD q.2.2 "") ∈ lw_tbl := List.forall_mem_cons.mpr ⟨(tb6 82 rfl), List.forall_mem_cons.mpr ⟨(tb2 193 rfl), List.forall_mem_cons.mpr ⟨(tb3 56 rfl), List.forall_mem_cons.mpr ⟨(tb3 57 rfl), List.forall_mem_cons.mpr ⟨(tb3 58 rfl), List.forall_mem_cons.mpr ⟨(tb3 59 rfl), List.forall_mem_cons.mpr ⟨(tb3 60 rfl), List.forall_mem_cons.mpr ⟨(tb3 88 rfl), List.forall_mem_cons.mpr ⟨(tb3 175 rfl), List.forall_mem_cons.mpr ⟨(tb3 214 rfl), List.forall_mem_cons.mpr ⟨(tb6 114 rfl), List.forall_mem_cons.mpr ⟨(tb6 115 rfl), List.forall_mem_cons.mpr ⟨(tb7 95 rfl), List.forall_mem_cons.mpr ⟨(tb7 149 rfl), List.forall_mem_cons.mpr ⟨(tb7 154 rfl), List.forall_mem_cons.mpr ⟨(tb7 155 rfl), List.forall_mem_cons.mpr ⟨(tb7 156 rfl), List.forall_mem_cons.mpr ⟨(tb7 157 rfl), fun _ h => absurd h List.not_mem_nil⟩⟩⟩⟩⟩⟩⟩⟩⟩⟩⟩⟩⟩⟩⟩⟩⟩⟩
theorem sr_eq : ∀ q ∈ SR, (Term.string q.1 q.2.1 = tmS q.2.2 ∨ Cond.eq (tmS q.2.2) (.string q.1 q.2.1) ∈ gvF) ∧ q.2.2 < 10 := List.forall_mem_cons.mpr ⟨⟨Or.inl rfl, by decide⟩, List.forall_mem_cons.mpr ⟨⟨Or.inl rfl, by decide⟩, List.forall_mem_cons.mpr ⟨⟨Or.inl rfl, by decide⟩, List.forall_mem_cons.mpr ⟨⟨Or.inl rfl, by decide⟩, List.forall_mem_cons.mpr ⟨⟨Or.inl rfl, by decide⟩, List.forall_mem_cons.mpr ⟨⟨Or.inl rfl, by decide⟩, List.forall_mem_cons.mpr ⟨⟨Or.inl rfl, by decide⟩, List.forall_mem_cons.mpr ⟨⟨Or.inl rfl, by decide⟩, List.forall_mem_cons.mpr ⟨⟨Or.inl rfl, by decide⟩, List.forall_mem_cons.mpr ⟨⟨Or.inr (gvm 267 (by decide +kernel)), by decide⟩, List.forall_mem_cons.mpr ⟨⟨Or.inl rfl, by decide⟩, List.forall_mem_cons.mpr ⟨⟨Or.inr (gvm 348 (by decide +kernel)), by decide⟩, List.forall_mem_cons.mpr ⟨⟨Or.inr (gvm 361 (by decide +kernel)), by decide⟩, List.forall_mem_cons.mpr ⟨⟨Or.inr (gvm 381 (by decide +kernel)), by decide⟩, List.forall_mem_cons.mpr ⟨⟨Or.inr (gvm 406 (by decide +kernel)), by decide⟩, List.forall_mem_cons.mpr ⟨⟨Or.inr (gvm 423 (by decide +kernel)), by decide⟩, List.forall_mem_cons.mpr ⟨⟨Or.inr (gvm 445 (by decide +kernel)), by decide⟩, List.forall_mem_cons.mpr ⟨⟨Or.inr (gvm 472 (by decide +kernel)), by decide⟩, fun _ h => absurd h List.not_mem_nil⟩⟩⟩⟩⟩⟩⟩⟩⟩⟩⟩⟩⟩⟩⟩⟩⟩⟩
abbrev tmT (t : Nat) : Term := .static "HeathForks" (am_staN.getD t "") "[I"
def taP : List Nat := [43, 84, 51, 5]
theorem st_ar0 : ∀ t : Nat, t < 4 → gvF[taP.getD t 0]? = some (Cond.arrayOf (tmT t) .int) := by decide +kernel
theorem st_ar (t : Nat) (ht : t < 4) : Cond.arrayOf (tmT t) .int ∈ gvF := List.mem_of_getElem? (st_ar0 t ht)
theorem st_le0 : ∀ t : Nat, t < 4 → gvF[taP.getD t 0 + 1]? = some (Cond.eq (.length (tmT t)) (.int (Int32.ofNat (taL t)))) := by decide +kernel
theorem st_le (t : Nat) (ht : t < 4) : Cond.eq (.length (tmT t)) (.int (Int32.ofNat (taL t))) ∈ gvF := List.mem_of_getElem? (st_le0 t ht)
theorem st_el0 : ∀ t : Nat, t < 4 → ∀ j : Nat, j < taL t → gvF[taP.getD t 0 + 2 + j]? = some (Cond.eq (.elem (tmT t) (.int (Int32.ofNat j))) (.int (ii ((am_sta.getD t []).getD j 0)))) := by decide +kernel
theorem st_el (t : Nat) (ht : t < 4) (j : Nat) (hj : j < taL t) : Cond.eq (.elem (tmT t) (.int (Int32.ofNat j))) (.int (ii ((am_sta.getD t []).getD j 0))) ∈ gvF := List.mem_of_getElem? (st_el0 t ht j hj)
theorem st_ly : ∀ t : Nat, t < 4 → Cond.laysStatic "HeathForks" (am_staN.getD t "") "[I" ∈ lw_tbl
  | 0, _ => (tb3 48 rfl)
  | 1, _ => (tb3 78 rfl)
  | 2, _ => (tb3 76 rfl)
  | 3, _ => (tb2 184 rfl)
  | k + 4, hk => absurd hk (by omega)
theorem st_lt : ∀ t : Nat, t < 4 → taL t < 2 ^ 31 := by decide +kernel
theorem xw_in : ∀ w ∈ xw, w ∈ lw_tbl := List.forall_mem_cons.mpr ⟨(tb6 45 rfl), List.forall_mem_cons.mpr ⟨(tb6 47 rfl), List.forall_mem_cons.mpr ⟨(tb6 49 rfl), List.forall_mem_cons.mpr ⟨(tb6 51 rfl), fun _ h => absurd h List.not_mem_nil⟩⟩⟩⟩
theorem nw_ot : ∀ w ∈ nw, w.onTables = true := by
  intro w hw
  have h := (List.mem_filter.mp hw).2
  cases w <;> first | rfl | cases h
theorem given_all (l : Launch) (hts : ∀ w ∈ lw_tbl, w.before args s = true) (hgv : (Jvm.Cond.and given_1 narrow_1).before args s = true) : ∃ Γ : AG, gl Γ = l ∧ (gA Γ = fun q => s.heap.size ≤ q) ∧ tbU Γ s ∧ stA Γ s s.heap ∧ EX Γ s s.heap := by
  have hg : ∀ w ∈ gvF, w.before args s = true := flat_of_before _ hgv
  have hA : ∀ a : Nat, a < s.heap.size → ¬ (fun q : Nat => s.heap.size ≤ q) a := fun a h => Nat.not_le.mpr h
  obtain ⟨D, hD⟩ := cls_of hts
  obtain ⟨c20, a20, r20⟩ := ar_of (hts (.arrayClass .int) (gwL (gwt1 55 rfl rfl)))
  obtain ⟨c21, a21, r21⟩ := ar_of (hts (.arrayClass .byte) (tb3 220 rfl))
  obtain ⟨c22, a22, r22⟩ := ar_of (hts (.arrayClass .boolean) (tb2 53 rfl))
  obtain ⟨c23, a23, r23⟩ := ar_of (hts (.arrayClass .long) (tb9 47 rfl))
  have o24 : va_AO "HeathForks$Law" s := va_AO.of (hts (.arrayOver (.object "HeathForks$Law")) (tb1 195 rfl))
  have o25 : va_AO "HeathForks$Walks" s := va_AO.of (hts (.arrayOver (.object "HeathForks$Walks")) (tb1 197 rfl))
  obtain ⟨c24, a24, r24⟩ := aq_of o24
  obtain ⟨c25, a25, r25⟩ := aq_of o25
  obtain ⟨K, V, hS, hK⟩ := vk_Sof (args := args) (s := s) (N := 10) (tm := tmS) (len := lenS) (byt := am_str) (A := fun q : Nat => s.heap.size ≤ q) gs_le31 (fun i hi => hg _ (gs_ex i hi)) (fun i hi => hg _ (gs_co i hi)) (fun i hi => hg _ (gs_ar i hi)) (fun i hi => hg _ (gs_ln i hi)) (fun i hi j hj => hg _ (gs_el i hi j hj))
    (fun i j hi hj hij => (gs_ne i hi j hj hij).elim (fun q => Or.inl (hg _ q)) (fun q => Or.inr (hg _ q))) hA
  have iHF : (Cond.initialized "HeathForks").before args s = true := hts _ (gwL (gwt1 1 rfl rfl))
  have hT0 : ∀ t : Nat, ∃ a : Nat, t < 4 → va_Z "HeathForks" (am_staN.getD t "") "[I" (.ref a) (fun q : Nat => s.heap.size ≤ q) s s.heap ∧ va_T .int a (taL t) (fun j => .int (ii ((am_sta.getD t []).getD j 0))) (fun q : Nat => s.heap.size ≤ q) s s.heap := by
    intro t
    by_cases ht : t < 4
    · obtain ⟨a, ea, ta⟩ := va_Tof (f := fun j => .int (ii ((am_sta.getD t []).getD j 0))) (st_lt t ht) (hg _ (st_ar t ht)) (va_eqt (hg _ (st_le t ht))) (fun j hj => va_eqt (hg _ (st_el t ht j hj))) hA
      exact ⟨a, fun _ => ⟨va_Zof (hts _ (st_ly t ht)) iHF ea hA, ta⟩⟩
    · exact ⟨0, fun h => absurd h ht⟩
  obtain ⟨T, hT⟩ := Classical.axiomOfChoice hT0
  refine ⟨(l, fun _ => 0, D, fun k => if k = 20 then c20 else if k = 21 then c21 else if k = 22 then c22 else if k = 23 then c23 else if k = 24 then c24 else c25, fun q => s.heap.size ≤ q, K, V, T), rfl, rfl, ?_⟩
  have hstr : strOk (l, fun _ => 0, D, fun k => if k = 20 then c20 else if k = 21 then c21 else if k = 22 then c22 else if k = 23 then c23 else if k = 24 then c24 else c25, fun q => s.heap.size ≤ q, K, V, T) s := by
    intro own r hr hr1
    by_cases ho : own < 18
    · have q := sr_cover own ho r hr hr1
      have e := sr_eq _ q
      refine vk_R.of (hts _ (sr_tbl _ q)) ?_
      rcases e.1 with e1 | e1
      · have := hK _ e.2
        rw [← e1] at this
        exact this
      · exact va_eqR (hg _ e1) (hK _ e.2)
    · rw [sr_none (by omega)] at hr
      cases hr
  refine ⟨⟨⟨hD, fun k q hk => ?_⟩, fun w hw => va_Nw.of (nw_ot w hw) (hts w (nwL hw)), hstr, o24, o25⟩, ⟨hS, hstr, fun t ht => hT t ht, va_Zof (hts (.laysStatic "java/lang/String" "COMPACT_STRINGS" "Z") (tb2 214 rfl)) (hts (.initialized "java/lang/String") (tb1 14 rfl)) (va_eqt (hg (.eq (.static "java/lang/String" "COMPACT_STRINGS" "Z") (.int 1)) (gvm 37 (by decide +kernel)))) hA, va_Zqof (hts (.laysStatic "jdk/internal/util/Preconditions" "SIOOBE_FORMATTER" "Ljava/util/function/BiFunction;") (tb3 17 rfl)) (hts (.initialized "jdk/internal/util/Preconditions") (tb1 18 rfl)) (hg (.isRef (.static "jdk/internal/util/Preconditions" "SIOOBE_FORMATTER" "Ljava/util/function/BiFunction;")) (gvm 38 (by decide +kernel))) hA⟩, ⟨vx_Zqof (hts (.laysStatic Bundle.tN "UNASSIGNED_STACK" Bundle.steD) (tb6 70 rfl)) (hts (.initialized Bundle.tN) (tb1 20 rfl)) (hg (.isRef (.static Bundle.tN "UNASSIGNED_STACK" Bundle.steD)) (gvm 116 (by decide +kernel))) hA, vx_Zqof (hts (.laysStatic Bundle.tN "SUPPRESSED_SENTINEL" Bundle.listD) (tb6 72 rfl)) (hts (.initialized Bundle.tN) (tb1 20 rfl)) (hg (.isRef (.static Bundle.tN "SUPPRESSED_SENTINEL" Bundle.listD)) (gvm 117 (by decide +kernel))) hA, fun w hw => ?_⟩⟩
  · match k, hk with
    | 0, hk => cases hk; exact ⟨a20, r20⟩
    | 1, hk => cases hk; exact ⟨a21, r21⟩
    | 2, hk => cases hk; exact ⟨a22, r22⟩
    | 3, hk => cases hk; exact ⟨a23, r23⟩
    | 4, hk => cases hk; exact ⟨a24, r24⟩
    | 5, hk => cases hk; exact ⟨a25, r25⟩
    | k + 6, hk => exact absurd (List.getElem?_eq_some_iff.mp hk).1 (by simp [tyA])
  · have h0 := hts w (xw_in w hw)
    simp only [xw, List.mem_cons, List.not_mem_nil, or_false] at hw
    rcases hw with rfl | rfl | rfl | rfl <;> exact va_Nw.of rfl h0
end BG
