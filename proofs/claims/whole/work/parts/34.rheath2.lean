section RHT
variable {hd : Nat → Int} {h : AH}
theorem sum_f {a b : Option Int32} (e : a = b) : a = b := e
theorem R_hasWater_l (R : RH hd h) (W : HW hd) {c : Int} (c0 : -2147483648 ≤ c) (c1 : c ≤ 2147483647) : ∀ (m v n : Nat), (v : Int) + m = hd 4 → m < n → (∀ u : Nat, u < v → vAt hd u c = -1) → R_hasWater_L2 n (ii c) (ii v) h = some (if depM hd c = -1 then ii 0 else ii 1) := by
  have hw := W.1
  intro m
  induction m with
  | zero =>
    intro v n hv hn hall
    obtain ⟨n, rfl⟩ : ∃ z, n = z + 1 := ⟨n - 1, by omega⟩
    show R_hasWater_L2_b (R_hasWater_L2 n) (ii c) (ii v) h = _
    unfold R_hasWater_L2_b
    rw [R.2.1, if_pos (by rw [ii_le (by omega) (by omega) (by omega) (by omega)]; omega)]
    have : ∀ k : Nat, k ≤ v → dmin hd c k = -1 := by
      intro k
      induction k with
      | zero => intro _; rfl
      | succ k ih =>
        intro hk
        unfold dmin
        rw [if_neg (fun q => q.1 (hall k (by omega)))]
        exact ih (by omega)
    rw [if_pos]
    unfold depM
    rw [show (hd 4).toNat = v by omega]
    exact this v (Nat.le_refl v)
  | succ m ih =>
    intro v n hv hn hall
    obtain ⟨n, rfl⟩ : ∃ z, n = z + 1 := ⟨n - 1, by omega⟩
    show R_hasWater_L2_b (R_hasWater_L2 n) (ii c) (ii v) h = _
    unfold R_hasWater_L2_b
    rw [R.2.1, if_neg (by rw [ii_le (by omega) (by omega) (by omega) (by omega)]; omega), R_veinAt R W (by omega) c0 c1]
    have hva := vAt_lo W (v := v) (by omega) c
    show (if ii (vAt hd v c) = ii (-1) then _ else _) = _
    by_cases q : vAt hd v c = -1
    · rw [if_pos (by rw [q]), ii_add]
      refine ih (v + 1) n (by omega) (by omega) (fun u hu => ?_)
      by_cases e : u = v
      · subst e; exact q
      · exact hall u (by omega)
    · rw [if_neg (by rw [ii_eq (by omega) (by omega) (by omega) (by omega)]; exact q)]
      rw [if_neg]
      have hne : ∀ k : Nat, v < k → (k : Int) ≤ hd 4 → dmin hd c k ≠ -1 := by
        intro k
        induction k with
        | zero => intro z; omega
        | succ k ihk =>
          intro hk hk4
          unfold dmin
          split
          · rename_i z; exact z.1
          · rename_i z
            by_cases e : k = v
            · subst e
              intro z2
              exact z ⟨q, Or.inl z2⟩
            · exact ihk (by omega) (by omega)
      exact hne _ (by omega) (by omega)
theorem R_hasWater (R : RH hd h) (W : HW hd) {c : Int} (c0 : -2147483648 ≤ c) (c1 : c ≤ 2147483647) : f_R_hasWater (ii c) h = some (if depM hd c = -1 then ii 0 else ii 1) := by
  have := W.1
  exact R_hasWater_l R W c0 c1 (hd 4).toNat 0 FU (by omega) (by unfold FU; omega) (fun u hu => by omega)
theorem R_depthOf_l (R : RH hd h) (W : HW hd) {c s : Int} (c0 : -2147483648 ≤ c) (c1 : c ≤ 2147483647) (s0 : 0 ≤ s) (s1 : s ≤ 3) : ∀ (m v n : Nat), (v : Int) + m = hd 4 → m < n → R_depthOf_L5 n (ii c) (ii s) (ii (dmin hd c v)) (ii v) h = some (ii (watM hd c s)) := by
  have hw := W.1
  intro m
  induction m with
  | zero =>
    intro v n hv hn
    obtain ⟨n, rfl⟩ : ∃ z, n = z + 1 := ⟨n - 1, by omega⟩
    show R_depthOf_L5_b (R_depthOf_L5 n) (ii c) (ii s) (ii (dmin hd c v)) (ii v) h = _
    have hdm := dmin_lo W c v (by omega)
    have e2 : h.1 85 (ii 2).toNatClampNeg = ii (hd 2) := R.1 2 (by omega)
    have ed : depM hd c = dmin hd c v := by unfold depM; rw [show (hd 4).toNat = v by omega]
    unfold R_depthOf_L5_b watM
    rw [R.2.1, if_pos (by rw [ii_le (by omega) (by omega) (by omega) (by omega)]; omega), e2, ed]
    by_cases q : dmin hd c v = -1
    · rw [if_pos (by rw [q]), if_pos q]
    · rw [if_neg (by rw [ii_eq (by omega) (by omega) (by omega) (by omega)]; exact q), if_neg q]
      unfold addM
      by_cases q0 : s = 0
      · rw [if_pos (by rw [q0]; rfl), if_pos q0, ii_add, min99 (by omega) (by omega)]
      · rw [if_neg (by rw [ii_z (by omega) (by omega)]; exact q0), if_neg q0]
        by_cases q2 : s = 2
        · rw [if_pos (by rw [q2]), if_pos q2, if_pos (by decide), ii_mul, ii_add, min99 (by omega) (by omega)]
        · rw [if_neg (by rw [ii_eq (by omega) (by omega) (by omega) (by omega)]; exact q2), if_neg q2, if_pos (by decide), ii_add, min99 (by omega) (by omega)]
  | succ m ih =>
    intro v n hv hn
    obtain ⟨n, rfl⟩ : ∃ z, n = z + 1 := ⟨n - 1, by omega⟩
    show R_depthOf_L5_b (R_depthOf_L5 n) (ii c) (ii s) (ii (dmin hd c v)) (ii v) h = _
    have hdm := dmin_lo W c v (by omega)
    have hva := vAt_lo W (v := v) (by omega) c
    unfold R_depthOf_L5_b
    rw [R.2.1, if_neg (by rw [ii_le (by omega) (by omega) (by omega) (by omega)]; omega), R_veinAt R W (by omega) c0 c1]
    show R_depthOf_L5 n (ii c) (ii s) _ (ii v + ii 1) h = _
    rw [ii_add]
    have e : (if ii (vAt hd v c) = (ii (-1)) then ii (dmin hd c v) else (if ii (dmin hd c v) = (ii (-1)) then ii (vAt hd v c) else (if ii (dmin hd c v) ≤ ii (vAt hd v c) then ii (dmin hd c v) else ii (vAt hd v c)))) = ii (dmin hd c (v + 1)) := by
      simp (disch := omega) only [ii_eq, ii_le]
      show _ = ii (if _ then _ else _)
      by_cases q1 : vAt hd v c = -1
      · rw [if_pos q1, if_neg (fun z => z.1 q1)]
      · rw [if_neg q1]
        by_cases q2 : dmin hd c v = -1
        · rw [if_pos q2, if_pos ⟨q1, Or.inl q2⟩]
        · rw [if_neg q2]
          by_cases q3 : dmin hd c v ≤ vAt hd v c
          · rw [if_pos q3, if_neg (fun z => by rcases z.2 with z | z; exact q2 z; omega)]
          · rw [if_neg q3, if_pos ⟨q1, Or.inr (by omega)⟩]
    rw [e]
    exact ih (v + 1) n (by omega) (by omega)
theorem R_depthOf (R : RH hd h) (W : HW hd) {c s : Int} (c0 : -2147483648 ≤ c) (c1 : c ≤ 2147483647) (s0 : 0 ≤ s) (s1 : s ≤ 3) : f_R_depthOf (ii c) (ii s) h = some (ii (watM hd c s)) := by
  have := W.1
  exact R_depthOf_l R W c0 c1 s0 s1 (hd 4).toNat 0 FU (by omega) (by unfold FU; omega)
theorem R_numberAt_l {b o : Nat} (E : ∀ j, j < 12 → h.1 o j = ii (hd (b + j))) {c z : Int} (c0 : -2147483648 ≤ c) (c1 : c ≤ 2147483647) (N : Nat) (hN : N ≤ 6) (B : ∀ k : Nat, k < N → -2147483648 ≤ hd (b + 2 * k) ∧ hd (b + 2 * k) ≤ 2147483647) : ∀ (m k n : Nat), k + m = N → m < n → R_numberAt_L3 n 12 o (ii N) (ii c) (ii z) (ii k) h = some (ii (thM hd b c z m k)) := by
  intro m
  induction m with
  | zero =>
    intro k n hk hn
    obtain ⟨n, rfl⟩ : ∃ z, n = z + 1 := ⟨n - 1, by omega⟩
    show R_numberAt_L3_b (R_numberAt_L3 n) 12 o (ii N) (ii c) (ii z) (ii k) h = _
    unfold R_numberAt_L3_b thM
    rw [if_pos (by rw [ii_le (by omega) (by omega) (by omega) (by omega)]; omega)]
  | succ m ih =>
    intro k n hk hn
    obtain ⟨n, rfl⟩ : ∃ z, n = z + 1 := ⟨n - 1, by omega⟩
    show R_numberAt_L3_b (R_numberAt_L3 n) 12 o (ii N) (ii c) (ii z) (ii k) h = _
    unfold R_numberAt_L3_b thM
    have b1 := B k (by omega)
    rw [if_neg (by rw [ii_le (by omega) (by omega) (by omega) (by omega)]; omega), ii_mul, ii_add, if_pos (inbn (j := 2 * k) (by omega) (by omega) (by omega)), nix (z := 2 * (k : Int)) (j := 2 * k) (by omega) (by omega), E _ (by omega)]
    by_cases q : hd (b + 2 * k) = c
    · rw [if_pos (by rw [q]), if_pos q, if_pos (inbn (j := 2 * k + 1) (by omega) (by omega) (by omega)), nix (z := 2 * (k : Int) + 1) (j := 2 * k + 1) (by omega) (by omega), E _ (by omega)]
      rfl
    · rw [if_neg (by rw [ii_eq (by omega) (by omega) c0 c1]; exact q), if_neg q, ii_add]
      exact ih (k + 1) n (by omega) (by omega)
theorem HS.irons (W : HS hd) : 0 ≤ hd 5 ∧ hd 5 ≤ 6 ∧ ∀ k : Nat, (k : Int) < hd 5 → -2147483648 ≤ hd (70 + 2 * k) ∧ hd (70 + 2 * k) ≤ 2147483647 := by
  rcases W with W | W
  · exact ⟨by omega, by omega, fun k hk => by omega⟩
  · have hc := W.cells
    exact ⟨by have := W.1; omega, by have := W.1; omega, fun k hk => by have := W.2.2.1 k hk; omega⟩
theorem HS.rocks (W : HS hd) : 0 ≤ hd 6 ∧ hd 6 ≤ 6 ∧ ∀ k : Nat, (k : Int) < hd 6 → -2147483648 ≤ hd (90 + 2 * k) ∧ hd (90 + 2 * k) ≤ 2147483647 := by
  rcases W with W | W
  · exact ⟨by omega, by omega, fun k hk => by omega⟩
  · have hc := W.cells
    exact ⟨by have := W.1; omega, by have := W.1; omega, fun k hk => by have := W.2.2.2.1 k hk; omega⟩
theorem R_ironAt (R : RH hd h) (W : HS hd) {c : Int} (c0 : -2147483648 ≤ c) (c1 : c ≤ 2147483647) : f_R_ironAt (ii c) h = some (ii (irM hd c)) := by
  obtain ⟨h5, h5', B⟩ := W.irons
  unfold f_R_ironAt f_R_numberAt irM
  rw [R.2.2.1]
  have := R_numberAt_l (h := h) (b := 70) (o := 89) (z := -1) R.2.2.2.2.2.2.2.1 c0 c1 (hd 5).toNat (by omega) (fun k hk => B k (by omega)) (hd 5).toNat 0 FU (by omega) (by unfold FU; omega)
  rw [show ((hd 5).toNat : Int) = hd 5 by omega] at this
  show Option.bind (R_numberAt_L3 FU 12 89 (ii (hd 5)) (ii c) (ii (-1)) (ii 0) h) _ = _
  rw [show (ii 0) = ii ((0 : Nat) : Int) from rfl, this]
  rfl
theorem R_rockAt (R : RH hd h) (W : HS hd) {c : Int} (c0 : -2147483648 ≤ c) (c1 : c ≤ 2147483647) : f_R_numberAt 12 91 (h.1 80 32) (ii c) (ii 0) h = some (ii (rkM hd c)) := by
  obtain ⟨h6, h6', B⟩ := W.rocks
  unfold f_R_numberAt rkM
  rw [R.2.2.2.1]
  have := R_numberAt_l (h := h) (b := 90) (o := 91) (z := 0) R.2.2.2.2.2.2.2.2.1 c0 c1 (hd 6).toNat (by omega) (fun k hk => B k (by omega)) (hd 6).toNat 0 FU (by omega) (by unfold FU; omega)
  rw [show ((hd 6).toNat : Int) = hd 6 by omega] at this
  exact this
theorem R_footAt (R : RH hd h) (W : HS hd) {c : Int} (c0 : -2147483648 ≤ c) (c1 : c ≤ 2147483647) : f_R_footAt (ii c) h = some (ii (hd 3 + rkM hd c)) := by
  unfold f_R_footAt
  have e3 : h.1 85 (ii 3).toNatClampNeg = ii (hd 3) := R.1 3 (by omega)
  rw [if_pos (by decide), R_rockAt R W c0 c1, e3]
  show some (ii (hd 3) + ii (rkM hd c)) = _
  rw [ii_add]
theorem R_told (R : RH hd h) {f k : Nat} (hf : f < 6) (hk : k < 6) : f_R_told (ii f) (ii k) h = some (ii (fkM hd f k)) := by
  unfold f_R_told
  rw [ii_mul, ii_add, if_pos (inbn (j := 6 * f + k) (by omega) (by omega) (by omega)), nix (z := 6 * (f : Int) + k) (j := 6 * f + k) (by omega) (by omega), R.2.2.2.2.2.2.2.2.2 _ (by omega)]
  unfold fkM
  congr 3; omega
theorem R_isCell (R : RH hd h) (W : HS hd) {c : Int} (c0 : -2147483648 ≤ c) (c1 : c ≤ 2147483647) : p_R_isCell (ii c) h = if 0 ≤ c ∧ c < cellsM hd then ii 1 else ii 0 := by
  have hc := W.cells
  unfold p_R_isCell
  rw [R.2.2.2.2.2.1]
  simp (disch := omega) only [z0, ii_lt, ii_le]
  by_cases q : c < 0
  · rw [if_pos q, if_neg (by omega)]
  · rw [if_neg q]
    by_cases q2 : cellsM hd ≤ c
    · rw [if_pos q2, if_neg (by omega)]
    · rw [if_neg q2, if_pos (by omega)]
theorem HS.nf (W : HS hd) : 0 ≤ hd 7 ∧ hd 7 ≤ 6 := by
  rcases W with W | W
  · omega
  · have := W.1; omega
theorem HS.nv (W : HS hd) : 0 ≤ hd 4 ∧ hd 4 ≤ 4 := by
  rcases W with W | W
  · omega
  · have := W.1; omega
theorem HS.hf (W : HS hd) {f : Int} (h0 : 0 ≤ f) (h1 : f < hd 7) : HW hd := by
  rcases W with W | W
  · omega
  · exact W
theorem R_isFork (R : RH hd h) (W : HS hd) {c : Int} (c0 : -2147483648 ≤ c) (c1 : c ≤ 2147483647) : p_R_isFork (ii c) h = if 0 ≤ c ∧ c < hd 7 then ii 1 else ii 0 := by
  have hc := W.nf
  unfold p_R_isFork
  rw [R.2.2.2.2.1]
  simp (disch := omega) only [z0, ii_lt, ii_le]
  by_cases q : c < 0
  · rw [if_pos q, if_neg (by omega)]
  · rw [if_neg q]
    by_cases q2 : hd 7 ≤ c
    · rw [if_pos q2, if_neg (by omega)]
    · rw [if_neg q2, if_pos (by omega)]
end RHT
