/-! tools: loops, conditions over ints -/
theorem lup {α β : Type} (F : Nat → Nat → α → Option β) (N : Nat) (P : Nat → α → Prop) (Q : Option β → Prop)
    (he : ∀ n a, P N a → Q (F (n + 1) N a))
    (hs : ∀ n k a, k < N → P k a → Q (F (n + 1) k a) ∨ ∃ a', F (n + 1) k a = F n (k + 1) a' ∧ P (k + 1) a') :
    ∀ m k n a, k + m = N → m < n → P k a → Q (F n k a) := by
  intro m
  induction m with
  | zero =>
    intro k n a hk hn p
    obtain ⟨n, rfl⟩ : ∃ z, n = z + 1 := ⟨n - 1, by omega⟩
    rw [Nat.add_zero] at hk
    subst hk
    exact he n a p
  | succ m ih =>
    intro k n a hk hn p
    obtain ⟨n, rfl⟩ : ∃ z, n = z + 1 := ⟨n - 1, by omega⟩
    rcases hs n k a (by omega) p with q | ⟨a', e, p'⟩
    · exact q
    · rw [e]
      exact ih (k + 1) n a' (by omega) (by omega) p'
theorem lrel {α β α' β' : Type} (F : Nat → Nat → α → Option β) (G : Nat → Nat → α' → Option β') (N : Nat) (R : Nat → α → α' → Prop) (Q : Option β → Option β' → Prop)
    (he : ∀ n m a b, R N a b → Q (F (n + 1) N a) (G (m + 1) N b))
    (hs : ∀ n m k a b, k < N → R k a b → Q (F (n + 1) k a) (G (m + 1) k b) ∨ ∃ a' b', F (n + 1) k a = F n (k + 1) a' ∧ G (m + 1) k b = G m (k + 1) b' ∧ R (k + 1) a' b') :
    ∀ j k n m a b, k + j = N → j < n → j < m → R k a b → Q (F n k a) (G m k b) := by
  intro j
  induction j with
  | zero =>
    intro k n m a b hk hn hm p
    obtain ⟨n, rfl⟩ : ∃ z, n = z + 1 := ⟨n - 1, by omega⟩
    obtain ⟨m, rfl⟩ : ∃ z, m = z + 1 := ⟨m - 1, by omega⟩
    rw [Nat.add_zero] at hk
    subst hk
    exact he n m a b p
  | succ j ih =>
    intro k n m a b hk hn hm p
    obtain ⟨n, rfl⟩ : ∃ z, n = z + 1 := ⟨n - 1, by omega⟩
    obtain ⟨m, rfl⟩ : ∃ z, m = z + 1 := ⟨m - 1, by omega⟩
    rcases hs n m k a b (by omega) p with q | ⟨a', b', e, e', p'⟩
    · exact q
    · rw [e, e']
      exact ih (k + 1) n m a' b' (by omega) (by omega) (by omega) p'
section IFS
variable {α : Type} {a b : Int} {x y : α}
theorem ifLeT (h : a ≤ b) (h1 : -2147483648 ≤ a) (h4 : b ≤ 2147483647) : (if ii a ≤ ii b then x else y) = x := if_pos ((ii_le h1 (by omega) (by omega) h4).mpr h)
theorem ifLeF (h : b < a) (h1 : -2147483648 ≤ b) (h4 : a ≤ 2147483647) : (if ii a ≤ ii b then x else y) = y := if_neg (fun z => by have := (ii_le (by omega) h4 h1 (by omega)).mp z; omega)
theorem ifLtT (h : a < b) (h1 : -2147483648 ≤ a) (h4 : b ≤ 2147483647) : (if ii a < ii b then x else y) = x := if_pos ((ii_lt h1 (by omega) (by omega) h4).mpr h)
theorem ifLtF (h : b ≤ a) (h1 : -2147483648 ≤ b) (h4 : a ≤ 2147483647) : (if ii a < ii b then x else y) = y := if_neg (fun z => by have := (ii_lt (by omega) h4 h1 (by omega)).mp z; omega)
theorem ifEqT (h : a = b) : (if ii a = ii b then x else y) = x := if_pos (by rw [h])
theorem ifEqF (h : a ≠ b) (h1 : -2147483648 ≤ a) (h2 : a ≤ 2147483647) (h3 : -2147483648 ≤ b) (h4 : b ≤ 2147483647) : (if ii a = ii b then x else y) = y := if_neg (fun z => h ((ii_eq h1 h2 h3 h4).mp z))
theorem ifNeT (h : a ≠ b) (h1 : -2147483648 ≤ a) (h2 : a ≤ 2147483647) (h3 : -2147483648 ≤ b) (h4 : b ≤ 2147483647) : (if ¬ ii a = ii b then x else y) = x := if_pos (fun z => h ((ii_eq h1 h2 h3 h4).mp z))
theorem ifNeF (h : a = b) : (if ¬ ii a = ii b then x else y) = y := if_neg (fun z => z (by rw [h]))
theorem ifIn {n : Nat} (h0 : 0 ≤ a) (h1 : a < n) (h2 : a ≤ 2147483647) : (if inb (ii a) n = true then x else y) = x := if_pos ((ii_inb (by omega) h2).mpr ⟨h0, h1⟩)
theorem nixZ (h0 : 0 ≤ a) (h2 : a ≤ 2147483647) : (ii a).toNatClampNeg = a.toNat := ii_nat h0 h2
end IFS
/-- the number that an int is -/
def vI (x : Int32) : Int := x.toInt
theorem vI_ii (x : Int32) : x = ii (vI x) := ii_of x
theorem vI_lo (x : Int32) : -2147483648 ≤ vI x ∧ vI x ≤ 2147483647 := ⟨by have := Int32.le_toInt x; simpa [vI] using this, by have := Int32.toInt_lt x; unfold vI; omega⟩
def sumN (f : Nat → Int) : Nat → Int
  | 0 => 0
  | n + 1 => sumN f n + f n
theorem sumN_eq {f g : Nat → Int} : ∀ {n : Nat}, (∀ i, i < n → f i = g i) → sumN f n = sumN g n
  | 0, _ => rfl
  | n + 1, h => by rw [sumN, sumN, sumN_eq (fun i hi => h i (by omega)), h n (by omega)]
theorem sumN_front (f : Nat → Int) : ∀ n : Nat, sumN f (n + 1) = f 0 + sumN (fun i => f (i + 1)) n
  | 0 => by simp [sumN]
  | n + 1 => by rw [sumN, sumN_front f n, sumN]; omega
theorem sumN_rev (f : Nat → Int) : ∀ n : Nat, sumN (fun i => f (n - 1 - i)) n = sumN f n
  | 0 => rfl
  | n + 1 => by
    rw [sumN_front, sumN, ← sumN_rev f n, Int.add_comm]
    congr 1
    apply sumN_eq
    intro i hi
    congr 1
    omega
theorem sumN_lo {f : Nat → Int} {a b : Int} : ∀ {n : Nat}, (∀ i, i < n → a ≤ f i ∧ f i ≤ b) → n * a ≤ sumN f n ∧ sumN f n ≤ n * b
  | 0, _ => by simp [sumN]
  | n + 1, h => by
    have h1 := sumN_lo (n := n) (fun i hi => h i (by omega))
    have h2 := h n (by omega)
    rw [sumN]
    have e1 : ((n + 1 : Nat) : Int) * a = n * a + a := by rw [Int.natCast_add, Int.add_mul]; simp
    have e2 : ((n + 1 : Nat) : Int) * b = n * b + b := by rw [Int.natCast_add, Int.add_mul]; simp
    omega
/-- some i below n -/
def anyN (P : Nat → Prop) (n : Nat) : Prop := ∃ i, i < n ∧ P i
/-! what reads share: the class's heath o and moor 13, the reference's heath and row 97 -/
def RX (hd : Nat → Int) (d : DY) (o wr : Nat) (h g : AH) : Prop := h.2.2 0 13 = o ∧ CH hd o h ∧ MR hd d wr (mvO h 13) ∧ RH hd g ∧ RDy d g 97 ∧ HS hd ∧ DW hd d
theorem RDy.i {d : DY} {h : AH} {a : Nat} (R : RDy d h a) {j : Nat} (hj : j < 227) : h.1 a j = ii (vI (d j)) := by rw [R j hj]; exact vI_ii _
section DWs
variable {hd : Nat → Int} {d : DY}
theorem ii_vI {z : Int} {x : Int32} (e : x = ii z) (h1 : -2147483648 ≤ z) (h2 : z ≤ 2147483647) : vI x = z := by rw [e]; exact ii_toInt h1 h2
theorem DW.sea (D : DW hd d) : 0 ≤ vI (d 45) ∧ vI (d 45) ≤ 3 := by
  obtain ⟨s, s0, s1, e⟩ := D.1
  rw [ii_vI e (by omega) (by omega)]; omega
theorem DW.plc (D : DW hd d) (W : HS hd) {f : Nat} (hf : (f : Int) < hd 7) : 0 ≤ vI (d (2 * f)) ∧ vI (d (2 * f)) < cellsM hd := by
  obtain ⟨s, s0, s1, e⟩ := D.2.1 f hf
  have := W.cells
  rw [ii_vI e (by omega) (by omega)]; omega
theorem DW.wel (D : DW hd d) {c : Nat} (hc : c < 30) : 0 ≤ vI (d (14 + c)) ∧ vI (d (14 + c)) ≤ 60 ∧ (cellsM hd ≤ c → vI (d (14 + c)) = 0) := by
  obtain ⟨s, s0, s1, e, z⟩ := D.2.2.1 c hc
  rw [ii_vI e (by omega) (by omega)]; exact ⟨s0, s1, z⟩
theorem DW.bl (D : DW hd d) : vI (d 46) = bL d ∧ bL d ≤ 60 := by
  refine ⟨?_, D.2.2.2.1.2⟩
  have := D.2.2.2.1.2
  exact ii_vI D.2.2.2.1.1 (by omega) (by omega)
theorem DW.bk (D : DW hd d) (W : HS hd) {j : Nat} (hj : j < bL d) : 0 ≤ vI (d (47 + 3 * j)) ∧ vI (d (47 + 3 * j)) < hd 7 ∧ 0 ≤ vI (d (48 + 3 * j)) ∧ vI (d (48 + 3 * j)) < cellsM hd ∧ 0 ≤ vI (d (49 + 3 * j)) ∧ vI (d (49 + 3 * j)) ≤ 99 := by
  obtain ⟨f, c, t, ⟨f0, f1, c0, c1, t0, t1⟩, e1, e2, e3⟩ := D.2.2.2.2 j hj
  have := W.cells
  have := W.nf
  rw [ii_vI e1 (by omega) (by omega), ii_vI e2 (by omega) (by omega), ii_vI e3 (by omega) (by omega)]
  omega
end DWs
