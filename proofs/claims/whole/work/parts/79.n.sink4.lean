/-! sink: the class's moor behind it -/
section SQ
variable {S : ST} {B : Nat} {h g h' g' : AH} {hd : Nat → Int} {d : DY} {o wr : Nat}
/-- the row behind a sink -/
def skD (d : DY) (c : Nat) (z : Int) (p : Int32) (x v : Int32) (n : Nat) : DY := paD (upd (upd d (14 + c) (ii z)) 44 (d 44 + p)) x v n
theorem MR.sk {M M' : MV} (R : MR hd d wr M) (H : HS hd) {c : Nat} (hc : c < 30) {z : Int} (z1 : 0 < z) (z2 : z ≤ 60) {p x v : Int32} (hx : ∀ i : Nat, hd 7 ≤ i → tb x i = false)
    (e1 : ∀ i, i < 6 → M'.1 i = M.1 i) (e2 : ∀ i, i < 6 → M'.2.1 i = M.2.1 i + (if tb x i then v else ii 0)) (e3 : ∀ i, i < 2 → M'.2.2.1 i = M.2.2.1 i) (e4 : M'.2.2.2.1 = M.2.2.2.1) (e5 : ∀ i, i < 30 → M'.2.2.2.2.1 i = if i = c then ii z else M.2.2.2.2.1 i)
    (e6 : M'.2.2.2.2.2 = (M.2.2.2.2.2.1, M.2.2.2.2.2.2.1 ||| bitI c, M.2.2.2.2.2.2.2.1 + p, M.2.2.2.2.2.2.2.2)) : MR hd (skD d c z p x v (hd 7).toNat) wr M' := by
  obtain ⟨m1, m2, m3, m4, m5, m6⟩ := R
  have hf := H.nf
  have hi : ∀ j, 12 ≤ j → j ≠ 44 → j ≠ 14 + c → skD d c z p x v (hd 7).toNat j = d j := fun j h1 h2 h3 => by unfold skD; rw [paD_hi (by omega), upd_ne h2, upd_ne h3]
  have hw : ∀ i, i < 30 → skD d c z p x v (hd 7).toNat (14 + i) = upd d (14 + c) (ii z) (14 + i) := fun i h1 => by unfold skD; rw [paD_hi (by omega), upd_ne (by omega)]
  have eb : bL (skD d c z p x v (hd 7).toNat) = bL d := by unfold bL; rw [hi 46 (by omega) (by omega) (by omega)]
  refine ⟨fun k hk => ?_, fun k hk => ?_, ⟨?_, ?_⟩, ⟨?_, m4.2.1, by rw [eb]; exact m4.2.2.1, fun i hi' => ?_⟩, fun k hk => ?_, ?_, ?_, ?_⟩
  · rw [e1 k (by omega), m1 k hk]; unfold skD; rw [paD_ev, upd_ne (by omega), upd_ne (by omega)]
  · rw [e2 k hk, m2 k hk]
    by_cases q : (k : Int) < hd 7
    · rw [if_pos q, if_pos q]
      unfold skD paD
      rw [if_pos (show 2 * k + 1 < 2 * (hd 7).toNat ∧ (2 * k + 1) % 2 = 1 by omega), show (2 * k + 1) / 2 = k by omega, upd_ne (by omega), upd_ne (by omega)]
    · rw [if_neg q, if_neg q, hx k (by omega)]; rfl
  · rw [e3 0 (by omega), hi 12 (by omega) (by omega) (by omega)]; exact m3.1
  · rw [e3 1 (by omega), hi 13 (by omega) (by omega) (by omega)]; exact m3.2
  · rw [e6]; exact m4.1
  · rw [eb] at hi' ⊢
    rw [e4, m4.2.2.2 i hi']
    unfold bkE
    rw [hi _ (by omega) (by omega) (by omega), hi _ (by omega) (by omega) (by omega), hi _ (by omega) (by omega) (by omega)]
  · rw [e5 k hk, hw k hk]
    by_cases q : k = c
    · rw [q, if_pos rfl, upd_self]
    · rw [if_neg q, upd_ne (by omega)]; exact m5 k hk
  · rw [e6]
    show M.2.2.2.2.2.2.1 ||| bitI c = _
    rw [m6.1, ← wlM_set hc z1 z2]
    unfold wlM
    exact mk_eq (fun i hi' => by rw [hw i hi'])
  · rw [e6]
    show M.2.2.2.2.2.2.2.1 + p = _
    rw [m6.2.1]; unfold skD; rw [paD_hi (by omega), upd_self]
  · rw [e6, hi 45 (by omega) (by omega) (by omega)]; exact m6.2.2
end SQ
section SR2
variable {hd : Nat → Int} {d : DY}
theorem DW.sk (V : DW hd d) (H : HS hd) {c : Nat} (hc : (c : Int) < cellsM hd) {z : Int} (z1 : 0 < z) (z2 : z ≤ 60) {p x v : Int32} : DW hd (skD d c z p x v (hd 7).toNat) := by
  have hf := H.nf
  have hcl := H.cells
  unfold skD
  refine DW.pa ?_ (by omega)
  obtain ⟨v1, v2, v3, v4, v5⟩ := V
  have eb : bL (upd (upd d (14 + c) (ii z)) 44 (d 44 + p)) = bL d := by unfold bL; rw [upd_ne (by omega), upd_ne (by omega)]
  refine ⟨by rw [upd_ne (by omega), upd_ne (by omega)]; exact v1, fun f hf => by rw [upd_ne (by omega), upd_ne (by omega)]; exact v2 f hf, fun k hk => ?_, by rw [eb, upd_ne (by omega), upd_ne (by omega)]; exact v4, fun j hj => ?_⟩
  · rw [upd_ne (by omega)]
    by_cases q : k = c
    · rw [q, upd_self]; exact ⟨z, by omega, z2, rfl, fun h => by omega⟩
    · rw [upd_ne (by omega)]; exact v3 k hk
  · rw [eb] at hj
    rw [upd_ne (by omega), upd_ne (by omega), upd_ne (by omega), upd_ne (by omega), upd_ne (by omega), upd_ne (by omega)]; exact v5 j hj
end SR2
