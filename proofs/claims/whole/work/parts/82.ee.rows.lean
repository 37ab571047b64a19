/-! rows for the loop of HeathForks' constructor -/
section CQ
variable {Γ : AG} {p : Program} {e : Env} {R : Room} {s : State} {m : MethodId} {args : Array Value} {below : List Frame} {meth : Method} {c : Code} {cc : ByteArray} {nL : Nat} {own : String} {A : Nat → Prop} {Q : State → Prop} {cells slots pc : Nat} {ls : Array Slot} {st : List Value} {ws ws' bs : va_W} {x : Nat × va_E}
theorem ap_get (h : ws' = ws ++ bs) {k : Nat} {z : Nat × va_E} (hk : ws[k]? = some z) : ws'[k]? = some z := by
  rw [h, List.getElem?_append_left (List.getElem?_eq_some_iff.mp hk).1]; exact hk
theorem ap_new (h : ws' = ws ++ bs) {n : Nat} {z : Nat × va_E} (hl : ws.length = n) (hb : bs[0]? = some z) : ws'[n]? = some z := by
  rw [h, List.getElem?_append_right (by omega), hl, Nat.sub_self]; exact hb
theorem ap_len (h : ws' = ws ++ bs) {n k l : Nat} (hl : ws.length = n) (hb : bs.length = k) (e : n + k = l) : ws'.length = l := by
  rw [h, List.length_append, hl, hb]; exact e
theorem st_len {i n : Nat} {z : Nat × va_E} (h : ws' = ws.set i z) (hl : ws.length = n) : ws'.length = n := by
  rw [h, List.length_set]; exact hl
theorem st_ne {i k : Nat} {z y : Nat × va_E} (h : ws' = ws.set i z) (hk : ws[k]? = some y) (e : i ≠ k) : ws'[k]? = some y := by
  rw [h, List.getElem?_set_ne e]; exact hk
theorem st_eq {i : Nat} {z y : Nat × va_E} (h : ws' = ws.set i z) (hk : ws[i]? = some y) : ws'[i]? = some z := by
  rw [h, List.getElem?_set_self (List.getElem?_eq_some_iff.mp hk).1]
theorem cq_ast (C : CC Γ p s m args c cc nL own A) (q0 t0 qk ci : Nat) {a v N k j : Nat} {r : vw_C} {vs : List Value} {f : Nat → Option Nat} (ha : ws[q0]? = some (a, .inl (gc Γ k, N, .inr (.inr (.inr (.inr f)))))) (ht : (tyA Γ)[t0]? = some (gc Γ k, .object r.1)) (hv : ws[qk]? = some (v, .inr (ci, vs))) (hc : am_cl[ci]? = some r) {i : Int32} (hin : inb i N = true) (hij : i.toNatClampNeg = j) (hd : decode cc pc = .ok (.aastore, 1))
    (w : ∀ ws', ws' = ws.set q0 (a, .inl (gc Γ k, N, .inr (.inr (.inr (.inr (va_up f j (some v))))))) → CW Γ p e R s m args below meth c A Q cells slots (pc + 1) ls st (x :: ws')) : CW Γ p e R s m args below meth c A Q cells slots pc ls (.ref v :: .int i :: .ref a :: st) (x :: ws) := by
  subst hij
  exact cp_ast C q0 t0 qk ci ha ht hv hc (inb_in hin) hd w
end CQ
