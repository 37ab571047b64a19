/-! the tape -/
/-- the k-th byte of a word -/
def byt (v : Int32) (k : Nat) : Int := ((v.toBitVec.toNat / 2 ^ k % 256 : Nat) : Int)
/-- a byte as the reference keeps it -/
def sb (x : Int) : Int32 := (ii x).toInt8.toInt32
theorem byt_lo (v : Int32) (k : Nat) : 0 ≤ byt v k ∧ byt v k ≤ 255 := by unfold byt; omega
theorem ushI_byt (v : Int32) {k : Nat} (hk : k < 32) : ushI v (ii k) &&& ii 255 = ii (byt v k) := by
  have h1 := pk_ushr v (nI k) k (by
    have : ∀ k, k < 32 → (((nI k).toUInt32 &&& Int32.toUInt32 31).toBitVec % 32).toNat = k := by decide +kernel
    exact this k hk)
  have e1 : ii (k : Int) = nI k := (i32_nat k).symm
  have e2 : ii 255 = nI 255 := rfl
  rw [ushI, e1, e2, pk_and _ 8 (by decide), h1]
  rw [byt, ← i32_nat]
  rfl
theorem sh_bv {v : Int32} {k : Nat} (hk : k < 32) : (shrI v (ii k)).toBitVec = v.toBitVec.sshiftRight k ∧ (ushI v (ii k)).toBitVec = v.toBitVec >>> k := by
  have e1 : ii (k : Int) = nI k := (i32_nat k).symm
  have hs : ((nI k &&& 31).toBitVec.smod 32).toNat = k := by
    have : ∀ k, k < 32 → ((nI k &&& 31).toBitVec.smod 32).toNat = k := by decide +kernel
    exact this k hk
  have hu : (((nI k).toUInt32 &&& Int32.toUInt32 31).toBitVec % 32).toNat = k := by
    have : ∀ k, k < 32 → (((nI k).toUInt32 &&& Int32.toUInt32 31).toBitVec % 32).toNat = k := by decide +kernel
    exact this k hk
  refine ⟨?_, ?_⟩
  · rw [shrI, e1]
    show v.toBitVec.sshiftRight' _ = _
    rw [BitVec.sshiftRight', hs]
  · rw [ushI, e1]
    apply BitVec.eq_of_toNat_eq
    have h1 := pk_ushr v (nI k) k hu
    rw [h1, BitVec.toNat_ushiftRight, Nat.shiftRight_eq_div_pow]
theorem shrI_ushI (v : Int32) {k : Nat} (hk : k ≤ 24) : shrI v (ii k) &&& ii 255 = ushI v (ii k) &&& ii 255 := by
  apply Int32.toBitVec_inj.mp
  show (shrI v (ii k)).toBitVec &&& 255#32 = (ushI v (ii k)).toBitVec &&& 255#32
  rw [(sh_bv (v := v) (k := k) (by omega)).1, (sh_bv (v := v) (k := k) (by omega)).2]
  apply BitVec.eq_of_getLsbD_eq
  intro i hi
  rw [BitVec.getLsbD_and, BitVec.getLsbD_and, BitVec.getLsbD_sshiftRight, BitVec.getLsbD_ushiftRight]
  by_cases h8 : i < 8
  · have : k + i < 32 := by omega
    have h32 : ¬ 32 ≤ i := by omega
    simp [this, hi, h32]
  · have : ∀ i, i < 32 → 8 ≤ i → (255#32).getLsbD i = false := by decide +kernel
    rw [this i hi (by omega)]
    simp
theorem shrI_byt (v : Int32) {k : Nat} (hk : k ≤ 24) : shrI v (ii k) &&& ii 255 = ii (byt v k) := by rw [shrI_ushI v hk, ushI_byt v (by omega)]
theorem i8_and (x : Int32) : x.toInt8.toInt32 = (x &&& ii 255).toInt8.toInt32 := by
  congr 1
  apply Int8.toBitVec_inj.mp
  rw [Int32.toBitVec_toInt8, Int32.toBitVec_toInt8]
  apply BitVec.eq_of_getLsbD_eq
  intro i hi
  have e : (x &&& ii 255).toBitVec = x.toBitVec &&& 255#32 := rfl
  rw [e, BitVec.getLsbD_signExtend, BitVec.getLsbD_signExtend, BitVec.getLsbD_and, if_pos (by omega), if_pos (by omega)]
  have : ∀ i, i < 8 → (255#32).getLsbD i = true := by decide +kernel
  rw [this i hi]
  simp
theorem shrI_i8 (v : Int32) {k : Nat} (hk : k ≤ 24) : (shrI v (ii k)).toInt8.toInt32 = sb (byt v k) := by rw [i8_and, shrI_byt v hk]; rfl
theorem sb_and {x : Int} (h0 : 0 ≤ x) (h1 : x ≤ 255) : sb x &&& ii 255 = ii x := by
  have : ∀ n : Nat, n < 256 → sb (n : Int) &&& ii 255 = ii (n : Int) := by decide +kernel
  have h := this x.toNat (by omega)
  rwa [Int.toNat_of_nonneg h0] at h
theorem sb_i8 (x : Int) : (sb x).toInt8.toInt32 = sb x := by
  have : ∀ y : Int8, (y.toInt32).toInt8 = y := fun y => by simp
  unfold sb
  rw [this]
/-- a text of bytes 1 .. 255 in an array, its length in a field -/
def TP (lo lf ar : Nat) (enc : Int → Int32) (h : AH) (bs : List Int) : Prop := h.1 lo lf = ii bs.length ∧ ∀ j, j < bs.length → h.1 ar j = enc (bs.getD j 0)
def okB (bs : List Int) : Prop := bs.length ≤ 240 ∧ ∀ b ∈ bs, 1 ≤ b ∧ b ≤ 255
def nzb (v : Int32) : List Int := [byt v 24, byt v 16, byt v 8, byt v 0].filter (fun x => x != 0)
theorem TP.put {lo lf ar : Nat} {enc : Int → Int32} {h : AH} {bs : List Int} (hne : lo ≠ ar) (t : TP lo lf ar enc h bs) (b : Int) : TP lo lf ar enc (wI (wI h ar bs.length (enc b)) lo lf (ii (bs.length + 1))) (bs ++ [b]) := by
  refine ⟨?_, ?_⟩
  · rw [wI_rd]; simp
  · intro j hj
    rw [wI_ne (Ne.symm hne), wI_rd, if_pos rfl]
    simp only [List.length_append, List.length_cons, List.length_nil] at hj
    by_cases e : j = bs.length
    · subst e; simp
    · rw [if_neg e, t.2 j (by omega)]
      rw [List.getD_eq_getElem?_getD, List.getD_eq_getElem?_getD, List.getElem?_append_left (by omega)]
theorem TP.ag {lo lf ar : Nat} {enc : Int → Int32} {h h' : AH} {bs : List Int} (t : TP lo lf ar enc h bs) (e1 : h'.1 lo = h.1 lo) (e2 : h'.1 ar = h.1 ar) : TP lo lf ar enc h' bs := ⟨by rw [e1]; exact t.1, fun j hj => by rw [e2]; exact t.2 j hj⟩
theorem ii_z {a : Int} (h1 : -2147483648 ≤ a) (h2 : a ≤ 2147483647) : (ii a = 0) ↔ a = 0 := by rw [z0, ii_eq h1 h2 (by omega) (by omega)]
theorem byt_z (v : Int32) (k : Nat) : (ii (byt v k) = 0) ↔ byt v k = 0 := ii_z (by have := byt_lo v k; omega) (by have := byt_lo v k; omega)
def cnt1 (x : Int) : Int := if x = 0 then 0 else 1
theorem nzb_len (v : Int32) : ((nzb v).length : Int) = cnt1 (byt v 24) + cnt1 (byt v 16) + cnt1 (byt v 8) + cnt1 (byt v 0) := by
  unfold nzb cnt1
  by_cases h1 : byt v 24 = 0 <;> by_cases h2 : byt v 16 = 0 <;> by_cases h3 : byt v 8 = 0 <;> by_cases h4 : byt v 0 = 0 <;> simp [h1, h2, h3, h4]
theorem C_bytesIn_s (v : Int32) (c : Int) (h : AH) (n k : Nat) (hk : k ≤ 24) : Tape_bytesIn_L5 (n + 1) v (ii c) (ii k) h = Tape_bytesIn_L5 n v (ii (c + cnt1 (byt v k))) (ii (k - 8 : Int)) h := by
  show Tape_bytesIn_L5_b (Tape_bytesIn_L5 n) v (ii c) (ii k) h = _
  unfold Tape_bytesIn_L5_b
  rw [if_neg (by rw [z0, ii_lt (by omega) (by omega) (by omega) (by omega)]; omega), ushI_byt v (by omega)]
  have e : ii (k : Int) + ii (-8) = ii (k - 8 : Int) := by rw [ii_add]; congr 1
  rw [e]
  by_cases hb : byt v k = 0
  · rw [if_pos ((byt_z v k).mpr hb), ii_add]; simp [cnt1, hb]
  · rw [if_neg (fun z => hb ((byt_z v k).mp z)), ii_add]; simp [cnt1, hb]
theorem C_bytesIn (v : Int32) (h : AH) : f_Tape_bytesIn v h = some (ii (nzb v).length) := by
  show Tape_bytesIn_L5 (99995 + 1 + 1 + 1 + 1 + 1) v (ii 0) (ii (24 : Nat)) h = _
  rw [C_bytesIn_s _ _ _ _ 24 (by omega)]
  show Tape_bytesIn_L5 _ v _ (ii (16 : Nat)) h = _
  rw [C_bytesIn_s _ _ _ _ 16 (by omega)]
  show Tape_bytesIn_L5 _ v _ (ii (8 : Nat)) h = _
  rw [C_bytesIn_s _ _ _ _ 8 (by omega)]
  show Tape_bytesIn_L5 _ v _ (ii (0 : Nat)) h = _
  rw [C_bytesIn_s _ _ _ _ 0 (by omega)]
  show Tape_bytesIn_L5_b _ v _ _ h = _
  unfold Tape_bytesIn_L5_b
  rw [if_pos (by rw [z0, ii_lt (by omega) (by omega) (by omega) (by omega)]; omega), nzb_len]
  congr 2
  omega
theorem R_bytesIn_s (v : Int32) (c : Int) (h : AH) (n k : Nat) (hk : k ≤ 24) : R_bytesIn_L5 (n + 1) v (ii c) (ii k) h = R_bytesIn_L5 n v (ii (c + cnt1 (byt v k))) (ii (k - 8 : Int)) h := by
  show R_bytesIn_L5_b (R_bytesIn_L5 n) v (ii c) (ii k) h = _
  unfold R_bytesIn_L5_b
  rw [if_neg (by rw [z0, ii_lt (by omega) (by omega) (by omega) (by omega)]; omega), shrI_byt v (by omega)]
  have e : ii (k : Int) + ii (-8) = ii (k - 8 : Int) := by rw [ii_add]; congr 1
  rw [e]
  by_cases hb : byt v k = 0
  · rw [if_pos ((byt_z v k).mpr hb), ii_add]; simp [cnt1, hb]
  · rw [if_neg (fun z => hb ((byt_z v k).mp z)), ii_add]; simp [cnt1, hb]
theorem R_bytesIn (v : Int32) (h : AH) : f_R_bytesIn v h = some (ii (nzb v).length) := by
  show R_bytesIn_L5 (99995 + 1 + 1 + 1 + 1 + 1) v (ii 0) (ii (24 : Nat)) h = _
  rw [R_bytesIn_s _ _ _ _ 24 (by omega)]
  show R_bytesIn_L5 _ v _ (ii (16 : Nat)) h = _
  rw [R_bytesIn_s _ _ _ _ 16 (by omega)]
  show R_bytesIn_L5 _ v _ (ii (8 : Nat)) h = _
  rw [R_bytesIn_s _ _ _ _ 8 (by omega)]
  show R_bytesIn_L5 _ v _ (ii (0 : Nat)) h = _
  rw [R_bytesIn_s _ _ _ _ 0 (by omega)]
  show R_bytesIn_L5_b _ v _ _ h = _
  unfold R_bytesIn_L5_b
  rw [if_pos (by rw [z0, ii_lt (by omega) (by omega) (by omega) (by omega)]; omega), nzb_len]
  congr 2
  omega
/-- the bytes from shift k on -/
def nz1 (x : Int) : List Int := if x = 0 then [] else [x]
theorem nzb_eq (v : Int32) : nzb v = nz1 (byt v 24) ++ (nz1 (byt v 16) ++ (nz1 (byt v 8) ++ nz1 (byt v 0))) := by
  unfold nzb nz1
  by_cases h1 : byt v 24 = 0 <;> by_cases h2 : byt v 16 = 0 <;> by_cases h3 : byt v 8 = 0 <;> by_cases h4 : byt v 0 = 0 <;> simp [h1, h2, h3, h4]
theorem C_append_s (v : Int32) (h : AH) (n k : Nat) (hk : k ≤ 24) {bs : List Int} (t : TP 1 1 2 ii h bs) (hn : (bs ++ nz1 (byt v k)).length ≤ 240) : ∃ h1, Tape_append_L3 (n + 1) v (ii k) h = Tape_append_L3 n v (ii (k - 8 : Int)) h1 ∧ TP 1 1 2 ii h1 (bs ++ nz1 (byt v k)) ∧ Ag [1, 2] h h1 ∧ h1.1 1 2 = h.1 1 2 := by
  have e : ii (k : Int) + ii (-8) = ii (k - 8 : Int) := by rw [ii_add]; congr 1
  have u : Tape_append_L3 (n + 1) v (ii k) h = Tape_append_L3_b (Tape_append_L3 n) v (ii k) h := rfl
  unfold Tape_append_L3_b at u
  rw [if_neg (by rw [z0, ii_lt (by omega) (by omega) (by omega) (by omega)]; omega), ushI_byt v (by omega), e] at u
  by_cases hb : byt v k = 0
  · rw [if_pos ((byt_z v k).mpr hb)] at u
    refine ⟨h, u, ?_, Ag.rf _ _, rfl⟩
    simpa [nz1, hb] using t
  · rw [if_neg (fun z => hb ((byt_z v k).mp z))] at u
    simp only [nz1, hb, if_false, List.length_append, List.length_cons, List.length_nil] at hn ⊢
    have hl := t.1
    rw [hl] at u
    rw [if_neg (by rw [z0, ii_lt (by omega) (by omega) (by omega) (by omega)]; omega), if_neg (by rw [ii_le (by omega) (by omega) (by omega) (by omega)]; omega), if_pos (by rw [ii_inb (by omega) (by omega)]; omega), ii_nat (by omega) (by omega)] at u
    rw [wI_ne (by decide), hl, ii_add] at u
    refine ⟨_, u, ?_, ((Ag.rf [1, 2] h).pI (by decide)).pI (by decide), ?_⟩
    · have := t.put (by decide) (byt v k)
      simpa using this
    · rw [wI_rd]
      simp [wI_rd]
theorem C_append (v : Int32) (h : AH) {bs : List Int} (t : TP 1 1 2 ii h bs) (hn : (bs ++ nzb v).length ≤ 240) : ∃ h1, f_Tape_append v h = some h1 ∧ TP 1 1 2 ii h1 (bs ++ nzb v) ∧ Ag [1, 2] h h1 ∧ h1.1 1 2 = h.1 1 2 := by
  rw [nzb_eq] at hn ⊢
  simp only [List.length_append] at hn
  show ∃ h1, Tape_append_L3 (99995 + 1 + 1 + 1 + 1 + 1) v (ii (24 : Nat)) h = some h1 ∧ _
  obtain ⟨h1, u1, t1, a1, c1⟩ := C_append_s v h (99995 + 1 + 1 + 1 + 1) 24 (by omega) t (by simp only [List.length_append]; omega)
  obtain ⟨h2, u2, t2, a2, c2⟩ := C_append_s v h1 (99995 + 1 + 1 + 1) 16 (by omega) t1 (by simp only [List.length_append]; omega)
  obtain ⟨h3, u3, t3, a3, c3⟩ := C_append_s v h2 (99995 + 1 + 1) 8 (by omega) t2 (by simp only [List.length_append]; omega)
  obtain ⟨h4, u4, t4, a4, c4⟩ := C_append_s v h3 (99995 + 1) 0 (by omega) t3 (by simp only [List.length_append]; omega)
  refine ⟨h4, ?_, by simpa [List.append_assoc] using t4, ((a1.tr a2).tr a3).tr a4, by rw [c4, c3, c2, c1]⟩
  refine u1.trans (u2.trans (u3.trans (u4.trans ?_)))
  show Tape_append_L3_b _ v _ h4 = _
  unfold Tape_append_L3_b
  rw [if_pos (by rw [z0, ii_lt (by omega) (by omega) (by omega) (by omega)]; omega)]
theorem R_put_s (v : Int32) (h : AH) (n k : Nat) (hk : k ≤ 24) {bs : List Int} (t : TP 80 6 81 sb h bs) (hn : (bs ++ nz1 (byt v k)).length ≤ 240) : ∃ h1, R_put_L3 (n + 1) v (ii k) h = R_put_L3 n v (ii (k - 8 : Int)) h1 ∧ TP 80 6 81 sb h1 (bs ++ nz1 (byt v k)) ∧ Ag [80, 81] h h1 ∧ ∀ j, j ≠ 6 → h1.1 80 j = h.1 80 j := by
  have e : ii (k : Int) + ii (-8) = ii (k - 8 : Int) := by rw [ii_add]; congr 1
  have u : R_put_L3 (n + 1) v (ii k) h = R_put_L3_b (R_put_L3 n) v (ii k) h := rfl
  unfold R_put_L3_b at u
  rw [if_neg (by rw [z0, ii_lt (by omega) (by omega) (by omega) (by omega)]; omega), shrI_byt v (by omega), e] at u
  by_cases hb : byt v k = 0
  · rw [if_pos ((byt_z v k).mpr hb)] at u
    refine ⟨h, u, ?_, Ag.rf _ _, fun _ _ => rfl⟩
    simpa [nz1, hb] using t
  · rw [if_neg (fun z => hb ((byt_z v k).mp z))] at u
    simp only [nz1, hb, if_false, List.length_append, List.length_cons, List.length_nil] at hn ⊢
    have hl := t.1
    rw [hl] at u
    rw [if_pos (by rw [ii_inb (by omega) (by omega)]; omega), ii_nat (by omega) (by omega), shrI_i8 v hk, sb_i8] at u
    rw [wI_ne (by decide), hl, ii_add] at u
    refine ⟨_, u, ?_, ((Ag.rf [80, 81] h).pI (by decide)).pI (by decide), ?_⟩
    · have := t.put (by decide) (byt v k)
      simpa using this
    · intro j hj
      rw [wI_rd]
      simp [wI_rd, hj]
theorem R_put (v : Int32) (h : AH) {bs : List Int} (t : TP 80 6 81 sb h bs) (hn : (bs ++ nzb v).length ≤ 240) : ∃ h1, f_R_put v h = some h1 ∧ TP 80 6 81 sb h1 (bs ++ nzb v) ∧ Ag [80, 81] h h1 ∧ ∀ j, j ≠ 6 → h1.1 80 j = h.1 80 j := by
  rw [nzb_eq] at hn ⊢
  simp only [List.length_append] at hn
  show ∃ h1, R_put_L3 (99995 + 1 + 1 + 1 + 1 + 1) v (ii (24 : Nat)) h = some h1 ∧ _
  obtain ⟨h1, u1, t1, a1, c1⟩ := R_put_s v h (99995 + 1 + 1 + 1 + 1) 24 (by omega) t (by simp only [List.length_append]; omega)
  obtain ⟨h2, u2, t2, a2, c2⟩ := R_put_s v h1 (99995 + 1 + 1 + 1) 16 (by omega) t1 (by simp only [List.length_append]; omega)
  obtain ⟨h3, u3, t3, a3, c3⟩ := R_put_s v h2 (99995 + 1 + 1) 8 (by omega) t2 (by simp only [List.length_append]; omega)
  obtain ⟨h4, u4, t4, a4, c4⟩ := R_put_s v h3 (99995 + 1) 0 (by omega) t3 (by simp only [List.length_append]; omega)
  refine ⟨h4, ?_, by simpa [List.append_assoc] using t4, ((a1.tr a2).tr a3).tr a4, fun j hj => by rw [c4 j hj, c3 j hj, c2 j hj, c1 j hj]⟩
  refine u1.trans (u2.trans (u3.trans (u4.trans ?_)))
  show R_put_L3_b _ v _ h4 = _
  unfold R_put_L3_b
  rw [if_pos (by rw [z0, ii_lt (by omega) (by omega) (by omega) (by omega)]; omega)]
