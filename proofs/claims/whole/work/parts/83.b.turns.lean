/-! the law's turns as mathematics (printed by wip/gen/turns.py) -/
/-- a call of the class and the same of the reference, over one world -/
def Two (Γ : AG) (μ1 μ2 : AM) (as : List AV) (B : Nat) (h : AH) : Prop := ∃ x h1 h2 S', MetA Γ μ1 (vr 0 0 0 :: as) h (some (vi x)) h1 ∧ MetA Γ μ2 (vr 12 0 80 :: as) h1 (some (vi x)) h2 ∧ VS S' ∧ CRep S' (B + 64) h2 ∧ RRep S' h2
section TW
variable {Γ : AG} {S : ST} {B : Nat} {h : AH}
theorem t_feed (V : VS S) (C : CRep S B h) (R : RRep S h) (hB : B < 900000) (a1 : Int32) (a2 : Int32) (a3 : Int32) (a4 : Int32) (a5 : Int32) : Two Γ m_HF_feed m_R_feed [vi a1, vi a2, vi a3, vi a4, vi a5] B h := by
  have K := fun g (Rg : RRep S g) => k_feed V C Rg a1 a2 a3 a4 a5
  obtain ⟨x, h1, h2, S', e1, e2, v, c, r⟩ := both V R K
  exact ⟨x, h1, h2, S', s_HF_feed Γ a1 a2 a3 a4 a5 h (x, h1) e1, s_R_feed Γ a1 a2 a3 a4 a5 h1 (x, h2) e2, v, c, r⟩
theorem t_end (V : VS S) (C : CRep S B h) (R : RRep S h) (hB : B < 900000) (a1 : Int32) : Two Γ m_HF_end m_R_end [vi a1] B h := by
  have K := fun g (Rg : RRep S g) => k_end V C Rg (vI_lo a1).1 (vI_lo a1).2
  simp only [← vI_ii] at K
  obtain ⟨x, h1, h2, S', e1, e2, v, c, r⟩ := both V R K
  exact ⟨x, h1, h2, S', s_HF_end Γ a1 h (x, h1) e1, s_R_end Γ a1 h1 (x, h2) e2, v, c, r⟩
theorem t_fault (V : VS S) (C : CRep S B h) (R : RRep S h) (hB : B < 900000) (a1 : Int32) : Two Γ m_HF_fault m_R_fault [vi a1] B h := by
  have K := fun g (Rg : RRep S g) => k_fault V C Rg (vI_lo a1).1 (vI_lo a1).2
  simp only [← vI_ii] at K
  obtain ⟨x, h1, h2, S', e1, e2, v, c, r⟩ := both V R K
  exact ⟨x, h1, h2, S', s_HF_fault Γ a1 h (x, h1) e1, s_R_fault Γ a1 h1 (x, h2) e2, v, c, r⟩
theorem t_text (V : VS S) (C : CRep S B h) (R : RRep S h) (hB : B < 900000) (a1 : Int32) : Two Γ m_HF_text m_R_text [vi a1] B h := by
  have K := fun g (Rg : RRep S g) => k_text V C Rg (vI_lo a1).1 (vI_lo a1).2
  simp only [← vI_ii] at K
  obtain ⟨x, h1, h2, S', e1, e2, v, c, r⟩ := both V R K
  exact ⟨x, h1, h2, S', s_HF_text Γ a1 h (x, h1) e1, s_R_text Γ a1 h1 (x, h2) e2, v, c, r⟩
theorem t_rule (V : VS S) (C : CRep S B h) (R : RRep S h) (hB : B < 900000) (a1 : Int32) : Two Γ m_HF_rule m_R_rule [vi a1] B h := by
  have K := fun g (Rg : RRep S g) => k_rule V C Rg (vI_lo a1).1 (vI_lo a1).2
  simp only [← vI_ii] at K
  obtain ⟨x, h1, h2, S', e1, e2, v, c, r⟩ := both V R K
  cases e1
  exact ⟨_, _, h2, S', s_HF_rule Γ a1 h, s_R_rule Γ a1 _ (_, h2) e2, v, c, r⟩
theorem t_cell (V : VS S) (C : CRep S B h) (R : RRep S h) (hB : B < 900000) (a1 : Int32) (a2 : Int32) : Two Γ m_HF_cell m_R_cell [vi a1, vi a2] B h := by
  have K := fun g (Rg : RRep S g) => k_cell V C Rg (vI_lo a1).1 (vI_lo a1).2 (vI_lo a2).1 (vI_lo a2).2
  simp only [← vI_ii] at K
  obtain ⟨x, h1, h2, S', e1, e2, v, c, r⟩ := both V R K
  obtain ⟨q, hq, hr⟩ := bd e1
  cases hr
  exact ⟨_, _, h2, S', s_HF_cell Γ a1 a2 h _ hq, s_R_cell Γ a1 a2 _ (_, h2) e2, v, c, r⟩
theorem t_law (V : VS S) (C : CRep S B h) (R : RRep S h) (hB : B < 900000) (a1 : Int32) : Two Γ m_HF_law m_R_law [vi a1] B h := by
  have K := fun g (Rg : RRep S g) => k_law V C Rg (vI_lo a1).1 (vI_lo a1).2
  simp only [← vI_ii] at K
  obtain ⟨x, h1, h2, S', e1, e2, v, c, r⟩ := both V R K
  exact ⟨x, h1, h2, S', s_HF_law Γ a1 h (x, h1) e1, s_R_law Γ a1 h1 (x, h2) e2, v, c, r⟩
theorem t_twitch (V : VS S) (C : CRep S B h) (R : RRep S h) (hB : B < 900000) (a1 : Int32) (a2 : Int32) : Two Γ m_HF_twitch m_R_twitch [vi a1, vi a2] B h := by
  have K := fun g (Rg : RRep S g) => k_twitch V C Rg (vI_lo a1).1 (vI_lo a1).2 (vI_lo a2).1 (vI_lo a2).2
  simp only [← vI_ii] at K
  obtain ⟨x, h1, h2, S', e1, e2, v, c, r⟩ := both V R K
  exact ⟨x, h1, h2, S', s_HF_twitch Γ a1 a2 h (x, h1) e1, s_R_twitch Γ a1 a2 h1 (x, h2) e2, v, c, r⟩
theorem t_go (V : VS S) (C : CRep S B h) (R : RRep S h) (hB : B < 900000) (a1 : Int32) (a2 : Int32) : Two Γ m_HF_go m_R_go [vi a1, vi a2] B h := by
  have K := fun g (Rg : RRep S g) => k_go V C Rg hB (vI_lo a1).1 (vI_lo a1).2 (vI_lo a2).1 (vI_lo a2).2
  simp only [← vI_ii] at K
  obtain ⟨x, h1, h2, S', e1, e2, v, c, r⟩ := both V R K
  exact ⟨x, h1, h2, S', s_HF_go Γ a1 a2 h (x, h1) e1, s_R_go Γ a1 a2 h1 (x, h2) e2, v, c, r⟩
theorem t_sink (V : VS S) (C : CRep S B h) (R : RRep S h) (hB : B < 900000) (a1 : Int32) : Two Γ m_HF_sink m_R_sink [vi a1] B h := by
  have K := fun g (Rg : RRep S g) => k_sink V C Rg (vI_lo a1).1 (vI_lo a1).2
  simp only [← vI_ii] at K
  obtain ⟨x, h1, h2, S', e1, e2, v, c, r⟩ := both V R K
  exact ⟨x, h1, h2, S', s_HF_sink Γ a1 h (x, h1) e1, s_R_sink Γ a1 h1 (x, h2) e2, v, c, r⟩
theorem t_season (V : VS S) (C : CRep S B h) (R : RRep S h) (hB : B < 900000)  : Two Γ m_HF_season m_R_season [] B h := by
  have K := fun g (Rg : RRep S g) => k_season V C Rg 
  obtain ⟨x, h1, h2, S', e1, e2, v, c, r⟩ := both V R K
  exact ⟨x, h1, h2, S', s_HF_season Γ  h (x, h1) e1, s_R_season Γ  h1 (x, h2) e2, v, c, r⟩
theorem t_stroll (V : VS S) (C : CRep S B h) (R : RRep S h) (hB : B < 900000) (a1 : Int32) (a2 : Int64) : Two Γ m_HF_stroll m_R_stroll [vi a1, vl a2] B h := by
  have K := fun g (Rg : RRep S g) => k_stroll V C Rg hB (vI_lo a1).1 (vI_lo a1).2 a2
  simp only [← vI_ii] at K
  obtain ⟨x, h1, h2, S', e1, e2, v, c, r⟩ := both V R K
  exact ⟨x, h1, h2, S', s_HF_stroll Γ a1 a2 h (x, h1) e1, s_R_stroll Γ a1 a2 h1 (x, h2) e2, v, c, r⟩
theorem t_undo (V : VS S) (C : CRep S B h) (R : RRep S h) (hB : B < 900000)  : Two Γ m_HF_undo m_R_undo [] B h := by
  have K := fun g (Rg : RRep S g) => k_undo V C Rg 
  obtain ⟨x, h1, h2, S', e1, e2, v, c, r⟩ := both V R K
  exact ⟨x, h1, h2, S', s_HF_undo Γ  h (x, h1) e1, s_R_undo Γ  h1 (x, h2) e2, v, c, r⟩
theorem t_book (V : VS S) (C : CRep S B h) (R : RRep S h) (hB : B < 900000) (a1 : Int32) (a2 : Int32) : Two Γ m_HF_book m_R_book [vi a1, vi a2] B h := by
  have K := fun g (Rg : RRep S g) => k_book V C Rg (vI_lo a1).1 (vI_lo a1).2 (vI_lo a2).1 (vI_lo a2).2
  simp only [← vI_ii] at K
  obtain ⟨x, h1, h2, S', e1, e2, v, c, r⟩ := both V R K
  obtain ⟨q, hq, hr⟩ := bd e1
  cases hr
  exact ⟨_, _, h2, S', s_HF_book Γ a1 a2 h _ hq, s_R_book Γ a1 a2 _ (_, h2) e2, v, c, r⟩
theorem t_step (V : VS S) (C : CRep S B h) (R : RRep S h) (hB : B < 900000) (a1 : Int32) (a2 : Int32) (a3 : Int32) : Two Γ m_HF_step m_R_step [vi a1, vi a2, vi a3] B h := by
  have K := fun g (Rg : RRep S g) => k_step V C Rg (vI_lo a1).1 (vI_lo a1).2 (vI_lo a2).1 (vI_lo a2).2 (vI_lo a3).1 (vI_lo a3).2
  simp only [← vI_ii] at K
  obtain ⟨x, h1, h2, S', e1, e2, v, c, r⟩ := both V R K
  obtain ⟨q, hq, hr⟩ := bd e1
  cases hr
  exact ⟨_, _, h2, S', s_HF_step Γ a1 a2 a3 h _ hq, s_R_step Γ a1 a2 a3 _ (_, h2) e2, v, c, r⟩
theorem t_run (V : VS S) (C : CRep S B h) (R : RRep S h) (hB : B < 900000) (a1 : Int32) (a2 : Int32) : Two Γ m_HF_run m_R_run [vi a1, vi a2] B h := by
  have K := fun g (Rg : RRep S g) => k_run V C Rg (vI_lo a1).1 (vI_lo a1).2 (vI_lo a2).1 (vI_lo a2).2
  simp only [← vI_ii] at K
  obtain ⟨x, h1, h2, S', e1, e2, v, c, r⟩ := both V R K
  exact ⟨x, h1, h2, S', s_HF_run Γ a1 a2 h (x, h1) e1, s_R_run Γ a1 a2 h1 (x, h2) e2, v, c, r⟩
theorem t_perform (V : VS S) (C : CRep S B h) (R : RRep S h) (hB : B < 900000) (a1 : Int32) : Two Γ m_HF_perform m_R_perform [vi a1] B h := by
  have K := fun g (Rg : RRep S g) => k_perform V C Rg hB (vI_lo a1).1 (vI_lo a1).2
  simp only [← vI_ii] at K
  obtain ⟨x, h1, h2, S', e1, e2, v, c, r⟩ := both V R K
  exact ⟨x, h1, h2, S', s_HF_perform Γ a1 h (x, h1) e1, s_R_perform Γ a1 h1 (x, h2) e2, v, c, r⟩
theorem t_brings (V : VS S) (C : CRep S B h) (R : RRep S h) (hB : B < 900000) (a1 : Int32) (a2 : Int32) : Two Γ m_HF_brings m_R_brings [vi a1, vi a2] B h := by
  have K := fun g (Rg : RRep S g) => k_brings V C Rg (vI_lo a1).1 (vI_lo a1).2 (vI_lo a2).1 (vI_lo a2).2
  simp only [← vI_ii] at K
  obtain ⟨x, h1, h2, S', e1, e2, v, c, r⟩ := both V R K
  obtain ⟨q, hq, hr⟩ := bd e1
  cases hr
  exact ⟨_, _, h2, S', s_HF_brings Γ a1 a2 h _ hq, s_R_brings Γ a1 a2 _ (_, h2) e2, v, c, r⟩
theorem t_cheapest (V : VS S) (C : CRep S B h) (R : RRep S h) (hB : B < 900000) (a1 : Int32) (a2 : Int32) : Two Γ m_HF_cheapest m_R_cheapest [vi a1, vi a2] B h := by
  have K := fun g (Rg : RRep S g) => k_cheapest V C Rg (vI_lo a1).1 (vI_lo a1).2 (vI_lo a2).1 (vI_lo a2).2
  simp only [← vI_ii] at K
  obtain ⟨x, h1, h2, S', e1, e2, v, c, r⟩ := both V R K
  exact ⟨x, h1, h2, S', s_HF_cheapest Γ a1 a2 h (x, h1) e1, s_R_cheapest Γ a1 a2 h1 (x, h2) e2, v, c, r⟩
theorem t_reach (V : VS S) (C : CRep S B h) (R : RRep S h) (hB : B < 900000) (a1 : Int32) (a2 : Int32) : Two Γ m_HF_reach m_R_reach [vi a1, vi a2] B h := by
  have K := fun g (Rg : RRep S g) => k_reach V C Rg (vI_lo a1).1 (vI_lo a1).2 (vI_lo a2).1 (vI_lo a2).2
  simp only [← vI_ii] at K
  obtain ⟨x, h1, h2, S', e1, e2, v, c, r⟩ := both V R K
  obtain ⟨q, hq, hr⟩ := bd e1
  cases hr
  exact ⟨_, _, h2, S', s_HF_reach Γ a1 a2 h _ hq, s_R_reach Γ a1 a2 _ (_, h2) e2, v, c, r⟩
theorem t_stuck (V : VS S) (C : CRep S B h) (R : RRep S h) (hB : B < 900000)  : Two Γ m_HF_stuck m_R_stuck [] B h := by
  have K := fun g (Rg : RRep S g) => k_stuck V C Rg 
  obtain ⟨x, h1, h2, S', e1, e2, v, c, r⟩ := both V R K
  obtain ⟨q, hq, hr⟩ := bd e1
  cases hr
  exact ⟨_, _, h2, S', s_HF_stuck Γ  h _ hq, s_R_stuck Γ  _ (_, h2) e2, v, c, r⟩
theorem t_trail (V : VS S) (C : CRep S B h) (R : RRep S h) (hB : B < 900000) (a1 : Int32) (a2 : Int32) : Two Γ m_HF_trail m_R_trail [vi a1, vi a2] B h := by
  have K := fun g (Rg : RRep S g) => k_trail V C Rg (vI_lo a1).1 (vI_lo a1).2 (vI_lo a2).1 (vI_lo a2).2
  simp only [← vI_ii] at K
  obtain ⟨x, h1, h2, S', e1, e2, v, c, r⟩ := both V R K
  obtain ⟨q, hq, hr⟩ := bd e1
  cases hr
  exact ⟨_, _, h2, S', s_HF_trail Γ a1 a2 h _ hq, s_R_trail Γ a1 a2 _ (_, h2) e2, v, c, r⟩
theorem t_hear (V : VS S) (C : CRep S B h) (R : RRep S h) (hB : B < 900000) (a1 a2 : Int32) (b : Bool) : Two Γ m_HF_hear m_R_hear [vi a1, vi a2, vi (bI b)] B h := by
  have K := fun g (Rg : RRep S g) => k_hear V C Rg (vI_lo a1).1 (vI_lo a1).2 (vI_lo a2).1 (vI_lo a2).2 b
  simp only [← vI_ii] at K
  obtain ⟨x, h1, h2, S', e1, e2, v, c, r⟩ := both V R K
  exact ⟨x, h1, h2, S', s_HF_hear Γ a1 a2 (bI b) h (x, h1) e1, s_R_hear Γ a1 a2 (bI b) h1 (x, h2) e2, v, c, r⟩
theorem t_fits (V : VS S) (C : CRep S B h) (R : RRep S h) (hB : B < 900000) (a1 : Int32) (a2 : Int32) : Two Γ m_HF_fits m_R_fits [vi a1, vi a2] B h := by
  have K := fun g (Rg : RRep S g) => k_fits V C Rg (vI_lo a1).1 (vI_lo a1).2 (vI_lo a2).1 (vI_lo a2).2
  simp only [← vI_ii] at K
  obtain ⟨x, h1, h2, S', e1, e2, v, c, r⟩ := both V R K
  exact ⟨x, h1, h2, S', s_HF_fits Γ a1 a2 h (x, h1) e1, s_R_fits Γ a1 a2 h1 (x, h2) e2, v, c, r⟩
theorem t_sure (V : VS S) (C : CRep S B h) (R : RRep S h) (hB : B < 900000) (a1 : Int32) : Two Γ m_HF_sure m_R_sure [vi a1] B h := by
  have K := fun g (Rg : RRep S g) => k_sure V C Rg (vI_lo a1).1 (vI_lo a1).2
  simp only [← vI_ii] at K
  obtain ⟨x, h1, h2, S', e1, e2, v, c, r⟩ := both V R K
  exact ⟨x, h1, h2, S', s_HF_sure Γ a1 h (x, h1) e1, s_R_sure Γ a1 h1 (x, h2) e2, v, c, r⟩
theorem t_ask (V : VS S) (C : CRep S B h) (R : RRep S h) (hB : B < 900000) (a1 : Int32) : Two Γ m_HF_ask m_R_ask [vi a1] B h := by
  have K := fun g (Rg : RRep S g) => k_ask V C Rg (vI_lo a1).1 (vI_lo a1).2
  simp only [← vI_ii] at K
  obtain ⟨x, h1, h2, S', e1, e2, v, c, r⟩ := both V R K
  exact ⟨x, h1, h2, S', s_HF_ask Γ a1 h (x, h1) e1, s_R_ask Γ a1 h1 (x, h2) e2, v, c, r⟩
theorem t_wrong (V : VS S) (C : CRep S B h) (R : RRep S h) (hB : B < 900000) (a1 : Int32) : Two Γ m_HF_wrong m_R_wrong [vi a1] B h := by
  have K := fun g (Rg : RRep S g) => k_wrong V C Rg (vI_lo a1).1 (vI_lo a1).2
  simp only [← vI_ii] at K
  obtain ⟨x, h1, h2, S', e1, e2, v, c, r⟩ := both V R K
  exact ⟨x, h1, h2, S', s_HF_wrong Γ a1 h (x, h1) e1, s_R_wrong Γ a1 h1 (x, h2) e2, v, c, r⟩
theorem t_chance (V : VS S) (C : CRep S B h) (R : RRep S h) (hB : B < 900000) (a1 : Int32) : Two Γ m_HF_chance m_R_chance [vi a1] B h := by
  have K := fun g (Rg : RRep S g) => k_chance V C Rg (vI_lo a1).1 (vI_lo a1).2
  simp only [← vI_ii] at K
  obtain ⟨x, h1, h2, S', e1, e2, v, c, r⟩ := both V R K
  obtain ⟨q, hq, hr⟩ := bd e1
  cases hr
  exact ⟨_, _, h2, S', s_HF_chance Γ a1 h _ hq, s_R_chance Γ a1 _ (_, h2) e2, v, c, r⟩
theorem t_wishers (V : VS S) (C : CRep S B h) (R : RRep S h) (hB : B < 900000) (a1 : Int32) : Two Γ m_HF_wishers m_R_wishers [vi a1] B h := by
  have K := fun g (Rg : RRep S g) => k_wishers V C Rg (vI_lo a1).1 (vI_lo a1).2
  simp only [← vI_ii] at K
  obtain ⟨x, h1, h2, S', e1, e2, v, c, r⟩ := both V R K
  exact ⟨x, h1, h2, S', s_HF_wishers Γ a1 h (x, h1) e1, s_R_wishers Γ a1 h1 (x, h2) e2, v, c, r⟩
theorem t_right (V : VS S) (C : CRep S B h) (R : RRep S h) (hB : B < 900000) (a1 : Int32) : Two Γ m_HF_right m_R_right [vi a1] B h := by
  have K := fun g (Rg : RRep S g) => k_right V C Rg (vI_lo a1).1 (vI_lo a1).2
  simp only [← vI_ii] at K
  obtain ⟨x, h1, h2, S', e1, e2, v, c, r⟩ := both V R K
  obtain ⟨q, hq, hr⟩ := bd e1
  cases hr
  exact ⟨_, _, h2, S', s_HF_right Γ a1 h _ hq, s_R_right Γ a1 _ (_, h2) e2, v, c, r⟩
theorem t_best (V : VS S) (C : CRep S B h) (R : RRep S h) (hB : B < 900000)  : Two Γ m_HF_best m_R_best [] B h := by
  have K := fun g (Rg : RRep S g) => k_best V C Rg 
  obtain ⟨x, h1, h2, S', e1, e2, v, c, r⟩ := both V R K
  obtain ⟨q, hq, hr⟩ := bd e1
  cases hr
  exact ⟨_, _, h2, S', s_HF_best Γ  h _ hq, s_R_best Γ  _ (_, h2) e2, v, c, r⟩
theorem t_nearest (V : VS S) (C : CRep S B h) (R : RRep S h) (hB : B < 900000) (a1 : Int32) : Two Γ m_HF_nearest m_R_nearest [vi a1] B h := by
  have K := fun g (Rg : RRep S g) => k_nearest V C Rg (vI_lo a1).1 (vI_lo a1).2
  simp only [← vI_ii] at K
  obtain ⟨x, h1, h2, S', e1, e2, v, c, r⟩ := both V R K
  obtain ⟨q, hq, hr⟩ := bd e1
  cases hr
  exact ⟨_, _, h2, S', s_HF_nearest Γ a1 h _ hq, s_R_nearest Γ a1 _ (_, h2) e2, v, c, r⟩
theorem t_meets (V : VS S) (C : CRep S B h) (R : RRep S h) (hB : B < 900000)  : Two Γ m_HF_meets m_R_meets [] B h := by
  have K := fun g (Rg : RRep S g) => k_meets V C Rg 
  obtain ⟨x, h1, h2, S', e1, e2, v, c, r⟩ := both V R K
  cases e1
  exact ⟨_, _, h2, S', s_HF_meets Γ  h, s_R_meets Γ  _ (_, h2) e2, v, c, r⟩
theorem t_shallow (V : VS S) (C : CRep S B h) (R : RRep S h) (hB : B < 900000)  : Two Γ m_HF_shallow m_R_shallow [] B h := by
  have K := fun g (Rg : RRep S g) => k_shallow V C Rg 
  obtain ⟨x, h1, h2, S', e1, e2, v, c, r⟩ := both V R K
  obtain ⟨q, hq, hr⟩ := bd e1
  cases hr
  exact ⟨_, _, h2, S', s_HF_shallow Γ  h _ hq, s_R_shallow Γ  _ (_, h2) e2, v, c, r⟩
theorem t_heap (V : VS S) (C : CRep S B h) (R : RRep S h) (hB : B < 900000)  : Two Γ m_HF_heap m_R_heap [] B h := by
  have K := fun g (Rg : RRep S g) => k_heap V C Rg 
  obtain ⟨x, h1, h2, S', e1, e2, v, c, r⟩ := both V R K
  obtain ⟨q, hq, hr⟩ := bd e1
  cases hr
  exact ⟨_, _, h2, S', s_HF_heap Γ  h _ hq, s_R_heap Γ  _ (_, h2) e2, v, c, r⟩
theorem t_costs (V : VS S) (C : CRep S B h) (R : RRep S h) (hB : B < 900000) (a1 : Int32) : Two Γ m_HF_costs m_R_costs [vi a1] B h := by
  have K := fun g (Rg : RRep S g) => k_costs V C Rg (vI_lo a1).1 (vI_lo a1).2
  simp only [← vI_ii] at K
  obtain ⟨x, h1, h2, S', e1, e2, v, c, r⟩ := both V R K
  obtain ⟨q, hq, hr⟩ := bd e1
  cases hr
  exact ⟨_, _, h2, S', s_HF_costs Γ a1 h _ hq, s_R_costs Γ a1 _ (_, h2) e2, v, c, r⟩
theorem t_loses (V : VS S) (C : CRep S B h) (R : RRep S h) (hB : B < 900000) (a1 : Int32) : Two Γ m_HF_loses m_R_loses [vi a1] B h := by
  have K := fun g (Rg : RRep S g) => k_loses V C Rg (vI_lo a1).1 (vI_lo a1).2
  simp only [← vI_ii] at K
  obtain ⟨x, h1, h2, S', e1, e2, v, c, r⟩ := both V R K
  obtain ⟨q, hq, hr⟩ := bd e1
  cases hr
  exact ⟨_, _, h2, S', s_HF_loses Γ a1 h _ hq, s_R_loses Γ a1 _ (_, h2) e2, v, c, r⟩
theorem t_richest (V : VS S) (C : CRep S B h) (R : RRep S h) (hB : B < 900000)  : Two Γ m_HF_richest m_R_richest [] B h := by
  have K := fun g (Rg : RRep S g) => k_richest V C Rg 
  obtain ⟨x, h1, h2, S', e1, e2, v, c, r⟩ := both V R K
  obtain ⟨q, hq, hr⟩ := bd e1
  cases hr
  exact ⟨_, _, h2, S', s_HF_richest Γ  h _ hq, s_R_richest Γ  _ (_, h2) e2, v, c, r⟩
theorem t_driest (V : VS S) (C : CRep S B h) (R : RRep S h) (hB : B < 900000)  : Two Γ m_HF_driest m_R_driest [] B h := by
  have K := fun g (Rg : RRep S g) => k_driest V C Rg 
  obtain ⟨x, h1, h2, S', e1, e2, v, c, r⟩ := both V R K
  obtain ⟨q, hq, hr⟩ := bd e1
  cases hr
  exact ⟨_, _, h2, S', s_HF_driest Γ  h _ hq, s_R_driest Γ  _ (_, h2) e2, v, c, r⟩
theorem t_image (V : VS S) (C : CRep S B h) (R : RRep S h) (hB : B < 900000)  : Two Γ m_HF_image m_R_image [] B h := by
  have K := fun g (Rg : RRep S g) => k_image V C Rg 
  obtain ⟨x, h1, h2, S', e1, e2, v, c, r⟩ := both V R K
  exact ⟨x, h1, h2, S', s_HF_image Γ  h (x, h1) e1, s_R_image Γ  h1 (x, h2) e2, v, c, r⟩
theorem t_back (V : VS S) (C : CRep S B h) (R : RRep S h) (hB : B < 900000)  : Two Γ m_HF_back m_R_back [] B h := by
  have K := fun g (Rg : RRep S g) => k_back V C Rg 
  obtain ⟨x, h1, h2, S', e1, e2, v, c, r⟩ := both V R K
  exact ⟨x, h1, h2, S', s_HF_back Γ  h (x, h1) e1, s_R_back Γ  h1 (x, h2) e2, v, c, r⟩
theorem t_count (V : VS S) (C : CRep S B h) (R : RRep S h) (hB : B < 900000) (a1 : Int32) : Two Γ m_HF_count m_R_count [vi a1] B h := by
  have K := fun g (Rg : RRep S g) => k_count V C Rg (vI_lo a1).1 (vI_lo a1).2
  simp only [← vI_ii] at K
  obtain ⟨x, h1, h2, S', e1, e2, v, c, r⟩ := both V R K
  obtain ⟨q, hq, hr⟩ := bd e1
  cases hr
  exact ⟨_, _, h2, S', s_HF_count Γ a1 h _ hq, s_R_count Γ a1 _ (_, h2) e2, v, c, r⟩
end TW
