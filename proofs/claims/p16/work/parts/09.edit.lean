theorem tx_sel_t {post : Int32 → Prop} {o : Nat} (h : o = 6 ∨ o = 7) (p : post 1) : wpX_takesSelector post () (nI o) := by
  rcases h with rfl | rfl
  · exact br_t rfl p
  · exact br_f (by decide) (br_t rfl p)
theorem tx_sel_f {post : Int32 → Prop} {o : Nat} (h9 : o < 9) (h : ¬ (o = 6 ∨ o = 7)) (p : post 0) : wpX_takesSelector post () (nI o) := pk_eq o 6 (fun z => absurd (Or.inl z) h) (fun _ => pk_eq o 7 (fun z => absurd (Or.inr z) h) (fun _ => p))
theorem tx_num_t {post : Int32 → Prop} {o : Nat} (h : o = 1 ∨ o = 2 ∨ o = 3) (p : post 1) : wpX_takesNumber post () (nI o) := by
  rcases h with rfl | rfl | rfl
  · exact br_t rfl p
  · exact br_f (by decide) (br_t rfl p)
  · exact br_f (by decide) (br_f (by decide) (br_t rfl p))
theorem tx_num_f {post : Int32 → Prop} {o : Nat} (h9 : o < 9) (h : ¬ (o = 1 ∨ o = 2 ∨ o = 3)) (p : post 0) : wpX_takesNumber post () (nI o) := pk_eq o 1 (fun z => absurd (Or.inl z) h) (fun _ => pk_eq o 2 (fun z => absurd (Or.inr (Or.inl z)) h) (fun _ => pk_eq o 3 (fun z => absurd (Or.inr (Or.inr z)) h) (fun _ => p)))
/-- the operand fits, and k is what is kept -/
def tf_ft (nS o : Nat) (v k : Int32) : Prop := ((o = 6 ∨ o = 7) ∧ tf_in v nS ∧ k = v) ∨ ((o = 1 ∨ o = 2 ∨ o = 3) ∧ ¬ v < (-128) ∧ ¬ 127 < v ∧ k = v) ∨ ((o = 0 ∨ o = 4 ∨ o = 5 ∨ o = 8) ∧ k = 0)
def tf_nf (nS o : Nat) (v : Int32) : Prop := ((o = 6 ∨ o = 7) ∧ ¬ tf_in v nS) ∨ ((o = 1 ∨ o = 2 ∨ o = 3) ∧ (v < (-128) ∨ (¬ v < (-128) ∧ 127 < v)))
theorem tf_fit (nS : Nat) {o : Nat} (h : o < 9) (v : Int32) : (∃ k, tf_ft nS o v k) ∨ tf_nf nS o v := by
  by_cases a : o = 6 ∨ o = 7
  · by_cases b : tf_in v nS
    · exact Or.inl ⟨v, Or.inl ⟨a, b, rfl⟩⟩
    · exact Or.inr (Or.inl ⟨a, b⟩)
  · by_cases b : o = 1 ∨ o = 2 ∨ o = 3
    · by_cases c : v < (-128)
      · exact Or.inr (Or.inr ⟨b, Or.inl c⟩)
      · by_cases d : 127 < v
        · exact Or.inr (Or.inr ⟨b, Or.inr ⟨c, d⟩⟩)
        · exact Or.inl ⟨v, Or.inr (Or.inl ⟨b, c, d, rfl⟩)⟩
    · exact Or.inl ⟨0, Or.inr (Or.inr ⟨by omega, rfl⟩)⟩
theorem tx_fits_t {nC nT nS nD nB nK : Nat} {ls rr rc sp fc : Int32} {L op kk su own ow tr xe al fl fA fC fT fP fB fH : Nat → Int32} {post : Int32 → Prop} {o : Nat} {v k : Int32} (hS : nS ≤ 16) (h9 : o < 9) (h : tf_ft nS o v k) (p : post 1) : wpX_operandFits post (nI nC, nI nT, nI nS, nI nD, nI nB, nI nK, ls, rr, rc, sp, fc, L, op, kk, su, own, ow, tr, xe, al, fl, fA, fC, fT, fP, fB, fH) (nI o) v := by
  unfold wpX_operandFits
  rcases h with ⟨a, b, _⟩ | ⟨a, b, c, _⟩ | ⟨a, _⟩
  · exact tx_sel_t a (br_f (by decide) (tx_isSelector_t hS b ⟨rfl, p⟩))
  · exact tx_sel_f h9 (by omega) (br_t rfl (tx_num_t a (br_f (by decide) (br_f b (br_f c p)))))
  · exact tx_sel_f h9 (by omega) (br_t rfl (tx_num_f h9 (by omega) (br_t rfl p)))
theorem tx_fits_f {nC nT nS nD nB nK : Nat} {ls rr rc sp fc : Int32} {L op kk su own ow tr xe al fl fA fC fT fP fB fH : Nat → Int32} {post : Int32 → Prop} {o : Nat} {v : Int32} (hS : nS ≤ 16) (h9 : o < 9) (h : tf_nf nS o v) (p : post 0) : wpX_operandFits post (nI nC, nI nT, nI nS, nI nD, nI nB, nI nK, ls, rr, rc, sp, fc, L, op, kk, su, own, ow, tr, xe, al, fl, fA, fC, fT, fP, fB, fH) (nI o) v := by
  unfold wpX_operandFits
  rcases h with ⟨a, b⟩ | ⟨a, b | ⟨b, c⟩⟩
  · exact tx_sel_t a (br_f (by decide) (tx_isSelector_f hS b ⟨rfl, p⟩))
  · exact tx_sel_f h9 (by omega) (br_t rfl (tx_num_t a (br_f (by decide) (br_t b p))))
  · exact tx_sel_f h9 (by omega) (br_t rfl (tx_num_t a (br_f (by decide) (br_f b (br_t c p)))))
theorem tf_le8 {o : Nat} (h : o < 9) : nI o ≤ 8 := nI_le (b := 8) (by omega) (by omega)
theorem tf_gt8 {v : Int32} (h : nI 9 ≤ v) : ¬ v < 0 ∧ ¬ v ≤ 8 := by
  refine ⟨tf_ge0 (by omega) h, fun z => ?_⟩
  have h2 := Int32.le_trans h z
  exact absurd h2 (by decide)
/-- a call of emit, whatever is asked: nothing changes, or one cell is added -/
theorem tx_emit_0 {nC nT nS nD nK : Nat} {ls rr rc sp fc : Int32} {L op kk su own ow tr xe al fl fA fC fT fP fB fH : Nat → Int32} {post : Int32 → St2 → Prop} {v1 v2 : Int32} (p : post 0 (nI nC, nI nT, nI nS, nI nD, nI 0, nI nK, ls, rr, rc, sp, fc, L, op, kk, su, own, ow, tr, xe, al, fl, fA, fC, fT, fP, fB, fH)) : wpX_emit post (nI nC, nI nT, nI nS, nI nD, nI 0, nI nK, ls, rr, rc, sp, fc, L, op, kk, su, own, ow, tr, xe, al, fl, fA, fC, fT, fP, fB, fH) v1 v2 := br_t rfl p
theorem tx_emit_b {nC nT nS nD nK : Nat} {ls rr rc sp fc : Int32} {L op kk su own ow tr xe al fl fA fC fT fP fB fH : Nat → Int32} {b : Nat} {post : Int32 → St2 → Prop} {v1 v2 : Int32} (hb : b < 16) (h : ¬ tf_in v1 9) (p : post 0 (nI nC, nI nT, nI nS, nI nD, nI (b + 1), nI nK, ls, rr, rc, sp, fc, L, op, kk, su, own, ow, tr, xe, al, fl, fA, fC, fT, fP, fB, fH)) : wpX_emit post (nI nC, nI nT, nI nS, nI nD, nI (b + 1), nI nK, ls, rr, rc, sp, fc, L, op, kk, su, own, ow, tr, xe, al, fl, fA, fC, fT, fP, fB, fH) v1 v2 := by
  refine br_f (nI_ne0 (by omega) (by omega)) ?_
  rcases tf_nin (n := 9) (by omega) h with a | ⟨a, c, _⟩
  · exact br_t a p
  · exact br_f a (br_f (tf_gt8 c).2 p)
theorem tx_emit_16 {nC nT nS nD nK : Nat} {ls rr rc sp fc : Int32} {L op kk su own ow tr xe al fl fA fC fT fP fB fH : Nat → Int32} {b o : Nat} {post : Int32 → St2 → Prop} {v2 : Int32} (hb : b < 16) (h9 : o < 9) (hl : L b = nI 16) (p : post 0 (nI nC, nI nT, nI nS, nI nD, nI (b + 1), nI nK, ls, rr, rc, sp, fc, L, op, kk, su, own, ow, tr, xe, al, fl, fA, fC, fT, fP, fB, fH)) : wpX_emit post (nI nC, nI nT, nI nS, nI nD, nI (b + 1), nI nK, ls, rr, rc, sp, fc, L, op, kk, su, own, ow, tr, xe, al, fl, fA, fC, fT, fP, fB, fH) (nI o) v2 := by
  refine br_f (nI_ne0 (by omega) (by omega)) (br_f (nI_pos (by omega)) (br_t (tf_le8 h9) (nm_r (nI_pred b) ⟨vp_in_nI hb (by omega), ?_⟩)))
  rw [nI_clamp (show b < 2 ^ 31 by omega), hl]
  exact br_t rfl p
theorem tx_emit_n {nC nT nS nD nK : Nat} {ls rr rc sp fc : Int32} {L op kk su own ow tr xe al fl fA fC fT fP fB fH : Nat → Int32} {b o l : Nat} {post : Int32 → St2 → Prop} {v2 : Int32} (hS : nS ≤ 16) (hb : b < 16) (h9 : o < 9) (hl : L b = nI l) (l16 : l < 16) (h : tf_nf nS o v2) (p : post 0 (nI nC, nI nT, nI nS, nI nD, nI (b + 1), nI nK, ls, rr, rc, sp, fc, L, op, kk, su, own, ow, tr, xe, al, fl, fA, fC, fT, fP, fB, fH)) : wpX_emit post (nI nC, nI nT, nI nS, nI nD, nI (b + 1), nI nK, ls, rr, rc, sp, fc, L, op, kk, su, own, ow, tr, xe, al, fl, fA, fC, fT, fP, fB, fH) (nI o) v2 := by
  refine br_f (nI_ne0 (by omega) (by omega)) (br_f (nI_pos (by omega)) (br_t (tf_le8 h9) (nm_r (nI_pred b) ⟨vp_in_nI hb (by omega), ?_⟩)))
  rw [nI_clamp (show b < 2 ^ 31 by omega), hl]
  exact pk_eq l 16 (fun z => absurd z (by omega)) (fun _ => tx_fits_f hS h9 h (br_t rfl p))
theorem tx_emit_t {nC nT nS nD nK : Nat} {ls rr rc sp fc : Int32} {L op kk su own ow tr xe al fl fA fC fT fP fB fH : Nat → Int32} {b o l : Nat} {post : Int32 → St2 → Prop} {v2 k : Int32} (hS : nS ≤ 16) (hb : b < 16) (h9 : o < 9) (hl : L b = nI l) (l16 : l < 16) (h : tf_ft nS o v2 k) (p : post 1 (nI nC, nI nT, nI nS, nI nD, nI (b + 1), nI nK, ls, rr, rc, sp, fc, upd L b (nI (l + 1)), upd op (b * 16 + l) (nI o), upd kk (b * 16 + l) k, su, own, ow, tr, xe, al, fl, fA, fC, fT, fP, fB, fH)) : wpX_emit post (nI nC, nI nT, nI nS, nI nD, nI (b + 1), nI nK, ls, rr, rc, sp, fc, L, op, kk, su, own, ow, tr, xe, al, fl, fA, fC, fT, fP, fB, fH) (nI o) v2 := by
  refine br_f (nI_ne0 (by omega) (by omega)) (br_f (nI_pos (by omega)) (br_t (tf_le8 h9) (nm_r (nI_pred b) ⟨vp_in_nI hb (by omega), ?_⟩)))
  rw [nI_clamp (show b < 2 ^ 31 by omega), hl]
  have F : ∀ z0 : Int32, z0 = k → wX_emit_94 post (nI b) z0 (nI (b * 16 + l)) (nI nC) (nI nT) (nI nS) (nI nD) (nI (b + 1)) (nI nK) ls rr rc sp fc L (upd op (b * 16 + l) (nI o)) kk su own ow tr xe al fl fA fC fT fP fB fH := by
    intro z0 e
    unfold wX_emit_94
    rw [nI_clamp (show b * 16 + l < 2 ^ 31 by omega), nI_clamp (show b < 2 ^ 31 by omega), hl, nI_1, e]
    exact ⟨vp_in_nI (by omega) (by omega), nm_e ⟨vp_in_nI hb (by omega), vp_in_nI hb (by omega), nm_e p⟩⟩
  refine pk_eq l 16 (fun z => absurd z (by omega)) (fun _ => tx_fits_t hS h9 h (br_f (by decide) ⟨vp_in_nI hb (by omega), nm_r (tf_ix b l) ⟨vp_in_nI (by omega) (by omega), ?_⟩⟩))
  rw [nI_clamp (show b * 16 + l < 2 ^ 31 by omega)]
  refine nm_e ?_
  rcases h with ⟨a, _, e⟩ | ⟨a, _, _, e⟩ | ⟨a, e⟩
  · exact tx_sel_t a (br_f (by decide) (F v2 e.symm))
  · exact tx_sel_f h9 (by omega) (br_t rfl (tx_num_t a (br_f (by decide) (F v2 e.symm))))
  · exact tx_sel_f h9 (by omega) (br_t rfl (tx_num_f h9 (by omega) (br_t rfl (F 0 e.symm))))
