theorem tx_begin_t {nC nT nS nD nB nK : Nat} {ls rr rc sp fc : Int32} {L op kk su own ow tr xe al fl fA fC fT fP fB fH : Nat → Int32} {post : Int32 → St2 → Prop} (hB : nB < 16) (p : post (nI nB) (nI nC, nI nT, nI nS, nI nD, nI (nB + 1), nI nK, ls, rr, rc, sp, fc, L, op, kk, su, own, ow, tr, xe, al, fl, fA, fC, fT, fP, fB, fH)) : wpX_beginBody post (nI nC, nI nT, nI nS, nI nD, nI nB, nI nK, ls, rr, rc, sp, fc, L, op, kk, su, own, ow, tr, xe, al, fl, fA, fC, fT, fP, fB, fH) := by
  refine pk_eq nB 16 (fun z => absurd z (by omega)) (fun _ => nm_r (nI_1 nB) ?_)
  rw [nI_pred]
  exact p
theorem tx_begin_f {nC nT nS nD nB nK : Nat} {ls rr rc sp fc : Int32} {L op kk su own ow tr xe al fl fA fC fT fP fB fH : Nat → Int32} {post : Int32 → St2 → Prop} (hB : nB = 16) (p : post (-3) (nI nC, nI nT, nI nS, nI nD, nI nB, nI nK, ls, rr, rc, sp, fc, L, op, kk, su, own, ow, tr, xe, al, fl, fA, fC, fT, fP, fB, fH)) : wpX_beginBody post (nI nC, nI nT, nI nS, nI nD, nI nB, nI nK, ls, rr, rc, sp, fc, L, op, kk, su, own, ow, tr, xe, al, fl, fA, fC, fT, fP, fB, fH) := br_t (by rw [hB]; rfl) p
theorem tf_ft_k {nS o : Nat} {v k : Int32} (h : tf_ft nS o v k) : (o = 6 ∨ o = 7) → ∃ s, s < nS ∧ k = nI s := by
  intro ho
  rcases h with ⟨_, ⟨s, hs, e⟩, e2⟩ | ⟨a, _⟩ | ⟨a, _⟩
  · exact ⟨s, hs, e2.trans e⟩
  · omega
  · omega
/-- what setSuper takes beside a good first argument: nothing, or a lower number -/
theorem tf_sup (v : Int32) (c : Nat) (hc : c < 2 ^ 31) : (v = -1) ∨ (∃ d, d < c ∧ v = nI d) ∨ (¬ v = -1 ∧ ((v < (-1) ∧ v < 0) ∨ (¬ v < (-1) ∧ ¬ v < 0 ∧ ¬ v < nI c))) := by
  by_cases a : v = -1
  · exact Or.inl a
  · rcases pk_ix v hc with b | b | b
    · refine Or.inr (Or.inr ⟨a, Or.inl ⟨?_, b⟩⟩)
      rw [Int32.lt_iff_toInt_lt, show (0 : Int32).toInt = 0 from by decide] at b
      rw [Int32.lt_iff_toInt_lt, show (-1 : Int32).toInt = -1 from by decide]
      have h2 : v.toInt ≠ -1 := fun z => a (Int32.toInt_inj.mp (z.trans (show (-1 : Int) = (-1 : Int32).toInt from by decide)))
      omega
    · have b0 := tf_ge0 hc b
      refine Or.inr (Or.inr ⟨a, Or.inr ⟨fun z => b0 (Int32.lt_trans z (by decide)), b0, Int32.not_lt.mpr b⟩⟩)
    · exact Or.inr (Or.inl b)
theorem tx_sup_t {nC nT nS nD nB nK : Nat} {ls rr rc sp fc : Int32} {L op kk su own ow tr xe al fl fA fC fT fP fB fH : Nat → Int32} {post : Int32 → St2 → Prop} (hC : nC ≤ 8) {c : Nat} {x : Int32} (hc : c < nC) (hx : x = -1 ∨ ∃ d, d < c ∧ x = nI d) (p : post 1 (nI nC, nI nT, nI nS, nI nD, nI nB, nI nK, ls, rr, rc, sp, fc, L, op, kk, upd su c x, own, ow, tr, xe, al, fl, fA, fC, fT, fP, fB, fH)) : wpX_setSuper post (nI nC, nI nT, nI nS, nI nD, nI nB, nI nK, ls, rr, rc, sp, fc, L, op, kk, su, own, ow, tr, xe, al, fl, fA, fC, fT, fP, fB, fH) (nI c) x := by
  unfold wpX_setSuper
  have e : (nI c).toNatClampNeg = c := nI_clamp (by omega)
  have e2 : vp_in (nI c) 8 := vp_in_nI (by omega) (by omega)
  refine tx_isClass_t hC ⟨c, hc, rfl⟩ (br_f (by decide) ?_)
  rw [e]
  rcases hx with a | ⟨d, hd, a⟩
  · subst a
    exact br_f (by decide) (br_t (Int32.lt_of_lt_of_le (show (-1 : Int32) < 0 by decide) (nI_pos' (by omega))) ⟨e2, nm_e p⟩)
  · subst a
    exact br_f (fun z => nI_pos (n := d) (by omega) (Int32.lt_trans z (by decide))) (br_t (nI_lt hd (by omega)) ⟨e2, nm_e p⟩)
theorem tx_sup_f {nC nT nS nD nB nK : Nat} {ls rr rc sp fc : Int32} {L op kk su own ow tr xe al fl fA fC fT fP fB fH : Nat → Int32} {post : Int32 → St2 → Prop} (hC : nC ≤ 8) {v1 v2 : Int32} (h : ¬ tf_in v1 nC ∨ ∃ c, c < nC ∧ v1 = nI c ∧ ¬ v2 = -1 ∧ ((v2 < (-1) ∧ v2 < 0) ∨ (¬ v2 < (-1) ∧ ¬ v2 < 0 ∧ ¬ v2 < nI c))) (p : post 0 (nI nC, nI nT, nI nS, nI nD, nI nB, nI nK, ls, rr, rc, sp, fc, L, op, kk, su, own, ow, tr, xe, al, fl, fA, fC, fT, fP, fB, fH)) : wpX_setSuper post (nI nC, nI nT, nI nS, nI nD, nI nB, nI nK, ls, rr, rc, sp, fc, L, op, kk, su, own, ow, tr, xe, al, fl, fA, fC, fT, fP, fB, fH) v1 v2 := by
  unfold wpX_setSuper
  rcases h with a | ⟨c, hc, rfl, _, ⟨b, _⟩ | ⟨b, _, d⟩⟩
  · exact tx_isClass_f hC a (br_t rfl p)
  · exact tx_isClass_t hC ⟨c, hc, rfl⟩ (br_f (by decide) (br_t b p))
  · exact tx_isClass_t hC ⟨c, hc, rfl⟩ (br_f (by decide) (br_f b (br_f d p)))
theorem tx_sof_t {nC nT nS nD nB nK : Nat} {ls rr rc sp fc : Int32} {L op kk su own ow tr xe al fl fA fC fT fP fB fH : Nat → Int32} {post : Int32 → Prop} (hC : nC ≤ 8) {c : Nat} (hc : c < nC) (p : post (su c)) : wpX_superOf post (nI nC, nI nT, nI nS, nI nD, nI nB, nI nK, ls, rr, rc, sp, fc, L, op, kk, su, own, ow, tr, xe, al, fl, fA, fC, fT, fP, fB, fH) (nI c) := by
  unfold wpX_superOf
  refine tx_isClass_t hC ⟨c, hc, rfl⟩ (br_f (by decide) ⟨vp_in_nI (by omega) (by omega), ?_⟩)
  rw [nI_clamp (show c < 2 ^ 31 by omega)]
  exact p
