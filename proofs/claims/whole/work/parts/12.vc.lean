/-! the owed statements, but for run -/
theorem tx_begin_t {nC nT nS nD nB nK : Nat} {ls rr rc sp fc : Int32} {L op kk su own ow tr xe al fl fA fC fT fP fB fH : Nat → Int32} {post : Int32 → SX → Prop} (hB : nB < 16) (p : post (nI nB) (nI nC, nI nT, nI nS, nI nD, nI (nB + 1), nI nK, ls, rr, rc, sp, fc, L, op, kk, su, own, ow, tr, xe, al, fl, fA, fC, fT, fP, fB, fH)) : wpX_beginBody post (nI nC, nI nT, nI nS, nI nD, nI nB, nI nK, ls, rr, rc, sp, fc, L, op, kk, su, own, ow, tr, xe, al, fl, fA, fC, fT, fP, fB, fH) := by
  refine pk_eq nB 16 (fun z => absurd z (by omega)) (fun _ => nm_r (nI_1 nB) ?_)
  rw [nI_pred]
  exact p
theorem tx_begin_f {nC nT nS nD nB nK : Nat} {ls rr rc sp fc : Int32} {L op kk su own ow tr xe al fl fA fC fT fP fB fH : Nat → Int32} {post : Int32 → SX → Prop} (hB : nB = 16) (p : post (-3) (nI nC, nI nT, nI nS, nI nD, nI nB, nI nK, ls, rr, rc, sp, fc, L, op, kk, su, own, ow, tr, xe, al, fl, fA, fC, fT, fP, fB, fH)) : wpX_beginBody post (nI nC, nI nT, nI nS, nI nD, nI nB, nI nK, ls, rr, rc, sp, fc, L, op, kk, su, own, ow, tr, xe, al, fl, fA, fC, fT, fP, fB, fH) := br_t (by rw [hB]; rfl) p
theorem ty_begin_t {nC nT nS nD nB nK : Nat} {dp rs st : Int32} {op kk L su own ow tr ex al tp fB fH fA fC fT fP : Nat → Int32} {post : Int32 → SY → Prop} (hB : nB < 16) (h0 : L nB = 0) (p : post (nI nB) (nI nC, nI nT, nI nS, nI nD, nI (nB + 1), nI nK, dp, rs, st, op, kk, L, su, own, ow, tr, ex, al, tp, fB, fH, fA, fC, fT, fP)) : wpY_beginBody post (nI nC, nI nT, nI nS, nI nD, nI nB, nI nK, dp, rs, st, op, kk, L, su, own, ow, tr, ex, al, tp, fB, fH, fA, fC, fT, fP) := by
  refine br_t (nI_lt (b := 16) hB (by omega)) ⟨vp_in_nI hB (by omega), nm_r (e' := L) (by rw [nI_clamp (by omega)]; exact tf_uid h0) (nm_r (nI_1 nB) ?_)⟩
  rw [nI_pred]
  exact p
theorem ty_begin_f {nC nT nS nD nB nK : Nat} {dp rs st : Int32} {op kk L su own ow tr ex al tp fB fH fA fC fT fP : Nat → Int32} {post : Int32 → SY → Prop} (hB : nB = 16) (p : post (-3) (nI nC, nI nT, nI nS, nI nD, nI nB, nI nK, dp, rs, st, op, kk, L, su, own, ow, tr, ex, al, tp, fB, fH, fA, fC, fT, fP)) : wpY_beginBody post (nI nC, nI nT, nI nS, nI nD, nI nB, nI nK, dp, rs, st, op, kk, L, su, own, ow, tr, ex, al, tp, fB, fH, fA, fC, fT, fP) := br_f (by rw [hB]; decide) p
theorem i_vc_beginBody {k : Nat} {u : SX} {v : SY} (I : i_Rel k u v) (hk : k + 4 ≤ 2052) : wpX_beginBody (fun r u' => wpY_beginBody (fun r' v' => r' = r ∧ i_Rel (k + 4) u' v') v) u := by
  obtain ⟨nC, nT, nS, nD, nB, nK, ls, rr, rc, sp, fc, dp, rs, L, op, kk, su, own, ow, tr, xe, ex, al, fl, tp, fA, fC, fT, fP, fB, fH, rfl, rfl, h⟩ := I
  obtain ⟨⟨hC, hT, hS, hD, hB, hK⟩, hL, hCE, hU, hO, hV, hA, hE, hF⟩ := id h
  by_cases c : nB = 16
  · exact tx_begin_f c (ty_begin_f c ⟨rfl, tf_mk h⟩)
  · exact tx_begin_t (by omega) (ty_begin_t (by omega) (hL.2 nB (Nat.le_refl _) (by omega)) ⟨rfl, tf_mk ⟨⟨hC, hT, hS, hD, by omega, hK⟩, tf_LV_begin hL, tf_CE_begin (by omega) hL hCE, hU, tf_OV_mono hO, hV, hA, hE, hF⟩⟩)
theorem tf_ft_k {nS o : Nat} {v k : Int32} (h : tf_ft nS o v k) : (o = 6 ∨ o = 7) → ∃ s, s < nS ∧ k = nI s := by
  intro ho
  rcases h with ⟨_, ⟨s, hs, e⟩, e2⟩ | ⟨a, _⟩ | ⟨a, _⟩
  · exact ⟨s, hs, e2.trans e⟩
  · omega
  · omega
theorem i_vc_emit {k : Nat} {u : SX} {v : SY} (I : i_Rel k u v) (hk : k + 4 ≤ 2052) (v1 : Int32) (v2 : Int32) : wpX_emit (fun r u' => wpY_emit (fun r' v' => r' = r ∧ i_Rel (k + 4) u' v') v v1 v2) u v1 v2 := by
  obtain ⟨nC, nT, nS, nD, nB, nK, ls, rr, rc, sp, fc, dp, rs, L, op, kk, su, own, ow, tr, xe, ex, al, fl, tp, fA, fC, fT, fP, fB, fH, rfl, rfl, h⟩ := I
  obtain ⟨⟨hC, hT, hS, hD, hB, hK⟩, hL, hCE, hU, hO, hV, hA, hE, hF⟩ := id h
  rcases Nat.eq_zero_or_pos nB with z | z
  · subst z
    exact tx_emit_0 (br_t rfl ⟨rfl, tf_mk h⟩)
  · obtain ⟨b, rfl⟩ : ∃ b, nB = b + 1 := ⟨nB - 1, by omega⟩
    by_cases a : tf_in v1 9
    · obtain ⟨o, ho, rfl⟩ := a
      obtain ⟨l, hl, el⟩ := hL.1 b (by omega)
      by_cases c : l = 16
      · subst c
        exact tx_emit_16 (by omega) ho el (ty_emit_16 (by omega) ho el ⟨rfl, tf_mk h⟩)
      · rcases tf_fit nS ho v2 with ⟨q, f⟩ | f
        · exact tx_emit_t hS.2 (by omega) ho el (by omega) f (ty_emit_t hS.2 (by omega) ho el (by omega) f ⟨rfl, tf_mk ⟨⟨hC, hT, hS, hD, hB, hK⟩, tf_LV_emit hL (by omega) (by omega), tf_CE_emit hCE (by omega) (by omega) el (by omega) (tf_ft_k f), hU, hO, hV, hA, hE, hF⟩⟩)
        · exact tx_emit_n hS.2 (by omega) ho el (by omega) f (ty_emit_n hS.2 (by omega) ho el (by omega) f ⟨rfl, tf_mk h⟩)
    · exact tx_emit_b (by omega) a (ty_emit_b (by omega) a ⟨rfl, tf_mk h⟩)
theorem i_vc_bodyLength {k : Nat} {u : SX} {v : SY} (I : i_Rel k u v) (hk : k + 4 ≤ 2052) (v1 : Int32) : wpX_bodyLength (fun r => wpY_bodyLength (fun r' => r' = r ∧ i_Rel (k + 4) u v) v v1) u v1 := by
  obtain ⟨nC, nT, nS, nD, nB, nK, ls, rr, rc, sp, fc, dp, rs, L, op, kk, su, own, ow, tr, xe, ex, al, fl, tp, fA, fC, fT, fP, fB, fH, rfl, rfl, h⟩ := I
  obtain ⟨⟨hC, hT, hS, hD, hB, hK⟩, hL, hCE, hU, hO, hV, hA, hE, hF⟩ := id h
  unfold wpX_bodyLength
  by_cases a : tf_in v1 nB
  · have a' := a
    obtain ⟨b, hb, rfl⟩ := a
    have e : vp_in (nI b) 16 := vp_in_nI (by omega) (by omega)
    refine tx_isBody_t hB a' (br_f (by decide) ⟨e, ?_⟩)
    unfold wpY_bodyLength
    exact ty_validBody_t hB a' (br_f (by decide) ⟨e, rfl, tf_mk h⟩)
  · refine tx_isBody_f hB a (br_t rfl ?_)
    unfold wpY_bodyLength
    exact ty_validBody_f hB a (br_t rfl ⟨rfl, tf_mk h⟩)
theorem i_vc_code {k : Nat} {u : SX} {v : SY} (I : i_Rel k u v) (hk : k + 4 ≤ 2052) (v1 : Int32) (v2 : Int32) : wpX_code (fun r => wpY_code (fun r' => r' = r ∧ i_Rel (k + 4) u v) v v1 v2) u v1 v2 := by
  obtain ⟨nC, nT, nS, nD, nB, nK, ls, rr, rc, sp, fc, dp, rs, L, op, kk, su, own, ow, tr, xe, ex, al, fl, tp, fA, fC, fT, fP, fB, fH, rfl, rfl, h⟩ := I
  obtain ⟨⟨hC, hT, hS, hD, hB, hK⟩, hL, hCE, hU, hO, hV, hA, hE, hF⟩ := id h
  unfold wpX_code
  by_cases a : tf_in v1 nB
  · have a' := a
    obtain ⟨b, hb, rfl⟩ := a
    have e : vp_in (nI b) 16 := vp_in_nI (by omega) (by omega)
    have eb : (nI b).toNatClampNeg = b := nI_clamp (by omega)
    obtain ⟨l, hl, el⟩ := hL.1 b (by omega)
    have el' : L (nI b).toNatClampNeg = nI l := by rw [eb, el]
    refine tx_isBody_t hB a' (br_f (by decide) ?_)
    by_cases c : tf_in v2 l
    · obtain ⟨i, hi, rfl⟩ := c
      have c1 : nI i < L (nI b).toNatClampNeg := by
        rw [el']
        exact nI_lt hi (by omega)
      have e2 : vp_in (nI (b * 16 + i)) 256 := vp_in_nI (by omega) (by omega)
      have e3 : vp_in (nI b * 16 + nI i) 256 := by
        rw [tf_ix]
        exact e2
      refine br_f (nI_pos (by omega)) ⟨e, br_t c1 (nm_r (tf_ix b i) ⟨e2, e2, ?_⟩)⟩
      unfold wpY_code
      refine ty_validBody_t hB a' (br_f (by decide) (br_f (nI_pos (by omega)) ⟨e, br_t c1 ⟨e3, e3, ?_, tf_mk h⟩⟩))
      rw [tf_ix]
    · rcases tf_nin (n := l) (by omega) c with d | ⟨d, d2, d3⟩
      · refine br_t d ?_
        unfold wpY_code
        exact ty_validBody_t hB a' (br_f (by decide) (br_t d ⟨rfl, tf_mk h⟩))
      · have d4 : ¬ v2 < L (nI b).toNatClampNeg := by
          rw [el']
          exact d3
        refine br_f d ⟨e, br_f d4 ?_⟩
        unfold wpY_code
        exact ty_validBody_t hB a' (br_f (by decide) (br_f d ⟨e, br_f d4 ⟨rfl, tf_mk h⟩⟩))
  · refine tx_isBody_f hB a (br_t rfl ?_)
    unfold wpY_code
    exact ty_validBody_f hB a (br_t rfl ⟨rfl, tf_mk h⟩)
/-- what setSuper takes beside a good first argument: nothing, or a lower number -/
theorem tf_sup (v : Int32) (c : Nat) (hc : c < 2 ^ 31) : (v = -1) ∨ (∃ d, d < c ∧ v = nI d) ∨ (¬ v = -1 ∧ ((v < (-1) ∧ v < 0) ∨ (¬ v < (-1) ∧ ¬ v < 0 ∧ ¬ v < nI c))) := by
  by_cases a : v = -1
  · exact Or.inl a
  · rcases pk_ix v hc with b | b | b
    · refine Or.inr (Or.inr ⟨a, Or.inl ⟨?_, b⟩⟩)
      rw [Int32.lt_iff_toInt_lt, show (0 : Int32).toInt = 0 from by decide] at b
      rw [Int32.lt_iff_toInt_lt, show (-1 : Int32).toInt = -1 from by decide]
      have h2 : v.toInt ≠ -1 := fun z => a (Int32.toInt_inj.mp (z.trans (show (-1 : Int) = (-1 : Int32).toInt from by decide)))
      omega
    · have b0 := tf_ge0 hc b
      refine Or.inr (Or.inr ⟨a, Or.inr ⟨fun z => b0 (Int32.lt_trans z (by decide)), b0, Int32.not_lt.mpr b⟩⟩)
    · exact Or.inr (Or.inl b)
theorem tx_sup_t {nC nT nS nD nB nK : Nat} {ls rr rc sp fc : Int32} {L op kk su own ow tr xe al fl fA fC fT fP fB fH : Nat → Int32} {post : Int32 → SX → Prop} (hC : nC ≤ 8) {c : Nat} {x : Int32} (hc : c < nC) (hx : x = -1 ∨ ∃ d, d < c ∧ x = nI d) (p : post 1 (nI nC, nI nT, nI nS, nI nD, nI nB, nI nK, ls, rr, rc, sp, fc, L, op, kk, upd su c x, own, ow, tr, xe, al, fl, fA, fC, fT, fP, fB, fH)) : wpX_setSuper post (nI nC, nI nT, nI nS, nI nD, nI nB, nI nK, ls, rr, rc, sp, fc, L, op, kk, su, own, ow, tr, xe, al, fl, fA, fC, fT, fP, fB, fH) (nI c) x := by
  unfold wpX_setSuper
  have e : (nI c).toNatClampNeg = c := nI_clamp (by omega)
  have e2 : vp_in (nI c) 8 := vp_in_nI (by omega) (by omega)
  refine tx_isClass_t hC ⟨c, hc, rfl⟩ (br_f (by decide) ?_)
  rw [e]
  rcases hx with a | ⟨d, hd, a⟩
  · subst a
    exact br_f (by decide) (br_t (Int32.lt_of_lt_of_le (show (-1 : Int32) < 0 by decide) (nI_pos' (by omega))) ⟨e2, nm_e p⟩)
  · subst a
    exact br_f (fun z => nI_pos (n := d) (by omega) (Int32.lt_trans z (by decide))) (br_t (nI_lt hd (by omega)) ⟨e2, nm_e p⟩)
theorem ty_sup_t {nC nT nS nD nB nK : Nat} {dp rs st : Int32} {op kk L su own ow tr ex al tp fB fH fA fC fT fP : Nat → Int32} {post : Int32 → SY → Prop} (hC : nC ≤ 8) {c : Nat} {x : Int32} (hc : c < nC) (hx : x = -1 ∨ ∃ d, d < c ∧ x = nI d) (p : post 1 (nI nC, nI nT, nI nS, nI nD, nI nB, nI nK, dp, rs, st, op, kk, L, upd su c x, own, ow, tr, ex, al, tp, fB, fH, fA, fC, fT, fP)) : wpY_setSuper post (nI nC, nI nT, nI nS, nI nD, nI nB, nI nK, dp, rs, st, op, kk, L, su, own, ow, tr, ex, al, tp, fB, fH, fA, fC, fT, fP) (nI c) x := by
  have e : (nI c).toNatClampNeg = c := nI_clamp (by omega)
  have e2 : vp_in (nI c) 8 := vp_in_nI (by omega) (by omega)
  refine tf_r2t (by omega) ⟨c, hc, rfl⟩ ?_
  rw [e]
  rcases hx with a | ⟨d, hd, a⟩
  · exact br_t a ⟨e2, nm_e p⟩
  · subst a
    exact br_f (tf_m1 (by omega)) (br_f (nI_pos (by omega)) (br_t (nI_lt hd (by omega)) ⟨e2, nm_e p⟩))
theorem tx_sup_f {nC nT nS nD nB nK : Nat} {ls rr rc sp fc : Int32} {L op kk su own ow tr xe al fl fA fC fT fP fB fH : Nat → Int32} {post : Int32 → SX → Prop} (hC : nC ≤ 8) {v1 v2 : Int32} (h : ¬ tf_in v1 nC ∨ ∃ c, c < nC ∧ v1 = nI c ∧ ¬ v2 = -1 ∧ ((v2 < (-1) ∧ v2 < 0) ∨ (¬ v2 < (-1) ∧ ¬ v2 < 0 ∧ ¬ v2 < nI c))) (p : post 0 (nI nC, nI nT, nI nS, nI nD, nI nB, nI nK, ls, rr, rc, sp, fc, L, op, kk, su, own, ow, tr, xe, al, fl, fA, fC, fT, fP, fB, fH)) : wpX_setSuper post (nI nC, nI nT, nI nS, nI nD, nI nB, nI nK, ls, rr, rc, sp, fc, L, op, kk, su, own, ow, tr, xe, al, fl, fA, fC, fT, fP, fB, fH) v1 v2 := by
  unfold wpX_setSuper
  rcases h with a | ⟨c, hc, rfl, _, ⟨b, _⟩ | ⟨b, _, d⟩⟩
  · exact tx_isClass_f hC a (br_t rfl p)
  · exact tx_isClass_t hC ⟨c, hc, rfl⟩ (br_f (by decide) (br_t b p))
  · exact tx_isClass_t hC ⟨c, hc, rfl⟩ (br_f (by decide) (br_f b (br_f d p)))
theorem ty_sup_f {nC nT nS nD nB nK : Nat} {dp rs st : Int32} {op kk L su own ow tr ex al tp fB fH fA fC fT fP : Nat → Int32} {post : Int32 → SY → Prop} (hC : nC ≤ 8) {v1 v2 : Int32} (h : ¬ tf_in v1 nC ∨ ∃ c, c < nC ∧ v1 = nI c ∧ ¬ v2 = -1 ∧ ((v2 < (-1) ∧ v2 < 0) ∨ (¬ v2 < (-1) ∧ ¬ v2 < 0 ∧ ¬ v2 < nI c))) (p : post 0 (nI nC, nI nT, nI nS, nI nD, nI nB, nI nK, dp, rs, st, op, kk, L, su, own, ow, tr, ex, al, tp, fB, fH, fA, fC, fT, fP)) : wpY_setSuper post (nI nC, nI nT, nI nS, nI nD, nI nB, nI nK, dp, rs, st, op, kk, L, su, own, ow, tr, ex, al, tp, fB, fH, fA, fC, fT, fP) v1 v2 := by
  rcases h with a | ⟨c, hc, rfl, n, ⟨_, b⟩ | ⟨_, b, d⟩⟩
  · exact tf_r2f (by omega) a p
  · exact tf_r2t (by omega) ⟨c, hc, rfl⟩ (br_f n (br_t b p))
  · exact tf_r2t (by omega) ⟨c, hc, rfl⟩ (br_f n (br_f b (br_f d p)))
theorem i_vc_setSuper {k : Nat} {u : SX} {v : SY} (I : i_Rel k u v) (hk : k + 4 ≤ 2052) (v1 : Int32) (v2 : Int32) : wpX_setSuper (fun r u' => wpY_setSuper (fun r' v' => r' = r ∧ i_Rel (k + 4) u' v') v v1 v2) u v1 v2 := by
  obtain ⟨nC, nT, nS, nD, nB, nK, ls, rr, rc, sp, fc, dp, rs, L, op, kk, su, own, ow, tr, xe, ex, al, fl, tp, fA, fC, fT, fP, fB, fH, rfl, rfl, h⟩ := I
  obtain ⟨⟨hC, hT, hS, hD, hB, hK⟩, hL, hCE, hU, hO, hV, hA, hE, hF⟩ := id h
  by_cases a : tf_in v1 nC
  · obtain ⟨c, hc, rfl⟩ := a
    have good : (v2 = -1 ∨ ∃ d, d < c ∧ v2 = nI d) → wpX_setSuper (fun r u' => wpY_setSuper (fun r' v' => r' = r ∧ i_Rel (k + 4) u' v') (nI nC, nI nT, nI nS, nI nD, nI nB, nI nK, dp, rs, ls, op, kk, L, su, own, ow, tr, ex, al, tp, fB, fH, fA, fC, fT, fP) (nI c) v2) (nI nC, nI nT, nI nS, nI nD, nI nB, nI nK, ls, rr, rc, sp, fc, L, op, kk, su, own, ow, tr, xe, al, fl, fA, fC, fT, fP, fB, fH) (nI c) v2 := fun hx => tx_sup_t hC.2 hc hx (ty_sup_t hC.2 hc hx ⟨rfl, tf_mk ⟨⟨hC, hT, hS, hD, hB, hK⟩, hL, hCE, tf_SV_set hU hx, hO, hV, hA, hE, hF⟩⟩)
    rcases tf_sup v2 c (by omega) with b | b | b
    · exact good (Or.inl b)
    · exact good (Or.inr b)
    · exact tx_sup_f hC.2 (Or.inr ⟨c, hc, rfl, b⟩) (ty_sup_f hC.2 (Or.inr ⟨c, hc, rfl, b⟩) ⟨rfl, tf_mk h⟩)
  · exact tx_sup_f hC.2 (Or.inl a) (ty_sup_f hC.2 (Or.inl a) ⟨rfl, tf_mk h⟩)
theorem tx_sof_t {nC nT nS nD nB nK : Nat} {ls rr rc sp fc : Int32} {L op kk su own ow tr xe al fl fA fC fT fP fB fH : Nat → Int32} {post : Int32 → Prop} (hC : nC ≤ 8) {c : Nat} (hc : c < nC) (p : post (su c)) : wpX_superOf post (nI nC, nI nT, nI nS, nI nD, nI nB, nI nK, ls, rr, rc, sp, fc, L, op, kk, su, own, ow, tr, xe, al, fl, fA, fC, fT, fP, fB, fH) (nI c) := by
  unfold wpX_superOf
  refine tx_isClass_t hC ⟨c, hc, rfl⟩ (br_f (by decide) ⟨vp_in_nI (by omega) (by omega), ?_⟩)
  rw [nI_clamp (show c < 2 ^ 31 by omega)]
  exact p
theorem i_vc_superOf {k : Nat} {u : SX} {v : SY} (I : i_Rel k u v) (hk : k + 4 ≤ 2052) (v1 : Int32) : wpX_superOf (fun r => wpY_superOf (fun r' => r' = r ∧ i_Rel (k + 4) u v) v v1) u v1 := by
  obtain ⟨nC, nT, nS, nD, nB, nK, ls, rr, rc, sp, fc, dp, rs, L, op, kk, su, own, ow, tr, xe, ex, al, fl, tp, fA, fC, fT, fP, fB, fH, rfl, rfl, h⟩ := I
  obtain ⟨⟨hC, hT, hS, hD, hB, hK⟩, hL, hCE, hU, hO, hV, hA, hE, hF⟩ := id h
  by_cases a : tf_in v1 nC
  · obtain ⟨c, hc, rfl⟩ := a
    refine tx_sof_t hC.2 hc (tf_r2t (by omega) ⟨c, hc, rfl⟩ ⟨vp_in_nI (by omega) (by omega), ?_, tf_mk h⟩)
    rw [nI_clamp (show c < 2 ^ 31 by omega)]
  · unfold wpX_superOf
    exact tx_isClass_f hC.2 a (br_t rfl (tf_r2f (by omega) a ⟨rfl, tf_mk h⟩))
theorem i_vc_define {k : Nat} {u : SX} {v : SY} (I : i_Rel k u v) (hk : k + 4 ≤ 2052) (v1 : Int32) (v2 : Int32) (v3 : Int32) : wpX_define (fun r u' => wpY_define (fun r' v' => r' = r ∧ i_Rel (k + 4) u' v') v v1 v2 v3) u v1 v2 v3 := by
  obtain ⟨nC, nT, nS, nD, nB, nK, ls, rr, rc, sp, fc, dp, rs, L, op, kk, su, own, ow, tr, xe, ex, al, fl, tp, fA, fC, fT, fP, fB, fH, rfl, rfl, h⟩ := I
  obtain ⟨⟨hC, hT, hS, hD, hB, hK⟩, hL, hCE, hU, hO, hV, hA, hE, hF⟩ := id h
  by_cases a : tf_ow v1 nC nT ∧ tf_in v2 nS ∧ (v3 = -1 ∨ tf_in v3 nB)
  · obtain ⟨⟨j, hj, rfl⟩, ⟨s, hs, rfl⟩, hx⟩ := a
    exact tx_def_t hC.2 hT.2 hS.2 hK hB hE hV hj hs hx (fun g hg => ty_def_t hC.2 hT.2 hS.2 hB hj hs hx ⟨rfl, tf_mk ⟨⟨hC, hT, hS, hD, hB, hK⟩, hL, hCE, hU, tf_OV_set hO hx, hV, hA, hE, hg⟩⟩)
  · exact tx_def_f hC.2 hT.2 hS.2 hB a (ty_def_f hC.2 hT.2 hS.2 hB a ⟨rfl, tf_mk h⟩)
theorem i_vc_ownMethod {k : Nat} {u : SX} {v : SY} (I : i_Rel k u v) (hk : k + 4 ≤ 2052) (v1 : Int32) (v2 : Int32) : wpX_ownMethod (fun r => wpY_ownMethod (fun r' => r' = r ∧ i_Rel (k + 4) u v) v v1 v2) u v1 v2 := by
  obtain ⟨nC, nT, nS, nD, nB, nK, ls, rr, rc, sp, fc, dp, rs, L, op, kk, su, own, ow, tr, xe, ex, al, fl, tp, fA, fC, fT, fP, fB, fH, rfl, rfl, h⟩ := I
  obtain ⟨⟨hC, hT, hS, hD, hB, hK⟩, hL, hCE, hU, hO, hV, hA, hE, hF⟩ := id h
  by_cases a : tf_ow v1 nC nT ∧ tf_in v2 nS
  · obtain ⟨⟨j, hj, rfl⟩, ⟨s, hs, rfl⟩⟩ := a
    exact tx_own_t hC.2 hT.2 hS.2 hj hs (ty_own_t hC.2 hT.2 hS.2 hj hs ⟨rfl, tf_mk h⟩)
  · exact tx_own_f hC.2 hT.2 hS.2 a (ty_own_f hC.2 hT.2 hS.2 a ⟨rfl, tf_mk h⟩)
theorem i_vc_use {k : Nat} {u : SX} {v : SY} (I : i_Rel k u v) (hk : k + 4 ≤ 2052) (v1 : Int32) (v2 : Int32) : wpX_use (fun r u' => wpY_use (fun r' v' => r' = r ∧ i_Rel (k + 4) u' v') v v1 v2) u v1 v2 := by
  obtain ⟨nC, nT, nS, nD, nB, nK, ls, rr, rc, sp, fc, dp, rs, L, op, kk, su, own, ow, tr, xe, ex, al, fl, tp, fA, fC, fT, fP, fB, fH, rfl, rfl, h⟩ := I
  obtain ⟨⟨hC, hT, hS, hD, hB, hK⟩, hL, hCE, hU, hO, hV, hA, hE, hF⟩ := id h
  by_cases a : tf_ow v1 nC nT
  · by_cases b : tf_in v2 nT
    · obtain ⟨j, hj, rfl⟩ := a
      obtain ⟨t, ht, rfl⟩ := b
      by_cases c : (8 ≤ j ∧ j ≤ t + 8) ∨ nK = 16
      · exact tx_use_g hC.2 hT.2 hj ht c (ty_use_g hC.2 hT.2 hj ht c ⟨rfl, tf_mk h⟩)
      · have hK' : nK < 16 := by omega
        have h8 : 8 ≤ j → t + 8 < j := by omega
        have hV' := tf_CV_use hS.2 hV (fun s hs => (hA nK (Nat.le_refl _) hK').2 s hs) (o := j) (u := t) (by omega) ht h8
        exact tx_use_t hC.2 hT.2 hS.2 hK' hE hj ht h8 hV' (fun g hg => ty_use_t hC.2 hT.2 hK' (fun s hs => ⟨tf_ex0 hS.2 hE hA (Nat.le_refl _) hK' hs, (hA nK (Nat.le_refl _) hK').2 s hs⟩) hj ht h8 ⟨rfl, tf_mk ⟨⟨hC, hT, hS, hD, hB, hK'⟩, hL, hCE, hU, hO, hV', tf_AF_use hA, hE, hg⟩⟩)
    · exact tx_use_f hC.2 hT.2 (Or.inr b) (ty_use_f hC.2 hT.2 (Or.inr b) ⟨rfl, tf_mk h⟩)
  · exact tx_use_f hC.2 hT.2 (Or.inl a) (ty_use_f hC.2 hT.2 (Or.inl a) ⟨rfl, tf_mk h⟩)
theorem i_vc_exclude {k : Nat} {u : SX} {v : SY} (I : i_Rel k u v) (hk : k + 4 ≤ 2052) (v1 : Int32) (v2 : Int32) : wpX_exclude (fun r u' => wpY_exclude (fun r' v' => r' = r ∧ i_Rel (k + 4) u' v') v v1 v2) u v1 v2 := by
  obtain ⟨nC, nT, nS, nD, nB, nK, ls, rr, rc, sp, fc, dp, rs, L, op, kk, su, own, ow, tr, xe, ex, al, fl, tp, fA, fC, fT, fP, fB, fH, rfl, rfl, h⟩ := I
  obtain ⟨⟨hC, hT, hS, hD, hB, hK⟩, hL, hCE, hU, hO, hV, hA, hE, hF⟩ := id h
  by_cases a : tf_in v1 nK ∧ tf_in v2 nS
  · obtain ⟨⟨j, hj, rfl⟩, ⟨s, hs, rfl⟩⟩ := a
    exact tx_excl_t hC.2 hT.2 hS.2 hK hE hV hj hs (fun g hg => ty_excl_t hS.2 hK hj hs ⟨rfl, tf_mk ⟨⟨hC, hT, hS, hD, hB, hK⟩, hL, hCE, hU, hO, hV, tf_AF_excl hA hj, tf_EX_upd hS.2 hE (by omega) hs, hg⟩⟩)
  · exact tx_excl_f hS.2 hK a (ty_excl_f hS.2 hK a ⟨rfl, tf_mk h⟩)
theorem i_vc_alias {k : Nat} {u : SX} {v : SY} (I : i_Rel k u v) (hk : k + 4 ≤ 2052) (v1 : Int32) (v2 : Int32) (v3 : Int32) : wpX_alias (fun r u' => wpY_alias (fun r' v' => r' = r ∧ i_Rel (k + 4) u' v') v v1 v2 v3) u v1 v2 v3 := by
  obtain ⟨nC, nT, nS, nD, nB, nK, ls, rr, rc, sp, fc, dp, rs, L, op, kk, su, own, ow, tr, xe, ex, al, fl, tp, fA, fC, fT, fP, fB, fH, rfl, rfl, h⟩ := I
  obtain ⟨⟨hC, hT, hS, hD, hB, hK⟩, hL, hCE, hU, hO, hV, hA, hE, hF⟩ := id h
  by_cases a : tf_in v1 nK ∧ tf_in v2 nS ∧ tf_in v3 nS
  · obtain ⟨⟨j, hj, rfl⟩, ⟨n, hn, rfl⟩, ⟨r, hr, rfl⟩⟩ := a
    obtain ⟨_, _, _, _, _, _, _, h6⟩ := hV j hj
    rcases h6 n hn with e | ⟨q, hq, e⟩
    · exact tx_al_n hC.2 hT.2 hS.2 hK hE hj hn hr e (tf_CV_alias hV hr) (fun g hg => ty_al_t hS.2 hK hj hn hr (Or.inl e) ⟨rfl, tf_mk ⟨⟨hC, hT, hS, hD, hB, hK⟩, hL, hCE, hU, hO, tf_CV_alias hV hr, tf_AF_alias hA hj (by omega), hE, hg⟩⟩)
    · by_cases c : q = r
      · subst c
        refine tx_al_o hS.2 hK hj hn hr hq e (ty_al_t hS.2 hK hj hn hr (Or.inr e) ⟨(if_pos rfl).symm, ?_⟩)
        rw [tf_uid e]
        exact tf_mk h
      · exact tx_al_o hS.2 hK hj hn hr hq e (ty_al_o hS.2 hK hj hn hr hq c e ⟨(if_neg c).symm, tf_mk h⟩)
  · exact tx_al_f hS.2 hK a (ty_al_f hS.2 hK a ⟨rfl, tf_mk h⟩)
theorem i_vc_componentInfo {k : Nat} {u : SX} {v : SY} (I : i_Rel k u v) (hk : k + 4 ≤ 2052) (v1 : Int32) (v2 : Int32) : wpX_componentInfo (fun r => wpY_componentInfo (fun r' => r' = r ∧ i_Rel (k + 4) u v) v v1 v2) u v1 v2 := by
  obtain ⟨nC, nT, nS, nD, nB, nK, ls, rr, rc, sp, fc, dp, rs, L, op, kk, su, own, ow, tr, xe, ex, al, fl, tp, fA, fC, fT, fP, fB, fH, rfl, rfl, h⟩ := I
  obtain ⟨⟨hC, hT, hS, hD, hB, hK⟩, hL, hCE, hU, hO, hV, hA, hE, hF⟩ := id h
  by_cases a : tf_in v1 nK
  · obtain ⟨j, hj, rfl⟩ := a
    rcases tf_fld v2 hS.2 with rfl | rfl | rfl | ⟨n, hn, rfl⟩ | b
    · exact tx_ci_0 hK hj (ty_ci_0 hK hj ⟨rfl, tf_mk h⟩)
    · exact tx_ci_1 hK hj (ty_ci_1 hK hj ⟨rfl, tf_mk h⟩)
    · exact tx_ci_2 hK hj (ty_ci_2 hK hS.2 hE hj ⟨rfl, tf_mk h⟩)
    · exact tx_ci_a hK hS.2 hj hn (ty_ci_a hK hS.2 hj hn ⟨rfl, tf_mk h⟩)
    · exact tx_ci_n hK hj b (ty_ci_n hK hj b ⟨rfl, tf_mk h⟩)
  · exact tx_ci_f hK a (ty_ci_f hK a ⟨rfl, tf_mk h⟩)
theorem i_vc_provided {k : Nat} {u : SX} {v : SY} (I : i_Rel k u v) (hk : k + 4 ≤ 2052) (v1 : Int32) (v2 : Int32) : wpX_provided (fun r => wpY_provided (fun r' v' => r' = r ∧ i_Rel (k + 4) u v') v v1 v2) u v1 v2 := by
  obtain ⟨nC, nT, nS, nD, nB, nK, ls, rr, rc, sp, fc, dp, rs, L, op, kk, su, own, ow, tr, xe, ex, al, fl, tp, fA, fC, fT, fP, fB, fH, rfl, rfl, h⟩ := I
  obtain ⟨⟨hC, hT, hS, hD, hB, hK⟩, hL, hCE, hU, hO, hV, hA, hE, hF⟩ := id h
  by_cases a : tf_ow v1 nC nT ∧ tf_in v2 nS
  · obtain ⟨⟨j, hj, rfl⟩, ⟨s, hs, rfl⟩⟩ := a
    exact tx_prov_t hC.2 hT.2 hS.2 hj hs (ty_prov_t hC.2 hT.2 hS.2 hK hV hj hs (fun g => ⟨(hF j s hj hs).symm, tf_mk h⟩))
  · exact tx_prov_f hC.2 hT.2 hS.2 a (ty_prov_f hC.2 hT.2 hS.2 a ⟨rfl, tf_mk h⟩)
theorem i_vc_lookup {k : Nat} {u : SX} {v : SY} (I : i_Rel k u v) (hk : k + 4 ≤ 2052) (v1 : Int32) (v2 : Int32) (v3 : Int32) : wpX_lookup (fun r => wpY_lookup (fun r' v' => r' = r ∧ i_Rel (k + 4) u v') v v1 v2 v3) u v1 v2 v3 := by
  obtain ⟨nC, nT, nS, nD, nB, nK, ls, rr, rc, sp, fc, dp, rs, L, op, kk, su, own, ow, tr, xe, ex, al, fl, tp, fA, fC, fT, fP, fB, fH, rfl, rfl, h⟩ := I
  obtain ⟨⟨hC, hT, hS, hD, hB, hK⟩, hL, hCE, hU, hO, hV, hA, hE, hF⟩ := id h
  by_cases a : tf_in v1 nC ∧ tf_in v2 nS ∧ tf_in v3 4
  · obtain ⟨⟨c, hc, rfl⟩, ⟨s, hs, rfl⟩, ⟨q, hq, rfl⟩⟩ := a
    exact tx_lk_t hC.2 hS.2 hF hU hc hs hq (ty_lk_t hC.2 hS.2 hT.2 hK hV hU hc hs hq (fun g => ⟨rfl, tf_mk h⟩))
  · exact tx_lk_f hC.2 hS.2 a (ty_lk_f hC.2 hS.2 a ⟨rfl, tf_mk h⟩)
theorem i_vc_runStatus {k : Nat} {u : SX} {v : SY} (I : i_Rel k u v) (hk : k + 4 ≤ 2052) : wpX_runStatus (fun r => wpY_runStatus (fun r' => r' = r ∧ i_Rel (k + 4) u v) v) u := by
  obtain ⟨nC, nT, nS, nD, nB, nK, ls, rr, rc, sp, fc, dp, rs, L, op, kk, su, own, ow, tr, xe, ex, al, fl, tp, fA, fC, fT, fP, fB, fH, rfl, rfl, h⟩ := I
  obtain ⟨⟨hC, hT, hS, hD, hB, hK⟩, hL, hCE, hU, hO, hV, hA, hE, hF⟩ := id h
  exact ⟨rfl, tf_mk h⟩
