theorem tx_own_t {nC nT nS nD nB nK : Nat} {ls rr rc sp fc : Int32} {L op kk su own ow tr xe al fl fA fC fT fP fB fH : Nat → Int32} {post : Int32 → Prop} (hC : nC ≤ 8) (hT : nT ≤ 8) (hS : nS ≤ 16) {j s : Nat} (hj : j < nC ∨ (8 ≤ j ∧ j < 8 + nT)) (hs : s < nS) (p : post (own (j * 16 + s))) : wpX_ownMethod post (nI nC, nI nT, nI nS, nI nD, nI nB, nI nK, ls, rr, rc, sp, fc, L, op, kk, su, own, ow, tr, xe, al, fl, fA, fC, fT, fP, fB, fH) (nI j) (nI s) := by
  unfold wpX_ownMethod
  refine tx_isOwner_t hC hT ⟨j, hj, rfl⟩ (br_f (by decide) (tx_isSelector_t hS ⟨s, hs, rfl⟩ (br_f (by decide) ?_)))
  rw [tf_ix, nI_clamp (show j * 16 + s < 2 ^ 31 by omega)]
  exact ⟨vp_in_nI (by omega) (by omega), p⟩
theorem tx_own_f {nC nT nS nD nB nK : Nat} {ls rr rc sp fc : Int32} {L op kk su own ow tr xe al fl fA fC fT fP fB fH : Nat → Int32} {post : Int32 → Prop} (hC : nC ≤ 8) (hT : nT ≤ 8) (hS : nS ≤ 16) {v1 v2 : Int32} (h : ¬ (tf_ow v1 nC nT ∧ tf_in v2 nS)) (p : post (-3)) : wpX_ownMethod post (nI nC, nI nT, nI nS, nI nD, nI nB, nI nK, ls, rr, rc, sp, fc, L, op, kk, su, own, ow, tr, xe, al, fl, fA, fC, fT, fP, fB, fH) v1 v2 := by
  unfold wpX_ownMethod
  by_cases a : tf_ow v1 nC nT
  · exact tx_isOwner_t hC hT a (br_f (by decide) (tx_isSelector_f hS (fun b => h ⟨a, b⟩) (br_t rfl p)))
  · exact tx_isOwner_f hC hT a (br_t rfl p)
theorem tx_prov_t {nC nT nS nD nB nK : Nat} {ls rr rc sp fc : Int32} {L op kk su own ow tr xe al fl fA fC fT fP fB fH : Nat → Int32} {post : Int32 → Prop} (hC : nC ≤ 8) (hT : nT ≤ 8) (hS : nS ≤ 16) {j s : Nat} (hj : j < nC ∨ (8 ≤ j ∧ j < 8 + nT)) (hs : s < nS) (p : post (fl (j * 16 + s))) : wpX_provided post (nI nC, nI nT, nI nS, nI nD, nI nB, nI nK, ls, rr, rc, sp, fc, L, op, kk, su, own, ow, tr, xe, al, fl, fA, fC, fT, fP, fB, fH) (nI j) (nI s) := by
  unfold wpX_provided
  refine tx_isOwner_t hC hT ⟨j, hj, rfl⟩ (br_f (by decide) (tx_isSelector_t hS ⟨s, hs, rfl⟩ (br_f (by decide) ?_)))
  rw [tf_ix, nI_clamp (show j * 16 + s < 2 ^ 31 by omega)]
  exact ⟨vp_in_nI (by omega) (by omega), p⟩
theorem tx_prov_f {nC nT nS nD nB nK : Nat} {ls rr rc sp fc : Int32} {L op kk su own ow tr xe al fl fA fC fT fP fB fH : Nat → Int32} {post : Int32 → Prop} (hC : nC ≤ 8) (hT : nT ≤ 8) (hS : nS ≤ 16) {v1 v2 : Int32} (h : ¬ (tf_ow v1 nC nT ∧ tf_in v2 nS)) (p : post (-3)) : wpX_provided post (nI nC, nI nT, nI nS, nI nD, nI nB, nI nK, ls, rr, rc, sp, fc, L, op, kk, su, own, ow, tr, xe, al, fl, fA, fC, fT, fP, fB, fH) v1 v2 := by
  unfold wpX_provided
  by_cases a : tf_ow v1 nC nT
  · exact tx_isOwner_t hC hT a (br_f (by decide) (tx_isSelector_f hS (fun b => h ⟨a, b⟩) (br_t rfl p)))
  · exact tx_isOwner_f hC hT a (br_t rfl p)
theorem tx_def_t {nC nT nS nD nB nK : Nat} {ls rr rc sp fc : Int32} {L op kk su own ow tr xe al fl fA fC fT fP fB fH : Nat → Int32} {ex : Nat → Int32} {post : Int32 → St2 → Prop} (hC : nC ≤ 8) (hT : nT ≤ 8) (hS : nS ≤ 16) (hK : nK ≤ 16) (hB : nB ≤ 16) (hE : tf_EX nS xe ex) (hV : tf_CV nT nS nK ow tr al) {j s : Nat} {x : Int32} (hj : j < nC ∨ (8 ≤ j ∧ j < 8 + nT)) (hs : s < nS) (hx : x = -1 ∨ tf_in x nB) (p : ∀ g : Nat → Int32, tf_FL nC nT nS nK (upd own (j * 16 + s) x) ow tr ex al g → post 1 (nI nC, nI nT, nI nS, nI nD, nI nB, nI nK, ls, rr, rc, sp, fc, L, op, kk, su, upd own (j * 16 + s) x, ow, tr, xe, al, g, fA, fC, fT, fP, fB, fH)) : wpX_define post (nI nC, nI nT, nI nS, nI nD, nI nB, nI nK, ls, rr, rc, sp, fc, L, op, kk, su, own, ow, tr, xe, al, fl, fA, fC, fT, fP, fB, fH) (nI j) (nI s) x := by
  have w : wX_define_33 post (nI j) (nI s) x (nI nC) (nI nT) (nI nS) (nI nD) (nI nB) (nI nK) ls rr rc sp fc L op kk su own ow tr xe al fl fA fC fT fP fB fH := by
    unfold wX_define_33
    rw [tf_ix, nI_clamp (show j * 16 + s < 2 ^ 31 by omega)]
    exact ⟨vp_in_nI (by omega) (by omega), nm_e (tx_flattenAll hC hS hT hK hE hV p)⟩
  unfold wpX_define
  refine tx_isOwner_t hC hT ⟨j, hj, rfl⟩ (br_f (by decide) (tx_isSelector_t hS ⟨s, hs, rfl⟩ (br_f (by decide) ?_)))
  by_cases c : x = -1
  · exact br_t c w
  · exact br_f c (tx_isBody_t hB (hx.resolve_left c) (br_f (by decide) w))
theorem tx_def_f {nC nT nS nD nB nK : Nat} {ls rr rc sp fc : Int32} {L op kk su own ow tr xe al fl fA fC fT fP fB fH : Nat → Int32} {post : Int32 → St2 → Prop} (hC : nC ≤ 8) (hT : nT ≤ 8) (hS : nS ≤ 16) (hB : nB ≤ 16) {v1 v2 x : Int32} (h : ¬ (tf_ow v1 nC nT ∧ tf_in v2 nS ∧ (x = -1 ∨ tf_in x nB))) (p : post 0 (nI nC, nI nT, nI nS, nI nD, nI nB, nI nK, ls, rr, rc, sp, fc, L, op, kk, su, own, ow, tr, xe, al, fl, fA, fC, fT, fP, fB, fH)) : wpX_define post (nI nC, nI nT, nI nS, nI nD, nI nB, nI nK, ls, rr, rc, sp, fc, L, op, kk, su, own, ow, tr, xe, al, fl, fA, fC, fT, fP, fB, fH) v1 v2 x := by
  unfold wpX_define
  by_cases a : tf_ow v1 nC nT
  · refine tx_isOwner_t hC hT a (br_f (by decide) ?_)
    by_cases b : tf_in v2 nS
    · exact tx_isSelector_t hS b (br_f (by decide) (br_f (fun z => h ⟨a, b, Or.inl z⟩) (tx_isBody_f hB (fun z => h ⟨a, b, Or.inr z⟩) (br_t rfl p))))
    · exact tx_isSelector_f hS b (br_t rfl p)
  · exact tx_isOwner_f hC hT a (br_t rfl p)
theorem tf_use_t {A W : Prop} {j u nT : Nat} (hT : nT ≤ 8) (hj : j < 16) (hu : u < nT) (h8 : 8 ≤ j → u + 8 < j) (w : W) : (nI u < 0 → A) ∧ (¬ nI u < 0 → ((nI u < nI nT → ((nI j < 8 → W) ∧ (¬ nI j < 8 → ((nI u < nI j - 8 → W) ∧ (¬ nI u < nI j - 8 → A))))) ∧ (¬ nI u < nI nT → A))) := by
  refine br_f (nI_pos (by omega)) (br_t (nI_lt hu (by omega)) (pk_lt j 8 (fun _ => w) (fun z => ?_)))
  have e : nI j - 8 = nI (j - 8) := pk_sub (b := 8) z
  rw [e]
  exact br_t (nI_lt (by omega) (by omega)) w
theorem tf_use_h {A W : Prop} {j u nT : Nat} (hT : nT ≤ 8) (hj : j < 16) (hu : u < nT) (h8 : 8 ≤ j ∧ j ≤ u + 8) (a : A) : (nI u < 0 → A) ∧ (¬ nI u < 0 → ((nI u < nI nT → ((nI j < 8 → W) ∧ (¬ nI j < 8 → ((nI u < nI j - 8 → W) ∧ (¬ nI u < nI j - 8 → A))))) ∧ (¬ nI u < nI nT → A))) := by
  refine br_f (nI_pos (by omega)) (br_t (nI_lt hu (by omega)) (br_f (nI_nlt (b := 8) h8.1 (by omega)) ?_))
  have e : nI j - 8 = nI (j - 8) := pk_sub (b := 8) h8.1
  rw [e]
  exact br_f (nI_nlt (by omega) (by omega)) a
theorem tx_use_t {nC nT nS nD nB nK : Nat} {ls rr rc sp fc : Int32} {L op kk su own ow tr xe al fl fA fC fT fP fB fH : Nat → Int32} {ex : Nat → Int32} {post : Int32 → St2 → Prop} (hC : nC ≤ 8) (hT : nT ≤ 8) (hS : nS ≤ 16) (hK : nK < 16) (hE : tf_EX nS xe ex) {j u : Nat} (hj : j < nC ∨ (8 ≤ j ∧ j < 8 + nT)) (hu : u < nT) (h8 : 8 ≤ j → u + 8 < j) (hV : tf_CV nT nS (nK + 1) (upd ow nK (nI j)) (upd tr nK (nI u)) al) (p : ∀ g : Nat → Int32, tf_FL nC nT nS (nK + 1) own (upd ow nK (nI j)) (upd tr nK (nI u)) ex al g → post (nI nK) (nI nC, nI nT, nI nS, nI nD, nI nB, nI (nK + 1), ls, rr, rc, sp, fc, L, op, kk, su, own, upd ow nK (nI j), upd tr nK (nI u), xe, al, g, fA, fC, fT, fP, fB, fH)) : wpX_use post (nI nC, nI nT, nI nS, nI nD, nI nB, nI nK, ls, rr, rc, sp, fc, L, op, kk, su, own, ow, tr, xe, al, fl, fA, fC, fT, fP, fB, fH) (nI j) (nI u) := by
  have w : wX_use_40 post (nI j) (nI u) (nI nC) (nI nT) (nI nS) (nI nD) (nI nB) (nI nK) ls rr rc sp fc L op kk su own ow tr xe al fl fA fC fT fP fB fH := by
    unfold wX_use_40
    rw [nI_clamp (show nK < 2 ^ 31 by omega)]
    exact pk_eq nK 16 (fun z => absurd z (by omega)) (fun _ => ⟨vp_in_nI hK (by omega), nm_e ⟨vp_in_nI hK (by omega), nm_e (nm_r (nI_1 nK) (tx_flattenAll hC hS hT (by omega) hE hV p))⟩⟩)
  unfold wpX_use
  exact tx_isOwner_t hC hT ⟨j, hj, rfl⟩ (br_f (by decide) (tf_use_t hT (by omega) hu h8 w))
theorem tx_use_f {nC nT nS nD nB nK : Nat} {ls rr rc sp fc : Int32} {L op kk su own ow tr xe al fl fA fC fT fP fB fH : Nat → Int32} {post : Int32 → St2 → Prop} (hC : nC ≤ 8) (hT : nT ≤ 8) {v1 v2 : Int32} (h : ¬ tf_ow v1 nC nT ∨ ¬ tf_in v2 nT) (p : post (-3) (nI nC, nI nT, nI nS, nI nD, nI nB, nI nK, ls, rr, rc, sp, fc, L, op, kk, su, own, ow, tr, xe, al, fl, fA, fC, fT, fP, fB, fH)) : wpX_use post (nI nC, nI nT, nI nS, nI nD, nI nB, nI nK, ls, rr, rc, sp, fc, L, op, kk, su, own, ow, tr, xe, al, fl, fA, fC, fT, fP, fB, fH) v1 v2 := by
  unfold wpX_use
  by_cases a : tf_ow v1 nC nT
  · exact tx_isOwner_t hC hT a (br_f (by decide) (tf_r2f (by omega) (h.resolve_left (fun z => z a)) p))
  · exact tx_isOwner_f hC hT a (br_t rfl p)
theorem tx_use_g {nC nT nS nD nB nK : Nat} {ls rr rc sp fc : Int32} {L op kk su own ow tr xe al fl fA fC fT fP fB fH : Nat → Int32} {post : Int32 → St2 → Prop} (hC : nC ≤ 8) (hT : nT ≤ 8) {j u : Nat} (hj : j < nC ∨ (8 ≤ j ∧ j < 8 + nT)) (hu : u < nT) (h8 : (8 ≤ j ∧ j ≤ u + 8) ∨ nK = 16) (p : post (-3) (nI nC, nI nT, nI nS, nI nD, nI nB, nI nK, ls, rr, rc, sp, fc, L, op, kk, su, own, ow, tr, xe, al, fl, fA, fC, fT, fP, fB, fH)) : wpX_use post (nI nC, nI nT, nI nS, nI nD, nI nB, nI nK, ls, rr, rc, sp, fc, L, op, kk, su, own, ow, tr, xe, al, fl, fA, fC, fT, fP, fB, fH) (nI j) (nI u) := by
  unfold wpX_use
  refine tx_isOwner_t hC hT ⟨j, hj, rfl⟩ (br_f (by decide) ?_)
  by_cases c : 8 ≤ j ∧ j ≤ u + 8
  · exact tf_use_h hT (by omega) hu c p
  · have e := h8.resolve_left c
    exact tf_use_t hT (by omega) hu (by omega) (br_t (by rw [e]; rfl) p)
