/-! one turn of a run: the component -/
theorem tx_ret_0 {nC nT nS nD nB nK : Nat} {ls rr rc sp : Int32} {L op kk su own ow tr xe al fl fA fC fT fP fB fH : Nat → Int32} {post : SX → Prop} (p : post (nI nC, nI nT, nI nS, nI nD, nI nB, nI nK, 1, fC 0, rc, sp, 0, L, op, kk, su, own, ow, tr, xe, al, fl, fA, fC, fT, fP, fB, fH)) : wpX_returnFromTopFrame post (nI nC, nI nT, nI nS, nI nD, nI nB, nI nK, ls, rr, rc, sp, nI (0 + 1), L, op, kk, su, own, ow, tr, xe, al, fl, fA, fC, fT, fP, fB, fH) := by
  unfold wpX_returnFromTopFrame
  dsimp only
  rw [nI_pred 0, nI_clamp (show 0 < 2 ^ 31 by omega)]
  exact ⟨vp_in_nI (by omega) (by omega), nm_e (nm_e (br_t rfl p))⟩
theorem tx_ret_s {nC nT nS nD nB nK : Nat} {ls rr rc sp : Int32} {L op kk su own ow tr xe al fl fA fC fT fP fB fH : Nat → Int32} {e : Nat} {post : SX → Prop} (he : e < 15) (p : post (nI nC, nI nT, nI nS, nI nD, nI nB, nI nK, ls, rr, rc, sp, nI (e + 1), L, op, kk, su, own, ow, tr, xe, al, fl, fA, upd fC e (fC (e + 1)), fT, fP, fB, fH)) : wpX_returnFromTopFrame post (nI nC, nI nT, nI nS, nI nD, nI nB, nI nK, ls, rr, rc, sp, nI (e + 1 + 1), L, op, kk, su, own, ow, tr, xe, al, fl, fA, fC, fT, fP, fB, fH) := by
  unfold wpX_returnFromTopFrame
  dsimp only
  rw [nI_pred (e + 1), nI_clamp (show e + 1 < 2 ^ 31 by omega)]
  refine ⟨vp_in_nI (by omega) (by omega), nm_e (nm_e (br_f (nI_ne0 (by omega) (by omega)) ?_))⟩
  rw [nI_pred e, nI_clamp (show e < 2 ^ 31 by omega)]
  exact ⟨vp_in_nI (by omega) (by omega), nm_e p⟩
theorem tx_ex_0 {nC nT nS nD nB nK : Nat} {ls rr rc sp fc : Int32} {L op kk su own ow tr xe al fl fA fC fT fP fB fH : Nat → Int32} {e i : Nat} {post : SX → Prop} (he : e < 16) (hi : i < 256) (ho : op i = nI 0) (p : post (nI nC, nI nT, nI nS, nI nD, nI nB, nI nK, ls, rr, rc, sp, fc, L, op, kk, su, own, ow, tr, xe, al, fl, fA, upd fC e (fA e), fT, fP, fB, fH)) : wpX_execute post (nI nC, nI nT, nI nS, nI nD, nI nB, nI nK, ls, rr, rc, sp, fc, L, op, kk, su, own, ow, tr, xe, al, fl, fA, fC, fT, fP, fB, fH) (nI e) (nI i) := by
  unfold wpX_execute
  dsimp only
  rw [nI_clamp (show i < 2 ^ 31 by omega), nI_clamp (show e < 2 ^ 31 by omega)]
  have v16 : vp_in (nI e) 16 := vp_in_nI he (by omega)
  exact ⟨vp_in_nI hi (by omega), nm_e ⟨vp_in_nI hi (by omega), nm_r ho (br_f (by decide) (br_f (by decide) (br_t rfl ⟨v16, v16, nm_e p⟩)))⟩⟩
theorem tx_ex_1 {nC nT nS nD nB nK : Nat} {ls rr rc sp fc : Int32} {L op kk su own ow tr xe al fl fA fC fT fP fB fH : Nat → Int32} {e i : Nat} {post : SX → Prop} (he : e < 16) (hi : i < 256) (ho : op i = nI 1) (p : post (nI nC, nI nT, nI nS, nI nD, nI nB, nI nK, ls, rr, rc, sp, fc, L, op, kk, su, own, ow, tr, xe, al, fl, fA, upd fC e (kk i), fT, fP, fB, fH)) : wpX_execute post (nI nC, nI nT, nI nS, nI nD, nI nB, nI nK, ls, rr, rc, sp, fc, L, op, kk, su, own, ow, tr, xe, al, fl, fA, fC, fT, fP, fB, fH) (nI e) (nI i) := by
  unfold wpX_execute
  dsimp only
  rw [nI_clamp (show i < 2 ^ 31 by omega), nI_clamp (show e < 2 ^ 31 by omega)]
  have v16 : vp_in (nI e) 16 := vp_in_nI he (by omega)
  exact ⟨vp_in_nI hi (by omega), nm_e ⟨vp_in_nI hi (by omega), nm_r ho (br_f (by decide) (br_f (by decide) (br_f (by decide) (br_t rfl ⟨v16, nm_e p⟩))))⟩⟩
theorem tx_ex_2 {nC nT nS nD nB nK : Nat} {ls rr rc sp fc : Int32} {L op kk su own ow tr xe al fl fA fC fT fP fB fH : Nat → Int32} {e i : Nat} {post : SX → Prop} (he : e < 16) (hi : i < 256) (ho : op i = nI 2) (p : post (nI nC, nI nT, nI nS, nI nD, nI nB, nI nK, ls, rr, rc, sp, fc, L, op, kk, su, own, ow, tr, xe, al, fl, fA, upd fC e (fC e + kk i), fT, fP, fB, fH)) : wpX_execute post (nI nC, nI nT, nI nS, nI nD, nI nB, nI nK, ls, rr, rc, sp, fc, L, op, kk, su, own, ow, tr, xe, al, fl, fA, fC, fT, fP, fB, fH) (nI e) (nI i) := by
  unfold wpX_execute
  dsimp only
  rw [nI_clamp (show i < 2 ^ 31 by omega), nI_clamp (show e < 2 ^ 31 by omega)]
  have v16 : vp_in (nI e) 16 := vp_in_nI he (by omega)
  exact ⟨vp_in_nI hi (by omega), nm_e ⟨vp_in_nI hi (by omega), nm_r ho (br_f (by decide) (br_f (by decide) (br_f (by decide) (br_f (by decide) (br_t rfl ⟨v16, v16, nm_e p⟩)))))⟩⟩
theorem tx_ex_3 {nC nT nS nD nB nK : Nat} {ls rr rc sp fc : Int32} {L op kk su own ow tr xe al fl fA fC fT fP fB fH : Nat → Int32} {e i : Nat} {post : SX → Prop} (he : e < 16) (hi : i < 256) (ho : op i = nI 3) (p : post (nI nC, nI nT, nI nS, nI nD, nI nB, nI nK, ls, rr, rc, sp, fc, L, op, kk, su, own, ow, tr, xe, al, fl, fA, upd fC e (fC e * kk i), fT, fP, fB, fH)) : wpX_execute post (nI nC, nI nT, nI nS, nI nD, nI nB, nI nK, ls, rr, rc, sp, fc, L, op, kk, su, own, ow, tr, xe, al, fl, fA, fC, fT, fP, fB, fH) (nI e) (nI i) := by
  unfold wpX_execute
  dsimp only
  rw [nI_clamp (show i < 2 ^ 31 by omega), nI_clamp (show e < 2 ^ 31 by omega)]
  have v16 : vp_in (nI e) 16 := vp_in_nI he (by omega)
  exact ⟨vp_in_nI hi (by omega), nm_e ⟨vp_in_nI hi (by omega), nm_r ho (br_f (by decide) (br_f (by decide) (br_f (by decide) (br_f (by decide) (br_f (by decide) (br_t rfl ⟨v16, v16, nm_e p⟩))))))⟩⟩
theorem tx_ex_4 {nC nT nS nD nB nK : Nat} {ls rr rc sp fc : Int32} {L op kk su own ow tr xe al fl fA fC fT fP fB fH : Nat → Int32} {e i : Nat} {post : SX → Prop} (he : e < 16) (hi : i < 256) (ho : op i = nI 4) (p : post (nI nC, nI nT, nI nS, nI nD, nI nB, nI nK, ls, rr, rc, sp, fc, L, op, kk, su, own, ow, tr, xe, al, fl, fA, fC, upd fT e (fC e), fP, fB, fH)) : wpX_execute post (nI nC, nI nT, nI nS, nI nD, nI nB, nI nK, ls, rr, rc, sp, fc, L, op, kk, su, own, ow, tr, xe, al, fl, fA, fC, fT, fP, fB, fH) (nI e) (nI i) := by
  unfold wpX_execute
  dsimp only
  rw [nI_clamp (show i < 2 ^ 31 by omega), nI_clamp (show e < 2 ^ 31 by omega)]
  have v16 : vp_in (nI e) 16 := vp_in_nI he (by omega)
  exact ⟨vp_in_nI hi (by omega), nm_e ⟨vp_in_nI hi (by omega), nm_r ho (br_f (by decide) (br_f (by decide) (br_f (by decide) (br_f (by decide) (br_f (by decide) (br_f (by decide) (br_t rfl ⟨v16, v16, nm_e p⟩)))))))⟩⟩
theorem tx_ex_5 {nC nT nS nD nB nK : Nat} {ls rr rc sp fc : Int32} {L op kk su own ow tr xe al fl fA fC fT fP fB fH : Nat → Int32} {e i : Nat} {post : SX → Prop} (he : e < 16) (hi : i < 256) (ho : op i = nI 5) (p : post (nI nC, nI nT, nI nS, nI nD, nI nB, nI nK, ls, rr, rc, sp, fc, L, op, kk, su, own, ow, tr, xe, al, fl, fA, upd fC e (fC e + fT e), fT, fP, fB, fH)) : wpX_execute post (nI nC, nI nT, nI nS, nI nD, nI nB, nI nK, ls, rr, rc, sp, fc, L, op, kk, su, own, ow, tr, xe, al, fl, fA, fC, fT, fP, fB, fH) (nI e) (nI i) := by
  unfold wpX_execute
  dsimp only
  rw [nI_clamp (show i < 2 ^ 31 by omega), nI_clamp (show e < 2 ^ 31 by omega)]
  have v16 : vp_in (nI e) 16 := vp_in_nI he (by omega)
  exact ⟨vp_in_nI hi (by omega), nm_e ⟨vp_in_nI hi (by omega), nm_r ho (br_f (by decide) (br_f (by decide) (br_f (by decide) (br_f (by decide) (br_f (by decide) (br_f (by decide) (br_f (by decide) (br_t rfl ⟨v16, v16, v16, nm_e p⟩))))))))⟩⟩
theorem tx_ex_8r {nC nT nS nD nB nK : Nat} {ls rr rc sp : Int32} {L op kk su own ow tr xe al fl fA fC fT fP fB fH : Nat → Int32} {e i : Nat} {post : SX → Prop} (he : e < 15) (hi : i < 256) (ho : op i = nI 8) (p : post (nI nC, nI nT, nI nS, nI nD, nI nB, nI nK, ls, rr, rc, sp, nI (e + 1), L, op, kk, su, own, ow, tr, xe, al, fl, fA, upd fC e (fC (e + 1)), fT, fP, fB, fH)) : wpX_execute post (nI nC, nI nT, nI nS, nI nD, nI nB, nI nK, ls, rr, rc, sp, nI (e + 1 + 1), L, op, kk, su, own, ow, tr, xe, al, fl, fA, fC, fT, fP, fB, fH) (nI (e + 1)) (nI i) := by
  unfold wpX_execute
  dsimp only
  rw [nI_clamp (show i < 2 ^ 31 by omega)]
  exact ⟨vp_in_nI hi (by omega), nm_e ⟨vp_in_nI hi (by omega), nm_r ho (br_f (by decide) (br_t (by decide) (tx_ret_s he p)))⟩⟩
theorem tx_ex_8e {nC nT nS nD nB nK : Nat} {ls rr rc sp : Int32} {L op kk su own ow tr xe al fl fA fC fT fP fB fH : Nat → Int32} {i : Nat} {x : Int32} {post : SX → Prop} (hi : i < 256) (ho : op i = nI 8) (p : post (nI nC, nI nT, nI nS, nI nD, nI nB, nI nK, 1, fC 0, rc, sp, 0, L, op, kk, su, own, ow, tr, xe, al, fl, fA, fC, fT, fP, fB, fH)) : wpX_execute post (nI nC, nI nT, nI nS, nI nD, nI nB, nI nK, ls, rr, rc, sp, nI (0 + 1), L, op, kk, su, own, ow, tr, xe, al, fl, fA, fC, fT, fP, fB, fH) x (nI i) := by
  unfold wpX_execute
  dsimp only
  rw [nI_clamp (show i < 2 ^ 31 by omega)]
  exact ⟨vp_in_nI hi (by omega), nm_e ⟨vp_in_nI hi (by omega), nm_r ho (br_f (by decide) (br_t (by decide) (tx_ret_0 p)))⟩⟩
theorem tx_ex_6e {nC nT nS nD nB nK : Nat} {ls rr rc sp : Int32} {L op kk su own ow tr xe al fl fA fC fT fP fB fH : Nat → Int32} {ex : Nat → Int32} {e i d s : Nat} {z : Int32} {post : SX → Prop} (hC : nC ≤ 8) (hS : nS ≤ 16) (hB : nB ≤ 16) (hD : nD ≤ 16) (hF : tf_FL nC nT nS nK own ow tr ex al fl) (hU : tf_SV nC su) (he : e < 16) (hi : i < 256) (ho : op i = nI 6) (hs : s < nS) (ks : kk i = nI s) (hx : tf_cl nC rc) (hd : d ≤ nD) (q : tf_SE nC nB nD d su (fun c => tf_PR own ow tr ex al nK c s) (rc) z) (p : post (nI nC, nI nT, nI nS, nI nD, nI nB, nI nK, z, 0, rc, sp, 0, L, op, kk, su, own, ow, tr, xe, al, fl, fA, fC, fT, fP, fB, fH)) : wpX_execute post (nI nC, nI nT, nI nS, nI nD, nI nB, nI nK, ls, rr, rc, sp, nI d, L, op, kk, su, own, ow, tr, xe, al, fl, fA, fC, fT, fP, fB, fH) (nI e) (nI i) := by
  unfold wpX_execute
  dsimp only
  rw [nI_clamp (show i < 2 ^ 31 by omega), nI_clamp (show e < 2 ^ 31 by omega), ks]
  have v16 : vp_in (nI e) 16 := vp_in_nI he (by omega)
  exact ⟨vp_in_nI hi (by omega), nm_e ⟨vp_in_nI hi (by omega), nm_r ho (br_f (by decide) (br_f (by decide) (br_f (by decide) (br_f (by decide) (br_f (by decide) (br_f (by decide) (br_f (by decide) (br_f (by decide) (br_t rfl ⟨v16, tx_send_e hC hS hB hD hF hU hs hx hd q p⟩)))))))))⟩⟩
theorem tx_ex_6p {nC nT nS nD nB nK : Nat} {ls rr rc sp : Int32} {L op kk su own ow tr xe al fl fA fC fT fP fB fH : Nat → Int32} {ex : Nat → Int32} {e i d s b' h' : Nat} {post : SX → Prop} (hC : nC ≤ 8) (hS : nS ≤ 16) (hB : nB ≤ 16) (hD : nD ≤ 16) (hF : tf_FL nC nT nS nK own ow tr ex al fl) (hU : tf_SV nC su) (he : e < 16) (hi : i < 256) (ho : op i = nI 6) (hs : s < nS) (ks : kk i = nI s) (hx : tf_cl nC rc) (q : tf_SP nC nB nD d su (fun c => tf_PR own ow tr ex al nK c s) (rc) b' h') (p : post (nI nC, nI nT, nI nS, nI nD, nI nB, nI nK, ls, rr, rc, sp, nI (d + 1), L, op, kk, su, own, ow, tr, xe, al, fl, upd fA d (fC e), upd fC d (fC e), upd fT d 0, upd fP d 0, upd fB d (nI b'), upd fH d (nI h'))) : wpX_execute post (nI nC, nI nT, nI nS, nI nD, nI nB, nI nK, ls, rr, rc, sp, nI d, L, op, kk, su, own, ow, tr, xe, al, fl, fA, fC, fT, fP, fB, fH) (nI e) (nI i) := by
  unfold wpX_execute
  dsimp only
  rw [nI_clamp (show i < 2 ^ 31 by omega), nI_clamp (show e < 2 ^ 31 by omega), ks]
  have v16 : vp_in (nI e) 16 := vp_in_nI he (by omega)
  exact ⟨vp_in_nI hi (by omega), nm_e ⟨vp_in_nI hi (by omega), nm_r ho (br_f (by decide) (br_f (by decide) (br_f (by decide) (br_f (by decide) (br_f (by decide) (br_f (by decide) (br_f (by decide) (br_f (by decide) (br_t rfl ⟨v16, tx_send_p hC hS hB hD hF hU hs hx q p⟩)))))))))⟩⟩
theorem tx_ex_7e {nC nT nS nD nB nK : Nat} {ls rr rc sp : Int32} {L op kk su own ow tr xe al fl fA fC fT fP fB fH : Nat → Int32} {ex : Nat → Int32} {e i d s : Nat} {h : Nat} {z : Int32} {post : SX → Prop} (hC : nC ≤ 8) (hS : nS ≤ 16) (hB : nB ≤ 16) (hD : nD ≤ 16) (hF : tf_FL nC nT nS nK own ow tr ex al fl) (hU : tf_SV nC su) (he : e < 16) (hi : i < 256) (ho : op i = nI 7) (hs : s < nS) (ks : kk i = nI s) (hh : h < nC) (eh : fH e = nI h) (hx : tf_cl nC (su h)) (hd : d ≤ nD) (q : tf_SE nC nB nD d su (fun c => tf_PR own ow tr ex al nK c s) (su h) z) (p : post (nI nC, nI nT, nI nS, nI nD, nI nB, nI nK, z, 0, rc, sp, 0, L, op, kk, su, own, ow, tr, xe, al, fl, fA, fC, fT, fP, fB, fH)) : wpX_execute post (nI nC, nI nT, nI nS, nI nD, nI nB, nI nK, ls, rr, rc, sp, nI d, L, op, kk, su, own, ow, tr, xe, al, fl, fA, fC, fT, fP, fB, fH) (nI e) (nI i) := by
  unfold wpX_execute
  dsimp only
  rw [nI_clamp (show i < 2 ^ 31 by omega), nI_clamp (show e < 2 ^ 31 by omega), ks, eh, nI_clamp (show h < 2 ^ 31 by omega)]
  have v16 : vp_in (nI e) 16 := vp_in_nI he (by omega)
  have v8 : vp_in (nI h) 8 := vp_in_nI (by omega) (by omega)
  exact ⟨vp_in_nI hi (by omega), nm_e ⟨vp_in_nI hi (by omega), nm_r ho (br_f (by decide) (br_f (by decide) (br_f (by decide) (br_f (by decide) (br_f (by decide) (br_f (by decide) (br_f (by decide) (br_f (by decide) (br_f (by decide) (br_t rfl ⟨v16, v16, v8, tx_send_e hC hS hB hD hF hU hs hx hd q p⟩))))))))))⟩⟩
theorem tx_ex_7p {nC nT nS nD nB nK : Nat} {ls rr rc sp : Int32} {L op kk su own ow tr xe al fl fA fC fT fP fB fH : Nat → Int32} {ex : Nat → Int32} {e i d s b' h' : Nat} {h : Nat} {post : SX → Prop} (hC : nC ≤ 8) (hS : nS ≤ 16) (hB : nB ≤ 16) (hD : nD ≤ 16) (hF : tf_FL nC nT nS nK own ow tr ex al fl) (hU : tf_SV nC su) (he : e < 16) (hi : i < 256) (ho : op i = nI 7) (hs : s < nS) (ks : kk i = nI s) (hh : h < nC) (eh : fH e = nI h) (hx : tf_cl nC (su h)) (q : tf_SP nC nB nD d su (fun c => tf_PR own ow tr ex al nK c s) (su h) b' h') (p : post (nI nC, nI nT, nI nS, nI nD, nI nB, nI nK, ls, rr, rc, sp, nI (d + 1), L, op, kk, su, own, ow, tr, xe, al, fl, upd fA d (fC e), upd fC d (fC e), upd fT d 0, upd fP d 0, upd fB d (nI b'), upd fH d (nI h'))) : wpX_execute post (nI nC, nI nT, nI nS, nI nD, nI nB, nI nK, ls, rr, rc, sp, nI d, L, op, kk, su, own, ow, tr, xe, al, fl, fA, fC, fT, fP, fB, fH) (nI e) (nI i) := by
  unfold wpX_execute
  dsimp only
  rw [nI_clamp (show i < 2 ^ 31 by omega), nI_clamp (show e < 2 ^ 31 by omega), ks, eh, nI_clamp (show h < 2 ^ 31 by omega)]
  have v16 : vp_in (nI e) 16 := vp_in_nI he (by omega)
  have v8 : vp_in (nI h) 8 := vp_in_nI (by omega) (by omega)
  exact ⟨vp_in_nI hi (by omega), nm_e ⟨vp_in_nI hi (by omega), nm_r ho (br_f (by decide) (br_f (by decide) (br_f (by decide) (br_f (by decide) (br_f (by decide) (br_f (by decide) (br_f (by decide) (br_f (by decide) (br_f (by decide) (br_t rfl ⟨v16, v16, v8, tx_send_p hC hS hB hD hF hU hs hx q p⟩))))))))))⟩⟩
/-- a turn that makes a step: what execute gives, the turn gives -/
theorem tx_act_x {nC nT nS nD nB nK : Nat} {ls rr rc : Int32} {L op kk su own ow tr xe al fl fA fC fT fP fB fH : Nat → Int32} {e s b p l : Nat} {post : SX → Prop} {u' : SX} (he : e < 16) (hb : b < 16) (hl : l ≤ 16) (hp : p < l) (hs : s < 1000) (eB : fB e = nI b) (eP : fP e = nI p) (eL : L b = nI l) (x : ∀ ψ : SX → Prop, ψ u' → wpX_execute ψ (nI nC, nI nT, nI nS, nI nD, nI nB, nI nK, ls, rr, rc, nI (s + 1), nI (e + 1), L, op, kk, su, own, ow, tr, xe, al, fl, fA, fC, fT, upd fP e (nI (p + 1)), fB, fH) (nI e) (nI (b * 16 + p))) (q : post u') : wpX_actOnTopFrame post (nI nC, nI nT, nI nS, nI nD, nI nB, nI nK, ls, rr, rc, nI s, nI (e + 1), L, op, kk, su, own, ow, tr, xe, al, fl, fA, fC, fT, fP, fB, fH) := by
  unfold wpX_actOnTopFrame
  dsimp only
  have v16 : vp_in (nI e) 16 := vp_in_nI he (by omega)
  refine nm_r (nI_pred e) ?_
  rw [nI_clamp (show e < 2 ^ 31 by omega)]
  refine ⟨v16, nm_r eB ⟨v16, nm_r eP ⟨vp_in_nI hb (by omega), ?_⟩⟩⟩
  rw [nI_clamp (show b < 2 ^ 31 by omega), eL, tf_ix, nI_1 p]
  exact pk_eq p l (fun z => absurd z (by omega)) (fun _ => pk_eq s 1000 (fun z => absurd z (by omega)) (fun _ => nm_r (nI_1 s) ⟨v16, nm_e (x _ q)⟩))
theorem tx_act_t {nC nT nS nD nB nK : Nat} {ls rr rc : Int32} {L op kk su own ow tr xe al fl fA fC fT fP fB fH : Nat → Int32} {e b p l : Nat} {post : SX → Prop} (he : e < 16) (hb : b < 16) (hl : l ≤ 16) (hp : p < l) (eB : fB e = nI b) (eP : fP e = nI p) (eL : L b = nI l) (q : post (nI nC, nI nT, nI nS, nI nD, nI nB, nI nK, 5, 0, rc, nI 1000, 0, L, op, kk, su, own, ow, tr, xe, al, fl, fA, fC, fT, fP, fB, fH)) : wpX_actOnTopFrame post (nI nC, nI nT, nI nS, nI nD, nI nB, nI nK, ls, rr, rc, nI 1000, nI (e + 1), L, op, kk, su, own, ow, tr, xe, al, fl, fA, fC, fT, fP, fB, fH) := by
  unfold wpX_actOnTopFrame
  dsimp only
  have v16 : vp_in (nI e) 16 := vp_in_nI he (by omega)
  refine nm_r (nI_pred e) ?_
  rw [nI_clamp (show e < 2 ^ 31 by omega)]
  refine ⟨v16, nm_r eB ⟨v16, nm_r eP ⟨vp_in_nI hb (by omega), ?_⟩⟩⟩
  rw [nI_clamp (show b < 2 ^ 31 by omega), eL]
  exact pk_eq p l (fun z => absurd z (by omega)) (fun _ => br_t rfl q)
theorem tx_act_r {nC nT nS nD nB nK : Nat} {ls rr rc sp : Int32} {L op kk su own ow tr xe al fl fA fC fT fP fB fH : Nat → Int32} {e b l : Nat} {post : SX → Prop} {u' : SX} (he : e < 16) (hb : b < 16) (eB : fB e = nI b) (eP : fP e = nI l) (eL : L b = nI l) (x : ∀ ψ : SX → Prop, ψ u' → wpX_returnFromTopFrame ψ (nI nC, nI nT, nI nS, nI nD, nI nB, nI nK, ls, rr, rc, sp, nI (e + 1), L, op, kk, su, own, ow, tr, xe, al, fl, fA, fC, fT, fP, fB, fH)) (q : post u') : wpX_actOnTopFrame post (nI nC, nI nT, nI nS, nI nD, nI nB, nI nK, ls, rr, rc, sp, nI (e + 1), L, op, kk, su, own, ow, tr, xe, al, fl, fA, fC, fT, fP, fB, fH) := by
  unfold wpX_actOnTopFrame
  dsimp only
  have v16 : vp_in (nI e) 16 := vp_in_nI he (by omega)
  refine nm_r (nI_pred e) ?_
  rw [nI_clamp (show e < 2 ^ 31 by omega)]
  refine ⟨v16, nm_r eB ⟨v16, nm_r eP ⟨vp_in_nI hb (by omega), ?_⟩⟩⟩
  rw [nI_clamp (show b < 2 ^ 31 by omega), eL]
  exact br_t rfl (x _ q)
