/-! one turn of a run: the reference -/
theorem ty_ret_0 {nC nT nS nD nB nK : Nat} {rs st : Int32} {op kk L su own ow tr ex al tp fB fH fA fC fT fP : Nat → Int32} {post : Int32 → SY → Prop} {x : Int32} (p : post 1 (nI nC, nI nT, nI nS, nI nD, nI nB, nI nK, 0, x, st, op, kk, L, su, own, ow, tr, ex, al, tp, fB, fH, fA, fC, fT, fP)) : wpY_ret post (nI nC, nI nT, nI nS, nI nD, nI nB, nI nK, nI (0 + 1), rs, st, op, kk, L, su, own, ow, tr, ex, al, tp, fB, fH, fA, fC, fT, fP) x := by
  unfold wpY_ret
  exact nm_r (nI_pred 0) (br_f (by decide) p)
theorem ty_ret_s {nC nT nS nD nB nK : Nat} {rs st : Int32} {op kk L su own ow tr ex al tp fB fH fA fC fT fP : Nat → Int32} {e : Nat} {post : Int32 → SY → Prop} {x : Int32} (he : e < 15) (p : post 0 (nI nC, nI nT, nI nS, nI nD, nI nB, nI nK, nI (e + 1), rs, st, op, kk, L, su, own, ow, tr, ex, al, tp, fB, fH, fA, upd fC e x, fT, fP)) : wpY_ret post (nI nC, nI nT, nI nS, nI nD, nI nB, nI nK, nI (e + 1 + 1), rs, st, op, kk, L, su, own, ow, tr, ex, al, tp, fB, fH, fA, fC, fT, fP) x := by
  unfold wpY_ret
  refine nm_r (nI_pred (e + 1)) (br_t (nI_lt (a := 0) (by omega) (by omega)) ?_)
  rw [nI_pred e, nI_clamp (show e < 2 ^ 31 by omega)]
  exact ⟨vp_in_nI (by omega) (by omega), nm_e p⟩
theorem ty_end_1 {nC nT nS nD nB nK : Nat} {dp rs st : Int32} {op kk L su own ow tr ex al tp fB fH fA fC fT fP : Nat → Int32} {post : Int32 → SY → Prop} {c x4 : Int32} {n t : Nat} (ht : t < 4000) (p : post rs (nI nC, nI nT, nI nS, nI nD, nI nB, nI nK, 0, rs, 1, op, kk, L, su, own, ow, tr, ex, al, tp, fB, fH, fA, fC, fT, fP)) : wY_run_47 post c (n + 1) x4 1 (nI t) (nI nC) (nI nT) (nI nS) (nI nD) (nI nB) (nI nK) dp rs st op kk L su own ow tr ex al tp fB fH fA fC fT fP := br_f (nI_ge (b := 4000) ht (by omega)) (br_f (by decide) (br_f (by decide) (br_t rfl p)))
theorem ty_end_z {nC nT nS nD nB nK : Nat} {dp rs st : Int32} {op kk L su own ow tr ex al tp fB fH fA fC fT fP : Nat → Int32} {post : Int32 → SY → Prop} {c x4 z : Int32} {n t : Nat} (ht : t < 4000) (h0 : ¬ z = 0) (h1 : ¬ z = 1) (p : post 0 (nI nC, nI nT, nI nS, nI nD, nI nB, nI nK, 0, rs, z, op, kk, L, su, own, ow, tr, ex, al, tp, fB, fH, fA, fC, fT, fP)) : wY_run_47 post c (n + 1) x4 z (nI t) (nI nC) (nI nT) (nI nS) (nI nD) (nI nB) (nI nK) dp rs st op kk L su own ow tr ex al tp fB fH fA fC fT fP := br_f (nI_ge (b := 4000) ht (by omega)) (br_f h0 (br_f h0 (br_f h1 p)))
theorem tx_end {nC nT nS nD nB nK : Nat} {ls rr rc sp : Int32} {L op kk su own ow tr xe al fl fA fC fT fP fB fH : Nat → Int32} {post : Int32 → SX → Prop} {n t : Nat} (ht : t < 1000000) (p : post rr (nI nC, nI nT, nI nS, nI nD, nI nB, nI nK, ls, rr, rc, sp, 0, L, op, kk, su, own, ow, tr, xe, al, fl, fA, fC, fT, fP, fB, fH)) : wX_run_43 post (n + 1) (nI t) (nI nC) (nI nT) (nI nS) (nI nD) (nI nB) (nI nK) ls rr rc sp 0 L op kk su own ow tr xe al fl fA fC fT fP fB fH := br_f (nI_ge (b := 1000000) ht (by omega)) (br_t (by decide) p)
theorem ty_st_0 {nC nT nS nD nB nK : Nat} {rs st : Int32} {op kk L su own ow tr ex al tp fB fH fA fC fT fP : Nat → Int32} {c : Int32} {e s b p l n t : Nat} {post : Int32 → SY → Prop} (he : e < 16) (hb : b < 16) (hl : l ≤ 16) (hp : p < l) (hs : s < 1000) (ht : t < 4000) (eB : fB e = nI b) (eP : fP e = nI p) (eL : L b = nI l) (ho : op (b * 16 + p) = nI 0) (q : wY_run_47 post c n (nI (s + 1)) 0 (nI (t + 1)) (nI nC) (nI nT) (nI nS) (nI nD) (nI nB) (nI nK) (nI (e + 1)) rs st op kk L su own ow tr ex al tp fB fH fA (upd fC e (fA e)) fT (upd fP e (nI (p + 1)))) : wY_run_47 post c (n + 1) (nI s) 0 (nI t) (nI nC) (nI nT) (nI nS) (nI nD) (nI nB) (nI nK) (nI (e + 1)) rs st op kk L su own ow tr ex al tp fB fH fA fC fT fP := by
  have v16 : vp_in (nI e) 16 := vp_in_nI he (by omega)
  have v256 : vp_in (nI (b * 16 + p)) 256 := vp_in_nI (by omega) (by omega)
  refine br_f (nI_ge (b := 4000) ht (by omega)) (br_t rfl (nm_r (nI_pred e) ?_))
  rw [nI_clamp (show e < 2 ^ 31 by omega)]
  refine ⟨v16, nm_r eB ⟨v16, vp_in_nI hb (by omega), ?_⟩⟩
  rw [nI_clamp (show b < 2 ^ 31 by omega), eP, eL, tf_ix b p, nI_1 p]
  refine br_t (nI_lt hp (by omega)) (pk_eq s 1000 (fun z => absurd z (by omega)) (fun _ => nm_r (nI_1 s) ⟨v16, nm_e ⟨v16, v16, nm_e ?_⟩⟩))
  rw [nI_clamp (show b * 16 + p < 2 ^ 31 by omega)]
  exact ⟨v256, nm_r ho ⟨v256, nm_e (br_t rfl ⟨v16, v16, nm_e (nm_r (nI_1 t) q)⟩)⟩⟩
theorem ty_st_1 {nC nT nS nD nB nK : Nat} {rs st : Int32} {op kk L su own ow tr ex al tp fB fH fA fC fT fP : Nat → Int32} {c : Int32} {e s b p l n t : Nat} {post : Int32 → SY → Prop} (he : e < 16) (hb : b < 16) (hl : l ≤ 16) (hp : p < l) (hs : s < 1000) (ht : t < 4000) (eB : fB e = nI b) (eP : fP e = nI p) (eL : L b = nI l) (ho : op (b * 16 + p) = nI 1) (q : wY_run_47 post c n (nI (s + 1)) 0 (nI (t + 1)) (nI nC) (nI nT) (nI nS) (nI nD) (nI nB) (nI nK) (nI (e + 1)) rs st op kk L su own ow tr ex al tp fB fH fA (upd fC e (kk (b * 16 + p))) fT (upd fP e (nI (p + 1)))) : wY_run_47 post c (n + 1) (nI s) 0 (nI t) (nI nC) (nI nT) (nI nS) (nI nD) (nI nB) (nI nK) (nI (e + 1)) rs st op kk L su own ow tr ex al tp fB fH fA fC fT fP := by
  have v16 : vp_in (nI e) 16 := vp_in_nI he (by omega)
  have v256 : vp_in (nI (b * 16 + p)) 256 := vp_in_nI (by omega) (by omega)
  refine br_f (nI_ge (b := 4000) ht (by omega)) (br_t rfl (nm_r (nI_pred e) ?_))
  rw [nI_clamp (show e < 2 ^ 31 by omega)]
  refine ⟨v16, nm_r eB ⟨v16, vp_in_nI hb (by omega), ?_⟩⟩
  rw [nI_clamp (show b < 2 ^ 31 by omega), eP, eL, tf_ix b p, nI_1 p]
  refine br_t (nI_lt hp (by omega)) (pk_eq s 1000 (fun z => absurd z (by omega)) (fun _ => nm_r (nI_1 s) ⟨v16, nm_e ⟨v16, v16, nm_e ?_⟩⟩))
  rw [nI_clamp (show b * 16 + p < 2 ^ 31 by omega)]
  exact ⟨v256, nm_r ho ⟨v256, nm_e (br_f (by decide) (br_t rfl ⟨v16, nm_e (nm_r (nI_1 t) q)⟩))⟩⟩
theorem ty_st_2 {nC nT nS nD nB nK : Nat} {rs st : Int32} {op kk L su own ow tr ex al tp fB fH fA fC fT fP : Nat → Int32} {c : Int32} {e s b p l n t : Nat} {post : Int32 → SY → Prop} (he : e < 16) (hb : b < 16) (hl : l ≤ 16) (hp : p < l) (hs : s < 1000) (ht : t < 4000) (eB : fB e = nI b) (eP : fP e = nI p) (eL : L b = nI l) (ho : op (b * 16 + p) = nI 2) (q : wY_run_47 post c n (nI (s + 1)) 0 (nI (t + 1)) (nI nC) (nI nT) (nI nS) (nI nD) (nI nB) (nI nK) (nI (e + 1)) rs st op kk L su own ow tr ex al tp fB fH fA (upd fC e (fC e + kk (b * 16 + p))) fT (upd fP e (nI (p + 1)))) : wY_run_47 post c (n + 1) (nI s) 0 (nI t) (nI nC) (nI nT) (nI nS) (nI nD) (nI nB) (nI nK) (nI (e + 1)) rs st op kk L su own ow tr ex al tp fB fH fA fC fT fP := by
  have v16 : vp_in (nI e) 16 := vp_in_nI he (by omega)
  have v256 : vp_in (nI (b * 16 + p)) 256 := vp_in_nI (by omega) (by omega)
  refine br_f (nI_ge (b := 4000) ht (by omega)) (br_t rfl (nm_r (nI_pred e) ?_))
  rw [nI_clamp (show e < 2 ^ 31 by omega)]
  refine ⟨v16, nm_r eB ⟨v16, vp_in_nI hb (by omega), ?_⟩⟩
  rw [nI_clamp (show b < 2 ^ 31 by omega), eP, eL, tf_ix b p, nI_1 p]
  refine br_t (nI_lt hp (by omega)) (pk_eq s 1000 (fun z => absurd z (by omega)) (fun _ => nm_r (nI_1 s) ⟨v16, nm_e ⟨v16, v16, nm_e ?_⟩⟩))
  rw [nI_clamp (show b * 16 + p < 2 ^ 31 by omega)]
  exact ⟨v256, nm_r ho ⟨v256, nm_e (br_f (by decide) (br_f (by decide) (br_t rfl ⟨v16, v16, nm_e (nm_r (nI_1 t) q)⟩)))⟩⟩
theorem ty_st_3 {nC nT nS nD nB nK : Nat} {rs st : Int32} {op kk L su own ow tr ex al tp fB fH fA fC fT fP : Nat → Int32} {c : Int32} {e s b p l n t : Nat} {post : Int32 → SY → Prop} (he : e < 16) (hb : b < 16) (hl : l ≤ 16) (hp : p < l) (hs : s < 1000) (ht : t < 4000) (eB : fB e = nI b) (eP : fP e = nI p) (eL : L b = nI l) (ho : op (b * 16 + p) = nI 3) (q : wY_run_47 post c n (nI (s + 1)) 0 (nI (t + 1)) (nI nC) (nI nT) (nI nS) (nI nD) (nI nB) (nI nK) (nI (e + 1)) rs st op kk L su own ow tr ex al tp fB fH fA (upd fC e (fC e * kk (b * 16 + p))) fT (upd fP e (nI (p + 1)))) : wY_run_47 post c (n + 1) (nI s) 0 (nI t) (nI nC) (nI nT) (nI nS) (nI nD) (nI nB) (nI nK) (nI (e + 1)) rs st op kk L su own ow tr ex al tp fB fH fA fC fT fP := by
  have v16 : vp_in (nI e) 16 := vp_in_nI he (by omega)
  have v256 : vp_in (nI (b * 16 + p)) 256 := vp_in_nI (by omega) (by omega)
  refine br_f (nI_ge (b := 4000) ht (by omega)) (br_t rfl (nm_r (nI_pred e) ?_))
  rw [nI_clamp (show e < 2 ^ 31 by omega)]
  refine ⟨v16, nm_r eB ⟨v16, vp_in_nI hb (by omega), ?_⟩⟩
  rw [nI_clamp (show b < 2 ^ 31 by omega), eP, eL, tf_ix b p, nI_1 p]
  refine br_t (nI_lt hp (by omega)) (pk_eq s 1000 (fun z => absurd z (by omega)) (fun _ => nm_r (nI_1 s) ⟨v16, nm_e ⟨v16, v16, nm_e ?_⟩⟩))
  rw [nI_clamp (show b * 16 + p < 2 ^ 31 by omega)]
  exact ⟨v256, nm_r ho ⟨v256, nm_e (br_f (by decide) (br_f (by decide) (br_f (by decide) (br_t rfl ⟨v16, v16, nm_e (nm_r (nI_1 t) q)⟩))))⟩⟩
theorem ty_st_4 {nC nT nS nD nB nK : Nat} {rs st : Int32} {op kk L su own ow tr ex al tp fB fH fA fC fT fP : Nat → Int32} {c : Int32} {e s b p l n t : Nat} {post : Int32 → SY → Prop} (he : e < 16) (hb : b < 16) (hl : l ≤ 16) (hp : p < l) (hs : s < 1000) (ht : t < 4000) (eB : fB e = nI b) (eP : fP e = nI p) (eL : L b = nI l) (ho : op (b * 16 + p) = nI 4) (q : wY_run_47 post c n (nI (s + 1)) 0 (nI (t + 1)) (nI nC) (nI nT) (nI nS) (nI nD) (nI nB) (nI nK) (nI (e + 1)) rs st op kk L su own ow tr ex al tp fB fH fA fC (upd fT e (fC e)) (upd fP e (nI (p + 1)))) : wY_run_47 post c (n + 1) (nI s) 0 (nI t) (nI nC) (nI nT) (nI nS) (nI nD) (nI nB) (nI nK) (nI (e + 1)) rs st op kk L su own ow tr ex al tp fB fH fA fC fT fP := by
  have v16 : vp_in (nI e) 16 := vp_in_nI he (by omega)
  have v256 : vp_in (nI (b * 16 + p)) 256 := vp_in_nI (by omega) (by omega)
  refine br_f (nI_ge (b := 4000) ht (by omega)) (br_t rfl (nm_r (nI_pred e) ?_))
  rw [nI_clamp (show e < 2 ^ 31 by omega)]
  refine ⟨v16, nm_r eB ⟨v16, vp_in_nI hb (by omega), ?_⟩⟩
  rw [nI_clamp (show b < 2 ^ 31 by omega), eP, eL, tf_ix b p, nI_1 p]
  refine br_t (nI_lt hp (by omega)) (pk_eq s 1000 (fun z => absurd z (by omega)) (fun _ => nm_r (nI_1 s) ⟨v16, nm_e ⟨v16, v16, nm_e ?_⟩⟩))
  rw [nI_clamp (show b * 16 + p < 2 ^ 31 by omega)]
  exact ⟨v256, nm_r ho ⟨v256, nm_e (br_f (by decide) (br_f (by decide) (br_f (by decide) (br_f (by decide) (br_t rfl ⟨v16, v16, nm_e (nm_r (nI_1 t) q)⟩)))))⟩⟩
theorem ty_st_5 {nC nT nS nD nB nK : Nat} {rs st : Int32} {op kk L su own ow tr ex al tp fB fH fA fC fT fP : Nat → Int32} {c : Int32} {e s b p l n t : Nat} {post : Int32 → SY → Prop} (he : e < 16) (hb : b < 16) (hl : l ≤ 16) (hp : p < l) (hs : s < 1000) (ht : t < 4000) (eB : fB e = nI b) (eP : fP e = nI p) (eL : L b = nI l) (ho : op (b * 16 + p) = nI 5) (q : wY_run_47 post c n (nI (s + 1)) 0 (nI (t + 1)) (nI nC) (nI nT) (nI nS) (nI nD) (nI nB) (nI nK) (nI (e + 1)) rs st op kk L su own ow tr ex al tp fB fH fA (upd fC e (fC e + fT e)) fT (upd fP e (nI (p + 1)))) : wY_run_47 post c (n + 1) (nI s) 0 (nI t) (nI nC) (nI nT) (nI nS) (nI nD) (nI nB) (nI nK) (nI (e + 1)) rs st op kk L su own ow tr ex al tp fB fH fA fC fT fP := by
  have v16 : vp_in (nI e) 16 := vp_in_nI he (by omega)
  have v256 : vp_in (nI (b * 16 + p)) 256 := vp_in_nI (by omega) (by omega)
  refine br_f (nI_ge (b := 4000) ht (by omega)) (br_t rfl (nm_r (nI_pred e) ?_))
  rw [nI_clamp (show e < 2 ^ 31 by omega)]
  refine ⟨v16, nm_r eB ⟨v16, vp_in_nI hb (by omega), ?_⟩⟩
  rw [nI_clamp (show b < 2 ^ 31 by omega), eP, eL, tf_ix b p, nI_1 p]
  refine br_t (nI_lt hp (by omega)) (pk_eq s 1000 (fun z => absurd z (by omega)) (fun _ => nm_r (nI_1 s) ⟨v16, nm_e ⟨v16, v16, nm_e ?_⟩⟩))
  rw [nI_clamp (show b * 16 + p < 2 ^ 31 by omega)]
  exact ⟨v256, nm_r ho ⟨v256, nm_e (br_f (by decide) (br_f (by decide) (br_f (by decide) (br_f (by decide) (br_f (by decide) (br_t rfl ⟨v16, v16, v16, nm_e (nm_r (nI_1 t) q)⟩))))))⟩⟩
theorem ty_st_6e {nC nT nS nD nB nK : Nat} {rs st : Int32} {op kk L su own ow tr ex al tp fB fH fA fC fT fP : Nat → Int32} {c : Int32} {e s b p l n t : Nat} {post : Int32 → SY → Prop} (he : e < 16) (hb : b < 16) (hl : l ≤ 16) (hp : p < l) (hs : s < 1000) (ht : t < 4000) (eB : fB e = nI b) (eP : fP e = nI p) (eL : L b = nI l) {g : Nat} {z : Int32} (hC : nC ≤ 8) (hS : nS ≤ 16) (hT : nT ≤ 8) (hK : nK ≤ 16) (hB : nB ≤ 16) (hD : nD ≤ 16) (hV : tf_CV nT nS nK ow tr al) (hU : tf_SV nC su) (ho : op (b * 16 + p) = nI 6) (hg : g < nS) (ks : kk (b * 16 + p) = nI g) (hx : tf_cl nC c) (hd : e + 1 ≤ nD) (r : tf_SE nC nB nD (e + 1) su (fun c => tf_PR own ow tr ex al nK c g) (c) z) (q : ∀ tp : Nat → Int32, wY_run_47 post c n (nI (s + 1)) z (nI (t + 1)) (nI nC) (nI nT) (nI nS) (nI nD) (nI nB) (nI nK) (nI (e + 1)) rs st op kk L su own ow tr ex al tp fB fH fA fC fT (upd fP e (nI (p + 1)))) : wY_run_47 post c (n + 1) (nI s) 0 (nI t) (nI nC) (nI nT) (nI nS) (nI nD) (nI nB) (nI nK) (nI (e + 1)) rs st op kk L su own ow tr ex al tp fB fH fA fC fT fP := by
  have v16 : vp_in (nI e) 16 := vp_in_nI he (by omega)
  have v256 : vp_in (nI (b * 16 + p)) 256 := vp_in_nI (by omega) (by omega)
  refine br_f (nI_ge (b := 4000) ht (by omega)) (br_t rfl (nm_r (nI_pred e) ?_))
  rw [nI_clamp (show e < 2 ^ 31 by omega)]
  refine ⟨v16, nm_r eB ⟨v16, vp_in_nI hb (by omega), ?_⟩⟩
  rw [nI_clamp (show b < 2 ^ 31 by omega), eP, eL, tf_ix b p, nI_1 p]
  refine br_t (nI_lt hp (by omega)) (pk_eq s 1000 (fun z => absurd z (by omega)) (fun _ => nm_r (nI_1 s) ⟨v16, nm_e ⟨v16, v16, nm_e ?_⟩⟩))
  rw [nI_clamp (show b * 16 + p < 2 ^ 31 by omega)]
  exact ⟨v256, nm_r ho ⟨v256, nm_r ks (br_f (by decide) (br_f (by decide) (br_f (by decide) (br_f (by decide) (br_f (by decide) (br_f (by decide) (br_t rfl ⟨v16, ty_send_e hC hS hT hK hB hD hV hU hg hx hd r (fun g => nm_r (nI_1 t) (q g))⟩)))))))⟩⟩
theorem ty_st_6p {nC nT nS nD nB nK : Nat} {rs st : Int32} {op kk L su own ow tr ex al tp fB fH fA fC fT fP : Nat → Int32} {c : Int32} {e s b p l n t : Nat} {post : Int32 → SY → Prop} (he : e < 16) (hb : b < 16) (hl : l ≤ 16) (hp : p < l) (hs : s < 1000) (ht : t < 4000) (eB : fB e = nI b) (eP : fP e = nI p) (eL : L b = nI l) {g b' h' : Nat} (hC : nC ≤ 8) (hS : nS ≤ 16) (hT : nT ≤ 8) (hK : nK ≤ 16) (hB : nB ≤ 16) (hD : nD ≤ 16) (hV : tf_CV nT nS nK ow tr al) (hU : tf_SV nC su) (ho : op (b * 16 + p) = nI 6) (hg : g < nS) (ks : kk (b * 16 + p) = nI g) (hx : tf_cl nC c) (r : tf_SP nC nB nD (e + 1) su (fun c => tf_PR own ow tr ex al nK c g) (c) b' h') (q : ∀ tp : Nat → Int32, wY_run_47 post c n (nI (s + 1)) 0 (nI (t + 1)) (nI nC) (nI nT) (nI nS) (nI nD) (nI nB) (nI nK) (nI (e + 1 + 1)) rs st op kk L su own ow tr ex al tp (upd fB (e + 1) (nI b')) (upd fH (e + 1) (nI h')) (upd fA (e + 1) (fC e)) (upd fC (e + 1) (fC e)) (upd fT (e + 1) 0) (upd (upd fP e (nI (p + 1))) (e + 1) 0)) : wY_run_47 post c (n + 1) (nI s) 0 (nI t) (nI nC) (nI nT) (nI nS) (nI nD) (nI nB) (nI nK) (nI (e + 1)) rs st op kk L su own ow tr ex al tp fB fH fA fC fT fP := by
  have v16 : vp_in (nI e) 16 := vp_in_nI he (by omega)
  have v256 : vp_in (nI (b * 16 + p)) 256 := vp_in_nI (by omega) (by omega)
  refine br_f (nI_ge (b := 4000) ht (by omega)) (br_t rfl (nm_r (nI_pred e) ?_))
  rw [nI_clamp (show e < 2 ^ 31 by omega)]
  refine ⟨v16, nm_r eB ⟨v16, vp_in_nI hb (by omega), ?_⟩⟩
  rw [nI_clamp (show b < 2 ^ 31 by omega), eP, eL, tf_ix b p, nI_1 p]
  refine br_t (nI_lt hp (by omega)) (pk_eq s 1000 (fun z => absurd z (by omega)) (fun _ => nm_r (nI_1 s) ⟨v16, nm_e ⟨v16, v16, nm_e ?_⟩⟩))
  rw [nI_clamp (show b * 16 + p < 2 ^ 31 by omega)]
  exact ⟨v256, nm_r ho ⟨v256, nm_r ks (br_f (by decide) (br_f (by decide) (br_f (by decide) (br_f (by decide) (br_f (by decide) (br_f (by decide) (br_t rfl ⟨v16, ty_send_p hC hS hT hK hB hD hV hU hg hx r (fun g => nm_r (nI_1 t) (q g))⟩)))))))⟩⟩
theorem ty_st_7e {nC nT nS nD nB nK : Nat} {rs st : Int32} {op kk L su own ow tr ex al tp fB fH fA fC fT fP : Nat → Int32} {c : Int32} {e s b p l n t : Nat} {post : Int32 → SY → Prop} (he : e < 16) (hb : b < 16) (hl : l ≤ 16) (hp : p < l) (hs : s < 1000) (ht : t < 4000) (eB : fB e = nI b) (eP : fP e = nI p) (eL : L b = nI l) {h : Nat} {g : Nat} {z : Int32} (hC : nC ≤ 8) (hS : nS ≤ 16) (hT : nT ≤ 8) (hK : nK ≤ 16) (hB : nB ≤ 16) (hD : nD ≤ 16) (hV : tf_CV nT nS nK ow tr al) (hU : tf_SV nC su) (ho : op (b * 16 + p) = nI 7) (hg : g < nS) (ks : kk (b * 16 + p) = nI g) (hh : h < nC) (eh : fH e = nI h) (hx : tf_cl nC (su h)) (hd : e + 1 ≤ nD) (r : tf_SE nC nB nD (e + 1) su (fun c => tf_PR own ow tr ex al nK c g) (su h) z) (q : ∀ tp : Nat → Int32, wY_run_47 post c n (nI (s + 1)) z (nI (t + 1)) (nI nC) (nI nT) (nI nS) (nI nD) (nI nB) (nI nK) (nI (e + 1)) rs st op kk L su own ow tr ex al tp fB fH fA fC fT (upd fP e (nI (p + 1)))) : wY_run_47 post c (n + 1) (nI s) 0 (nI t) (nI nC) (nI nT) (nI nS) (nI nD) (nI nB) (nI nK) (nI (e + 1)) rs st op kk L su own ow tr ex al tp fB fH fA fC fT fP := by
  have v16 : vp_in (nI e) 16 := vp_in_nI he (by omega)
  have v256 : vp_in (nI (b * 16 + p)) 256 := vp_in_nI (by omega) (by omega)
  refine br_f (nI_ge (b := 4000) ht (by omega)) (br_t rfl (nm_r (nI_pred e) ?_))
  rw [nI_clamp (show e < 2 ^ 31 by omega)]
  refine ⟨v16, nm_r eB ⟨v16, vp_in_nI hb (by omega), ?_⟩⟩
  rw [nI_clamp (show b < 2 ^ 31 by omega), eP, eL, tf_ix b p, nI_1 p]
  refine br_t (nI_lt hp (by omega)) (pk_eq s 1000 (fun z => absurd z (by omega)) (fun _ => nm_r (nI_1 s) ⟨v16, nm_e ⟨v16, v16, nm_e ?_⟩⟩))
  rw [nI_clamp (show b * 16 + p < 2 ^ 31 by omega), eh, nI_clamp (show h < 2 ^ 31 by omega)]
  have v8 : vp_in (nI h) 8 := vp_in_nI (by omega) (by omega)
  exact ⟨v256, nm_r ho ⟨v256, nm_r ks (br_f (by decide) (br_f (by decide) (br_f (by decide) (br_f (by decide) (br_f (by decide) (br_f (by decide) (br_f (by decide) (br_t rfl ⟨v16, v16, v8, ty_send_e hC hS hT hK hB hD hV hU hg hx hd r (fun g => nm_r (nI_1 t) (q g))⟩))))))))⟩⟩
theorem ty_st_7p {nC nT nS nD nB nK : Nat} {rs st : Int32} {op kk L su own ow tr ex al tp fB fH fA fC fT fP : Nat → Int32} {c : Int32} {e s b p l n t : Nat} {post : Int32 → SY → Prop} (he : e < 16) (hb : b < 16) (hl : l ≤ 16) (hp : p < l) (hs : s < 1000) (ht : t < 4000) (eB : fB e = nI b) (eP : fP e = nI p) (eL : L b = nI l) {h : Nat} {g b' h' : Nat} (hC : nC ≤ 8) (hS : nS ≤ 16) (hT : nT ≤ 8) (hK : nK ≤ 16) (hB : nB ≤ 16) (hD : nD ≤ 16) (hV : tf_CV nT nS nK ow tr al) (hU : tf_SV nC su) (ho : op (b * 16 + p) = nI 7) (hg : g < nS) (ks : kk (b * 16 + p) = nI g) (hh : h < nC) (eh : fH e = nI h) (hx : tf_cl nC (su h)) (r : tf_SP nC nB nD (e + 1) su (fun c => tf_PR own ow tr ex al nK c g) (su h) b' h') (q : ∀ tp : Nat → Int32, wY_run_47 post c n (nI (s + 1)) 0 (nI (t + 1)) (nI nC) (nI nT) (nI nS) (nI nD) (nI nB) (nI nK) (nI (e + 1 + 1)) rs st op kk L su own ow tr ex al tp (upd fB (e + 1) (nI b')) (upd fH (e + 1) (nI h')) (upd fA (e + 1) (fC e)) (upd fC (e + 1) (fC e)) (upd fT (e + 1) 0) (upd (upd fP e (nI (p + 1))) (e + 1) 0)) : wY_run_47 post c (n + 1) (nI s) 0 (nI t) (nI nC) (nI nT) (nI nS) (nI nD) (nI nB) (nI nK) (nI (e + 1)) rs st op kk L su own ow tr ex al tp fB fH fA fC fT fP := by
  have v16 : vp_in (nI e) 16 := vp_in_nI he (by omega)
  have v256 : vp_in (nI (b * 16 + p)) 256 := vp_in_nI (by omega) (by omega)
  refine br_f (nI_ge (b := 4000) ht (by omega)) (br_t rfl (nm_r (nI_pred e) ?_))
  rw [nI_clamp (show e < 2 ^ 31 by omega)]
  refine ⟨v16, nm_r eB ⟨v16, vp_in_nI hb (by omega), ?_⟩⟩
  rw [nI_clamp (show b < 2 ^ 31 by omega), eP, eL, tf_ix b p, nI_1 p]
  refine br_t (nI_lt hp (by omega)) (pk_eq s 1000 (fun z => absurd z (by omega)) (fun _ => nm_r (nI_1 s) ⟨v16, nm_e ⟨v16, v16, nm_e ?_⟩⟩))
  rw [nI_clamp (show b * 16 + p < 2 ^ 31 by omega), eh, nI_clamp (show h < 2 ^ 31 by omega)]
  have v8 : vp_in (nI h) 8 := vp_in_nI (by omega) (by omega)
  exact ⟨v256, nm_r ho ⟨v256, nm_r ks (br_f (by decide) (br_f (by decide) (br_f (by decide) (br_f (by decide) (br_f (by decide) (br_f (by decide) (br_f (by decide) (br_t rfl ⟨v16, v16, v8, ty_send_p hC hS hT hK hB hD hV hU hg hx r (fun g => nm_r (nI_1 t) (q g))⟩))))))))⟩⟩
theorem ty_st_8r {nC nT nS nD nB nK : Nat} {rs st : Int32} {op kk L su own ow tr ex al tp fB fH fA fC fT fP : Nat → Int32} {c : Int32} {e s b p l n t : Nat} {post : Int32 → SY → Prop} (he : e < 15) (hb : b < 16) (hl : l ≤ 16) (hp : p < l) (hs : s < 1000) (ht : t < 4000) (eB : fB (e + 1) = nI b) (eP : fP (e + 1) = nI p) (eL : L b = nI l) (ho : op (b * 16 + p) = nI 8) (q : wY_run_47 post c n (nI (s + 1)) 0 (nI (t + 1)) (nI nC) (nI nT) (nI nS) (nI nD) (nI nB) (nI nK) (nI (e + 1)) rs st op kk L su own ow tr ex al tp fB fH fA (upd fC e (fC (e + 1))) fT (upd fP (e + 1) (nI (p + 1)))) : wY_run_47 post c (n + 1) (nI s) 0 (nI t) (nI nC) (nI nT) (nI nS) (nI nD) (nI nB) (nI nK) (nI (e + 1 + 1)) rs st op kk L su own ow tr ex al tp fB fH fA fC fT fP := by
  have v16 : vp_in (nI (e + 1)) 16 := vp_in_nI (by omega) (by omega)
  have v256 : vp_in (nI (b * 16 + p)) 256 := vp_in_nI (by omega) (by omega)
  refine br_f (nI_ge (b := 4000) ht (by omega)) (br_t rfl (nm_r (nI_pred (e + 1)) ?_))
  rw [nI_clamp (show e + 1 < 2 ^ 31 by omega)]
  refine ⟨v16, nm_r eB ⟨v16, vp_in_nI hb (by omega), ?_⟩⟩
  rw [nI_clamp (show b < 2 ^ 31 by omega), eP, eL, tf_ix b p, nI_1 p]
  refine br_t (nI_lt hp (by omega)) (pk_eq s 1000 (fun z => absurd z (by omega)) (fun _ => nm_r (nI_1 s) ⟨v16, nm_e ⟨v16, v16, nm_e ?_⟩⟩))
  rw [nI_clamp (show b * 16 + p < 2 ^ 31 by omega)]
  exact ⟨v256, nm_r ho ⟨v256, nm_e (br_f (by decide) (br_f (by decide) (br_f (by decide) (br_f (by decide) (br_f (by decide) (br_f (by decide) (br_f (by decide) (br_f (by decide) (⟨v16, ty_ret_s he (nm_r (nI_1 t) q)⟩)))))))))⟩⟩
theorem ty_st_8e {nC nT nS nD nB nK : Nat} {rs st : Int32} {op kk L su own ow tr ex al tp fB fH fA fC fT fP : Nat → Int32} {c : Int32} {s b p l n t : Nat} {post : Int32 → SY → Prop} (hb : b < 16) (hl : l ≤ 16) (hp : p < l) (hs : s < 1000) (ht : t < 4000) (eB : fB 0 = nI b) (eP : fP 0 = nI p) (eL : L b = nI l) (ho : op (b * 16 + p) = nI 8) (q : wY_run_47 post c n (nI (s + 1)) 1 (nI (t + 1)) (nI nC) (nI nT) (nI nS) (nI nD) (nI nB) (nI nK) 0 (fC 0) st op kk L su own ow tr ex al tp fB fH fA fC fT (upd fP 0 (nI (p + 1)))) : wY_run_47 post c (n + 1) (nI s) 0 (nI t) (nI nC) (nI nT) (nI nS) (nI nD) (nI nB) (nI nK) (nI (0 + 1)) rs st op kk L su own ow tr ex al tp fB fH fA fC fT fP := by
  have v16 : vp_in (nI 0) 16 := vp_in_nI (by omega) (by omega)
  have v256 : vp_in (nI (b * 16 + p)) 256 := vp_in_nI (by omega) (by omega)
  refine br_f (nI_ge (b := 4000) ht (by omega)) (br_t rfl (nm_r (nI_pred 0) ?_))
  rw [nI_clamp (show 0 < 2 ^ 31 by omega)]
  refine ⟨v16, nm_r eB ⟨v16, vp_in_nI hb (by omega), ?_⟩⟩
  rw [nI_clamp (show b < 2 ^ 31 by omega), eP, eL, tf_ix b p, nI_1 p]
  refine br_t (nI_lt hp (by omega)) (pk_eq s 1000 (fun z => absurd z (by omega)) (fun _ => nm_r (nI_1 s) ⟨v16, nm_e ⟨v16, v16, nm_e ?_⟩⟩))
  rw [nI_clamp (show b * 16 + p < 2 ^ 31 by omega)]
  exact ⟨v256, nm_r ho ⟨v256, nm_e (br_f (by decide) (br_f (by decide) (br_f (by decide) (br_f (by decide) (br_f (by decide) (br_f (by decide) (br_f (by decide) (br_f (by decide) (⟨v16, ty_ret_0 (nm_r (nI_1 t) q)⟩)))))))))⟩⟩
theorem ty_st_t {nC nT nS nD nB nK : Nat} {rs st : Int32} {op kk L su own ow tr ex al tp fB fH fA fC fT fP : Nat → Int32} {c : Int32} {e b p l n t : Nat} {post : Int32 → SY → Prop} (he : e < 16) (hb : b < 16) (hl : l ≤ 16) (hp : p < l) (ht : t < 4000) (eB : fB e = nI b) (eP : fP e = nI p) (eL : L b = nI l) (q : wY_run_47 post c n (nI 1000) 5 (nI (t + 1)) (nI nC) (nI nT) (nI nS) (nI nD) (nI nB) (nI nK) (nI (e + 1)) rs st op kk L su own ow tr ex al tp fB fH fA fC fT fP) : wY_run_47 post c (n + 1) (nI 1000) 0 (nI t) (nI nC) (nI nT) (nI nS) (nI nD) (nI nB) (nI nK) (nI (e + 1)) rs st op kk L su own ow tr ex al tp fB fH fA fC fT fP := by
  have v16 : vp_in (nI e) 16 := vp_in_nI he (by omega)
  refine br_f (nI_ge (b := 4000) ht (by omega)) (br_t rfl (nm_r (nI_pred e) ?_))
  rw [nI_clamp (show e < 2 ^ 31 by omega)]
  refine ⟨v16, nm_r eB ⟨v16, vp_in_nI hb (by omega), ?_⟩⟩
  rw [nI_clamp (show b < 2 ^ 31 by omega), eP, eL]
  exact br_t (nI_lt hp (by omega)) (br_t rfl (nm_r (nI_1 t) q))
theorem ty_st_r {nC nT nS nD nB nK : Nat} {rs st : Int32} {op kk L su own ow tr ex al tp fB fH fA fC fT fP : Nat → Int32} {c x4 : Int32} {e b l n t : Nat} {post : Int32 → SY → Prop} (he : e < 15) (hb : b < 16) (ht : t < 4000) (eB : fB (e + 1) = nI b) (eP : fP (e + 1) = nI l) (eL : L b = nI l) (q : wY_run_47 post c n x4 0 (nI (t + 1)) (nI nC) (nI nT) (nI nS) (nI nD) (nI nB) (nI nK) (nI (e + 1)) rs st op kk L su own ow tr ex al tp fB fH fA (upd fC e (fC (e + 1))) fT fP) : wY_run_47 post c (n + 1) x4 0 (nI t) (nI nC) (nI nT) (nI nS) (nI nD) (nI nB) (nI nK) (nI (e + 1 + 1)) rs st op kk L su own ow tr ex al tp fB fH fA fC fT fP := by
  have v16 : vp_in (nI (e + 1)) 16 := vp_in_nI (by omega) (by omega)
  refine br_f (nI_ge (b := 4000) ht (by omega)) (br_t rfl (nm_r (nI_pred (e + 1)) ?_))
  rw [nI_clamp (show e + 1 < 2 ^ 31 by omega)]
  refine ⟨v16, nm_r eB ⟨v16, vp_in_nI hb (by omega), ?_⟩⟩
  rw [nI_clamp (show b < 2 ^ 31 by omega), eP, eL]
  exact br_f Int32.lt_irrefl ⟨v16, ty_ret_s he (nm_r (nI_1 t) q)⟩
theorem ty_st_e {nC nT nS nD nB nK : Nat} {rs st : Int32} {op kk L su own ow tr ex al tp fB fH fA fC fT fP : Nat → Int32} {c x4 : Int32} {b l n t : Nat} {post : Int32 → SY → Prop} (hb : b < 16) (ht : t < 4000) (eB : fB 0 = nI b) (eP : fP 0 = nI l) (eL : L b = nI l) (q : wY_run_47 post c n x4 1 (nI (t + 1)) (nI nC) (nI nT) (nI nS) (nI nD) (nI nB) (nI nK) 0 (fC 0) st op kk L su own ow tr ex al tp fB fH fA fC fT fP) : wY_run_47 post c (n + 1) x4 0 (nI t) (nI nC) (nI nT) (nI nS) (nI nD) (nI nB) (nI nK) (nI (0 + 1)) rs st op kk L su own ow tr ex al tp fB fH fA fC fT fP := by
  have v16 : vp_in (nI 0) 16 := vp_in_nI (by omega) (by omega)
  refine br_f (nI_ge (b := 4000) ht (by omega)) (br_t rfl (nm_r (nI_pred 0) ?_))
  rw [nI_clamp (show 0 < 2 ^ 31 by omega)]
  refine ⟨v16, nm_r eB ⟨v16, vp_in_nI hb (by omega), ?_⟩⟩
  rw [nI_clamp (show b < 2 ^ 31 by omega), eP, eL]
  exact br_f Int32.lt_irrefl ⟨v16, ty_ret_0 (nm_r (nI_1 t) q)⟩
