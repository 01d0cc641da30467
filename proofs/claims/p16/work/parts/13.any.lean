/-! every editing call, whatever is asked, keeps the picture -/
theorem qa_begin {nC nT nS nD nB nK : Nat} {ls rr rc sp fc : Int32} {L op kk su own ow tr xe al fl fA fC fT fP fB fH : Nat → Int32} {post : Int32 → St2 → Prop} {ex : Nat → Int32} (h : tf_Ok nC nT nS nD nB nK L op kk su own ow tr xe ex al fl) (p0 : post (-3) (nI nC, nI nT, nI nS, nI nD, nI nB, nI nK, ls, rr, rc, sp, fc, L, op, kk, su, own, ow, tr, xe, al, fl, fA, fC, fT, fP, fB, fH)) (p1 : tf_Ok nC nT nS nD (nB + 1) nK L op kk su own ow tr xe ex al fl → post (nI nB) (nI nC, nI nT, nI nS, nI nD, nI (nB + 1), nI nK, ls, rr, rc, sp, fc, L, op, kk, su, own, ow, tr, xe, al, fl, fA, fC, fT, fP, fB, fH)) : wpX_beginBody post (nI nC, nI nT, nI nS, nI nD, nI nB, nI nK, ls, rr, rc, sp, fc, L, op, kk, su, own, ow, tr, xe, al, fl, fA, fC, fT, fP, fB, fH) := by
  obtain ⟨⟨hC, hT, hS, hD, hB, hK⟩, hL, hCE, hU, hO, hV, hA, hE, hF⟩ := id h
  by_cases c : nB = 16
  · exact tx_begin_f c p0
  · exact tx_begin_t (by omega) (p1 ⟨⟨hC, hT, hS, hD, by omega, hK⟩, tf_LV_begin hL, tf_CE_begin (by omega) hL hCE, hU, tf_OV_mono hO, hV, hA, hE, hF⟩)
theorem qa_emit {nC nT nS nD nB nK : Nat} {ls rr rc sp fc : Int32} {L op kk su own ow tr xe al fl fA fC fT fP fB fH : Nat → Int32} {post : Int32 → St2 → Prop} {ex : Nat → Int32} {v1 v2 : Int32} (h : tf_Ok nC nT nS nD nB nK L op kk su own ow tr xe ex al fl) (p : ∀ (r : Int32) (L' op' kk' : Nat → Int32), tf_Ok nC nT nS nD nB nK L' op' kk' su own ow tr xe ex al fl → post r (nI nC, nI nT, nI nS, nI nD, nI nB, nI nK, ls, rr, rc, sp, fc, L', op', kk', su, own, ow, tr, xe, al, fl, fA, fC, fT, fP, fB, fH)) : wpX_emit post (nI nC, nI nT, nI nS, nI nD, nI nB, nI nK, ls, rr, rc, sp, fc, L, op, kk, su, own, ow, tr, xe, al, fl, fA, fC, fT, fP, fB, fH) v1 v2 := by
  obtain ⟨⟨hC, hT, hS, hD, hB, hK⟩, hL, hCE, hU, hO, hV, hA, hE, hF⟩ := id h
  rcases Nat.eq_zero_or_pos nB with z | z
  · subst z
    exact tx_emit_0 (p 0 L op kk h)
  · obtain ⟨b, rfl⟩ : ∃ b, nB = b + 1 := ⟨nB - 1, by omega⟩
    by_cases a : tf_in v1 9
    · obtain ⟨o, ho, rfl⟩ := a
      obtain ⟨l, hl, el⟩ := hL.1 b (by omega)
      by_cases c : l = 16
      · subst c
        exact tx_emit_16 (by omega) ho el (p 0 L op kk h)
      · rcases tf_fit nS ho v2 with ⟨q, f⟩ | f
        · exact tx_emit_t hS.2 (by omega) ho el (by omega) f (p 1 _ _ _ ⟨⟨hC, hT, hS, hD, hB, hK⟩, tf_LV_emit hL (by omega) (by omega), tf_CE_emit hCE (by omega) (by omega) el (by omega) (tf_ft_k f), hU, hO, hV, hA, hE, hF⟩)
        · exact tx_emit_n hS.2 (by omega) ho el (by omega) f (p 0 L op kk h)
    · exact tx_emit_b (by omega) a (p 0 L op kk h)
theorem qa_define {nC nT nS nD nB nK : Nat} {ls rr rc sp fc : Int32} {L op kk su own ow tr xe al fl fA fC fT fP fB fH : Nat → Int32} {post : Int32 → St2 → Prop} {ex : Nat → Int32} {v1 v2 v3 : Int32} (h : tf_Ok nC nT nS nD nB nK L op kk su own ow tr xe ex al fl) (p : ∀ (r : Int32) (own' fl' : Nat → Int32), tf_Ok nC nT nS nD nB nK L op kk su own' ow tr xe ex al fl' → post r (nI nC, nI nT, nI nS, nI nD, nI nB, nI nK, ls, rr, rc, sp, fc, L, op, kk, su, own', ow, tr, xe, al, fl', fA, fC, fT, fP, fB, fH)) : wpX_define post (nI nC, nI nT, nI nS, nI nD, nI nB, nI nK, ls, rr, rc, sp, fc, L, op, kk, su, own, ow, tr, xe, al, fl, fA, fC, fT, fP, fB, fH) v1 v2 v3 := by
  obtain ⟨⟨hC, hT, hS, hD, hB, hK⟩, hL, hCE, hU, hO, hV, hA, hE, hF⟩ := id h
  by_cases a : tf_ow v1 nC nT ∧ tf_in v2 nS ∧ (v3 = -1 ∨ tf_in v3 nB)
  · obtain ⟨⟨j, hj, rfl⟩, ⟨s, hs, rfl⟩, hx⟩ := a
    exact tx_def_t hC.2 hT.2 hS.2 hK hB hE hV hj hs hx (fun g hg => p 1 _ g ⟨⟨hC, hT, hS, hD, hB, hK⟩, hL, hCE, hU, tf_OV_set hO hx, hV, hA, hE, hg⟩)
  · exact tx_def_f hC.2 hT.2 hS.2 hB a (p 0 own fl h)
theorem qa_use {nC nT nS nD nB nK : Nat} {ls rr rc sp fc : Int32} {L op kk su own ow tr xe al fl fA fC fT fP fB fH : Nat → Int32} {post : Int32 → St2 → Prop} {ex : Nat → Int32} {v1 v2 : Int32} (h : tf_Ok nC nT nS nD nB nK L op kk su own ow tr xe ex al fl) (p0 : post (-3) (nI nC, nI nT, nI nS, nI nD, nI nB, nI nK, ls, rr, rc, sp, fc, L, op, kk, su, own, ow, tr, xe, al, fl, fA, fC, fT, fP, fB, fH)) (p1 : ∀ (ow' tr' fl' : Nat → Int32), tf_Ok nC nT nS nD nB (nK + 1) L op kk su own ow' tr' xe ex al fl' → post (nI nK) (nI nC, nI nT, nI nS, nI nD, nI nB, nI (nK + 1), ls, rr, rc, sp, fc, L, op, kk, su, own, ow', tr', xe, al, fl', fA, fC, fT, fP, fB, fH)) : wpX_use post (nI nC, nI nT, nI nS, nI nD, nI nB, nI nK, ls, rr, rc, sp, fc, L, op, kk, su, own, ow, tr, xe, al, fl, fA, fC, fT, fP, fB, fH) v1 v2 := by
  obtain ⟨⟨hC, hT, hS, hD, hB, hK⟩, hL, hCE, hU, hO, hV, hA, hE, hF⟩ := id h
  by_cases a : tf_ow v1 nC nT
  · by_cases b : tf_in v2 nT
    · obtain ⟨j, hj, rfl⟩ := a
      obtain ⟨t, ht, rfl⟩ := b
      by_cases c : (8 ≤ j ∧ j ≤ t + 8) ∨ nK = 16
      · exact tx_use_g hC.2 hT.2 hj ht c p0
      · have hK' : nK < 16 := by omega
        have h8 : 8 ≤ j → t + 8 < j := by omega
        have hV' := tf_CV_use hS.2 hV (fun s hs => (hA nK (Nat.le_refl _) hK').2 s hs) (o := j) (u := t) (by omega) ht h8
        exact tx_use_t hC.2 hT.2 hS.2 hK' hE hj ht h8 hV' (fun g hg => p1 _ _ g ⟨⟨hC, hT, hS, hD, hB, hK'⟩, hL, hCE, hU, hO, hV', tf_AF_use hA, hE, hg⟩)
    · exact tx_use_f hC.2 hT.2 (Or.inr b) p0
  · exact tx_use_f hC.2 hT.2 (Or.inl a) p0
theorem qa_exclude {nC nT nS nD nB nK : Nat} {ls rr rc sp fc : Int32} {L op kk su own ow tr xe al fl fA fC fT fP fB fH : Nat → Int32} {post : Int32 → St2 → Prop} {ex : Nat → Int32} {v1 v2 : Int32} (h : tf_Ok nC nT nS nD nB nK L op kk su own ow tr xe ex al fl) (p : ∀ (r : Int32) (xe' ex' fl' : Nat → Int32), tf_Ok nC nT nS nD nB nK L op kk su own ow tr xe' ex' al fl' → post r (nI nC, nI nT, nI nS, nI nD, nI nB, nI nK, ls, rr, rc, sp, fc, L, op, kk, su, own, ow, tr, xe', al, fl', fA, fC, fT, fP, fB, fH)) : wpX_exclude post (nI nC, nI nT, nI nS, nI nD, nI nB, nI nK, ls, rr, rc, sp, fc, L, op, kk, su, own, ow, tr, xe, al, fl, fA, fC, fT, fP, fB, fH) v1 v2 := by
  obtain ⟨⟨hC, hT, hS, hD, hB, hK⟩, hL, hCE, hU, hO, hV, hA, hE, hF⟩ := id h
  by_cases a : tf_in v1 nK ∧ tf_in v2 nS
  · obtain ⟨⟨j, hj, rfl⟩, ⟨s, hs, rfl⟩⟩ := a
    exact tx_excl_t hC.2 hT.2 hS.2 hK hE hV hj hs (fun g hg => p 1 _ _ g ⟨⟨hC, hT, hS, hD, hB, hK⟩, hL, hCE, hU, hO, hV, tf_AF_excl hA hj, tf_EX_upd hS.2 hE (by omega) hs, hg⟩)
  · exact tx_excl_f hS.2 hK a (p 0 xe ex fl h)
theorem qa_alias {nC nT nS nD nB nK : Nat} {ls rr rc sp fc : Int32} {L op kk su own ow tr xe al fl fA fC fT fP fB fH : Nat → Int32} {post : Int32 → St2 → Prop} {ex : Nat → Int32} {v1 v2 v3 : Int32} (h : tf_Ok nC nT nS nD nB nK L op kk su own ow tr xe ex al fl) (p : ∀ (r : Int32) (al' fl' : Nat → Int32), tf_Ok nC nT nS nD nB nK L op kk su own ow tr xe ex al' fl' → post r (nI nC, nI nT, nI nS, nI nD, nI nB, nI nK, ls, rr, rc, sp, fc, L, op, kk, su, own, ow, tr, xe, al', fl', fA, fC, fT, fP, fB, fH)) : wpX_alias post (nI nC, nI nT, nI nS, nI nD, nI nB, nI nK, ls, rr, rc, sp, fc, L, op, kk, su, own, ow, tr, xe, al, fl, fA, fC, fT, fP, fB, fH) v1 v2 v3 := by
  obtain ⟨⟨hC, hT, hS, hD, hB, hK⟩, hL, hCE, hU, hO, hV, hA, hE, hF⟩ := id h
  by_cases a : tf_in v1 nK ∧ tf_in v2 nS ∧ tf_in v3 nS
  · obtain ⟨⟨j, hj, rfl⟩, ⟨n, hn, rfl⟩, ⟨r, hr, rfl⟩⟩ := a
    obtain ⟨_, _, _, _, _, _, _, h6⟩ := hV j hj
    rcases h6 n hn with e | ⟨q, hq, e⟩
    · exact tx_al_n hC.2 hT.2 hS.2 hK hE hj hn hr e (tf_CV_alias hV hr) (fun g hg => p 1 _ g ⟨⟨hC, hT, hS, hD, hB, hK⟩, hL, hCE, hU, hO, tf_CV_alias hV hr, tf_AF_alias hA hj (by omega), hE, hg⟩)
    · exact tx_al_o hS.2 hK hj hn hr hq e (p _ al fl h)
  · exact tx_al_f hS.2 hK a (p 0 al fl h)
theorem qa_setSuper {nC nT nS nD nB nK : Nat} {ls rr rc sp fc : Int32} {L op kk su own ow tr xe al fl fA fC fT fP fB fH : Nat → Int32} {post : Int32 → St2 → Prop} {ex : Nat → Int32} {v1 v2 : Int32} (h : tf_Ok nC nT nS nD nB nK L op kk su own ow tr xe ex al fl) (p : ∀ (r : Int32) (su' : Nat → Int32), tf_Ok nC nT nS nD nB nK L op kk su' own ow tr xe ex al fl → post r (nI nC, nI nT, nI nS, nI nD, nI nB, nI nK, ls, rr, rc, sp, fc, L, op, kk, su', own, ow, tr, xe, al, fl, fA, fC, fT, fP, fB, fH)) : wpX_setSuper post (nI nC, nI nT, nI nS, nI nD, nI nB, nI nK, ls, rr, rc, sp, fc, L, op, kk, su, own, ow, tr, xe, al, fl, fA, fC, fT, fP, fB, fH) v1 v2 := by
  obtain ⟨⟨hC, hT, hS, hD, hB, hK⟩, hL, hCE, hU, hO, hV, hA, hE, hF⟩ := id h
  by_cases a : tf_in v1 nC
  · obtain ⟨c, hc, rfl⟩ := a
    have good : (v2 = -1 ∨ ∃ d, d < c ∧ v2 = nI d) → wpX_setSuper post (nI nC, nI nT, nI nS, nI nD, nI nB, nI nK, ls, rr, rc, sp, fc, L, op, kk, su, own, ow, tr, xe, al, fl, fA, fC, fT, fP, fB, fH) (nI c) v2 := fun hx => tx_sup_t hC.2 hc hx (p 1 _ ⟨⟨hC, hT, hS, hD, hB, hK⟩, hL, hCE, tf_SV_set hU hx, hO, hV, hA, hE, hF⟩)
    rcases tf_sup v2 c (by omega) with b | b | b
    · exact good (Or.inl b)
    · exact good (Or.inr b)
    · exact tx_sup_f hC.2 (Or.inr ⟨c, hc, rfl, b⟩) (p 0 su h)
  · exact tx_sup_f hC.2 (Or.inl a) (p 0 su h)
/-! the law's own small methods -/
theorem qa_md0 {post : Int32 → Prop} {x n : Int32} (hn : ¬ n = 0) (p : ∀ r, post r) : wpL_md post () x n := ⟨hn, fun y _ => ⟨fun _ => p _, fun _ => p _⟩⟩
theorem qa_rem (x : Int32) {n : Nat} (h0 : 0 < n) (hn : n < 2 ^ 30) : -(n : Int) < (x - x / nI n * nI n).toInt ∧ (x - x / nI n * nI n).toInt < n := by
  rw [irem_eq_mod, Int32.toInt_mod, nI_toInt (by omega)]
  exact ⟨Int.lt_tmod_of_pos _ (by omega), Int.tmod_lt_of_pos _ (by omega)⟩
theorem qa_md {post : Int32 → Prop} {x : Int32} {n : Nat} (h0 : 0 < n) (hn : n < 2 ^ 30) (p : ∀ j, j < n → post (nI j)) : wpL_md post () x (nI n) := by
  have hr := qa_rem x h0 hn
  refine ⟨nI_ne0 h0 (by omega), nm_e (br_c (fun h => ?_) (fun h => ?_))⟩
  · generalize x - x / nI n * nI n = y at hr h
    obtain ⟨j, hj, rfl⟩ := nI_of (Int32.not_lt.mpr h)
    rw [nI_toInt hj] at hr
    exact p j (by omega)
  · generalize x - x / nI n * nI n = y at hr h
    have h2 : ¬ y.toInt ≥ 0 := by
      rw [Int32.le_iff_toInt_le, show (0 : Int32).toInt = 0 from by decide] at h
      exact h
    have e : (y + nI n).toInt = y.toInt + n := by
      rw [Int32.toInt_add, nI_toInt (by omega)]
      exact Int.bmod_eq_of_le (by omega) (by omega)
    have h3 : ¬ y + nI n < 0 := by
      rw [Int32.lt_iff_toInt_lt, show (0 : Int32).toInt = 0 from by decide, e]
      omega
    obtain ⟨j, hj, ej⟩ := nI_of h3
    rw [ej, nI_toInt hj] at e
    rw [ej]
    exact p j (by omega)
theorem qa_cell {post : Int32 → Prop} {N : Nat} {xs : Nat → Int32} {j : Nat} (hN : N < 2 ^ 31) (hj : j < 2 ^ 31) (p : ∀ r, post r) : wpL_cell post N xs () (nI j) := by
  refine pk_le (x := Int32.ofNat N) N j (fun _ => p _) (fun z => ⟨vp_in_nI z hN, p _⟩)
theorem qa_comb {post : Int32 → Prop} {a b : Int32} (p : post (tf_mg a b)) : wpL_comb post () a b := by
  unfold tf_mg at p
  by_cases c : b = -1
  · rw [if_pos c] at p
    exact br_t c p
  · rw [if_neg c] at p
    refine br_f c ?_
    by_cases c2 : a = -1
    · have c3 : ¬ b = a := fun z => c (z.trans c2)
      rw [if_neg c3, if_pos c2] at p
      exact br_t c2 p
    · refine br_f c2 ?_
      by_cases c3 : a = b
      · rw [if_pos c3.symm, c3] at p
        exact br_t c3 p
      · rw [if_neg (fun z => c3 z.symm), if_neg c2] at p
        exact br_f c3 p
/-! the pure facts behind the checks -/
theorem qa_shr {e s : Nat} (he : e < 65536) (hs : s < 16) : ((nI e >>> (nI s &&& 31)) &&& 1) = 0 ↔ e.testBit s = false := by
  rw [pk_shrN (by omega) _ s (s_l s (by omega))]
  show nI (e / 2 ^ s) &&& nI 1 = 0 ↔ _
  have h2 : e / 2 ^ s ≤ e := Nat.div_le_self _ _
  rw [nx_and, Nat.and_one_is_mod, ← nI_0, nI_eq (by omega) (by omega), Nat.testBit_eq_decide_div_mod_eq, decide_eq_false_iff_not]
  generalize e / 2 ^ s = z
  omega
theorem qa_exs {nS : Nat} {xe ex : Nat → Int32} (hS : nS ≤ 16) (h : tf_EX nS xe ex) {k s : Nat} (hk : k < 16) (hs : s < 16) : ((xe k >>> (nI s &&& 31)) &&& 1) = 0 ↔ ex (k * 16 + s) = 0 := by
  obtain ⟨e, he, h1, h2⟩ := h k hk
  have h3 := tf_p16 hS
  rw [h1, h2 s hs, qa_shr (by omega) hs]
  cases e.testBit s
  · exact ⟨fun _ => rfl, fun _ => rfl⟩
  · exact ⟨fun z => absurd z (by decide), fun z => absurd z (by decide)⟩
theorem qa_fh_m1 {su P : Nat → Int32} : ∀ n, tf_fh su P n (-1) = -1 := by
  intro n
  cases n with
  | zero => rfl
  | succ n =>
    simp only [tf_fh]
    rw [if_pos trivial]
theorem qa_fh_up {nC : Nat} {su P : Nat → Int32} (hC : nC ≤ 8) (hU : tf_SV nC su) : ∀ n c, c < n → c < nC → tf_fh su P n (nI c) = tf_fh su P (n + 1) (nI c) := by
  intro n
  induction n with
  | zero => intro c h; omega
  | succ n ih =>
    intro c h hc
    rw [tf_fh, tf_fh, if_neg (tf_m1 (by omega)), if_neg (tf_m1 (by omega)), nI_clamp (by omega)]
    by_cases z : P c = -1
    · rw [if_pos z, if_pos z]
      rcases hU c hc with e | ⟨d, hd, e⟩
      · rw [e, qa_fh_m1, qa_fh_m1]
      · rw [e]
        exact ih d (by omega) (by omega)
    · rw [if_neg z, if_neg z]
theorem qa_fh_s {su P : Nat → Int32} {c : Nat} (hc : c < 8) (z : ¬ P c = -1) : tf_fh su P 8 (nI c) = nI c := by
  rw [tf_fh, if_neg (tf_m1 (by omega)), nI_clamp (by omega), if_neg z]
theorem qa_fh_c {nC : Nat} {su P : Nat → Int32} (hC : nC ≤ 8) (hU : tf_SV nC su) {c : Nat} (hc : c < nC) (z : P c = -1) : tf_fh su P 8 (nI c) = tf_fh su P 8 (su c) := by
  rw [show tf_fh su P 8 (nI c) = tf_fh su P (7 + 1) (nI c) from rfl, tf_fh, if_neg (tf_m1 (by omega)), nI_clamp (by omega), if_pos z]
  rcases hU c hc with e | ⟨d, hd, e⟩
  · rw [e, qa_fh_m1, qa_fh_m1]
  · rw [e]
    exact qa_fh_up hC hU 7 d (by omega) (by omega)
