/-! a run, turn by turn: both sides end alike -/
def tf_LK (c m d s nC nT nS nD nB nK : Nat) (L op kk su own ow tr xe ex al fl fA fC fT fP fB fH : Nat → Int32) : Prop := ∃ (z res : Int32) (gA gC gT gP gB gH : Nat → Int32), (∀ (post : Int32 → SX → Prop) (ls rr : Int32) (n t : Nat), m < n → t + m < 1000000 → (∀ sp : Int32, post res (nI nC, nI nT, nI nS, nI nD, nI nB, nI nK, z, res, nI c, sp, 0, L, op, kk, su, own, ow, tr, xe, al, fl, gA, gC, gT, gP, gB, gH)) → wX_run_43 post n (nI t) (nI nC) (nI nT) (nI nS) (nI nD) (nI nB) (nI nK) ls rr (nI c) (nI s) (nI d) L op kk su own ow tr xe al fl fA fC fT fP fB fH) ∧ (∀ (post : Int32 → SY → Prop) (st rs : Int32) (tp : Nat → Int32) (n t : Nat), m < n → t + m < 4000 → (∀ (rs : Int32) (tp : Nat → Int32), post res (nI nC, nI nT, nI nS, nI nD, nI nB, nI nK, 0, rs, z, op, kk, L, su, own, ow, tr, ex, al, tp, gB, gH, gA, gC, gT, gP)) → wY_run_47 post (nI c) n (nI s) 0 (nI t) (nI nC) (nI nT) (nI nS) (nI nD) (nI nB) (nI nK) (nI d) rs st op kk L su own ow tr ex al tp fB fH fA fC fT fP)
theorem tf_LK_step {c m d s d' s' nC nT nS nD nB nK : Nat} {L op kk su own ow tr xe ex al fl fA fC fT fP fB fH fA1 fC1 fT1 fP1 fB1 fH1 : Nat → Int32} (h : tf_LK c m d' s' nC nT nS nD nB nK L op kk su own ow tr xe ex al fl fA1 fC1 fT1 fP1 fB1 fH1) (x : ∀ (post : Int32 → SX → Prop) (ls rr : Int32) (n t : Nat), t < 1000000 → wX_run_43 post n (nI (t + 1)) (nI nC) (nI nT) (nI nS) (nI nD) (nI nB) (nI nK) ls rr (nI c) (nI s') (nI d') L op kk su own ow tr xe al fl fA1 fC1 fT1 fP1 fB1 fH1 → wX_run_43 post (n + 1) (nI t) (nI nC) (nI nT) (nI nS) (nI nD) (nI nB) (nI nK) ls rr (nI c) (nI s) (nI d) L op kk su own ow tr xe al fl fA fC fT fP fB fH) (y : ∀ (post : Int32 → SY → Prop) (st rs : Int32) (tp : Nat → Int32) (n t : Nat), t < 4000 → (∀ tp : Nat → Int32, wY_run_47 post (nI c) n (nI s') 0 (nI (t + 1)) (nI nC) (nI nT) (nI nS) (nI nD) (nI nB) (nI nK) (nI d') rs st op kk L su own ow tr ex al tp fB1 fH1 fA1 fC1 fT1 fP1) → wY_run_47 post (nI c) (n + 1) (nI s) 0 (nI t) (nI nC) (nI nT) (nI nS) (nI nD) (nI nB) (nI nK) (nI d) rs st op kk L su own ow tr ex al tp fB fH fA fC fT fP) : tf_LK c (m + 1) d s nC nT nS nD nB nK L op kk su own ow tr xe ex al fl fA fC fT fP fB fH := by
  obtain ⟨z, res, gA, gC, gT, gP, gB, gH, hX, hY⟩ := h
  refine ⟨z, res, gA, gC, gT, gP, gB, gH, fun post ls rr n t hn ht p => ?_, fun post st rs tp n t hn ht p => ?_⟩
  · obtain ⟨n', rfl⟩ : ∃ n', n = n' + 1 := ⟨n - 1, by omega⟩
    exact x post ls rr n' t (by omega) (hX post ls rr n' (t + 1) (by omega) (by omega) p)
  · obtain ⟨n', rfl⟩ : ∃ n', n = n' + 1 := ⟨n - 1, by omega⟩
    exact y post st rs tp n' t (by omega) (fun tp => hY post st rs tp n' (t + 1) (by omega) (by omega) p)
theorem tf_LK_end {c m d s s' nC nT nS nD nB nK : Nat} {z res : Int32} {L op kk su own ow tr xe ex al fl fA fC fT fP fB fH fA1 fC1 fT1 fP1 fB1 fH1 : Nat → Int32} (hz : ¬ z = 0) (h1 : ¬ z = 1 → res = 0) (x : ∀ (post : Int32 → SX → Prop) (ls rr : Int32) (n t : Nat), t < 1000000 → wX_run_43 post n (nI (t + 1)) (nI nC) (nI nT) (nI nS) (nI nD) (nI nB) (nI nK) z res (nI c) (nI s') 0 L op kk su own ow tr xe al fl fA1 fC1 fT1 fP1 fB1 fH1 → wX_run_43 post (n + 1) (nI t) (nI nC) (nI nT) (nI nS) (nI nD) (nI nB) (nI nK) ls rr (nI c) (nI s) (nI d) L op kk su own ow tr xe al fl fA fC fT fP fB fH) (y : ∀ (post : Int32 → SY → Prop) (st rs : Int32) (tp : Nat → Int32) (n t : Nat), t < 4000 → (∀ (dp rs : Int32) (tp : Nat → Int32), (z = 1 → rs = res) → wY_run_47 post (nI c) n (nI s') z (nI (t + 1)) (nI nC) (nI nT) (nI nS) (nI nD) (nI nB) (nI nK) dp rs st op kk L su own ow tr ex al tp fB1 fH1 fA1 fC1 fT1 fP1) → wY_run_47 post (nI c) (n + 1) (nI s) 0 (nI t) (nI nC) (nI nT) (nI nS) (nI nD) (nI nB) (nI nK) (nI d) rs st op kk L su own ow tr ex al tp fB fH fA fC fT fP) : tf_LK c (m + 1) d s nC nT nS nD nB nK L op kk su own ow tr xe ex al fl fA fC fT fP fB fH := by
  refine ⟨z, res, fA1, fC1, fT1, fP1, fB1, fH1, fun post ls rr n t hn ht p => ?_, fun post st rs tp n t hn ht p => ?_⟩
  · obtain ⟨n', rfl⟩ : ∃ n', n = n' + 1 + 1 := ⟨n - 2, by omega⟩
    exact x post ls rr (n' + 1) t (by omega) (tx_end (by omega) (p _))
  · obtain ⟨n', rfl⟩ : ∃ n', n = n' + 1 + 1 := ⟨n - 2, by omega⟩
    refine y post st rs tp (n' + 1) t (by omega) (fun dp rs tp hr => ?_)
    by_cases e : z = 1
    · have e2 := hr e
      subst e
      subst e2
      exact ty_end_1 (by omega) (p rs tp)
    · have e2 := h1 e
      subst e2
      exact ty_end_z (by omega) hz e (p rs tp)
theorem tf_SE_z {nC nB nD d : Nat} {su P : Nat → Int32} {x z : Int32} (h : tf_SE nC nB nD d su P x z) : ¬ z = 0 ∧ ¬ z = 1 := by
  rcases h with ⟨e, _⟩ | ⟨e, _⟩ | ⟨e, _⟩
  · rw [e]; decide
  · rw [e]; decide
  · rw [e]; decide
theorem tf_lock {c nC nT nS nD nB nK : Nat} {L op kk su own ow tr xe ex al fl : Nat → Int32} (hC : nC ≤ 8) (hS : nS ≤ 16) (hT : nT ≤ 8) (hK : nK ≤ 16) (hB : nB ≤ 16) (hD : nD ≤ 16) (hV : tf_CV nT nS nK ow tr al) (hU : tf_SV nC su) (hF : tf_FL nC nT nS nK own ow tr ex al fl) (hO : tf_OV nB own) (hL : tf_LV nB L) (hCE : tf_CE nS nB L op kk) (hc : c < nC) : ∀ m d s (fA fC fT fP fB fH : Nat → Int32), 1 ≤ d → d ≤ nD → s ≤ 1000 → tf_VF nB nC d L fB fH fP → 2 * (1000 - s) + d ≤ m → tf_LK c m d s nC nT nS nD nB nK L op kk su own ow tr xe ex al fl fA fC fT fP fB fH := by
  intro m
  induction m with
  | zero => intro d s fA fC fT fP fB fH h1 _ _ _ h5; omega
  | succ m ih =>
    intro d s fA fC fT fP fB fH h1 h2 h3 h4 h5
    obtain ⟨e, rfl⟩ : ∃ e, d = e + 1 := ⟨d - 1, by omega⟩
    obtain ⟨⟨b, l, p, hb, hl, eB, eL, eP, hp⟩, h, hh, eH⟩ := h4 e (by omega)
    by_cases hpl : p < l
    · by_cases hs : s = 1000
      · subst hs
        exact tf_LK_end (z := 5) (res := 0) (s' := 1000) (by decide) (fun _ => rfl)
          (fun post ls rr n t ht q => br_f (nI_ge (b := 1000000) ht (by omega)) (br_f (nI_nle (by omega) (by omega)) (tx_act_t (by omega) (by omega) hl hpl eB eP eL (nm_r (nI_1 t) q))))
          (fun post st rs tp n t ht q => ty_st_t (by omega) (by omega) hl hpl ht eB eP eL (q _ _ _ (fun z => absurd z (by decide))))
      · have hs' : s < 1000 := by omega
        have hv := tf_VF_pc h4 (i := e) hb hl eB eL hpl
        obtain ⟨o, ho8, eo, hsel⟩ := hCE b l p hb hl eL hpl
        have hcl : tf_cl nC (nI c) := Or.inr ⟨c, hc, rfl⟩
        have hcs : tf_cl nC (su h) := tf_SV_cl hU hh
        have cases9 : o = 0 ∨ o = 1 ∨ o = 2 ∨ o = 3 ∨ o = 4 ∨ o = 5 ∨ o = 6 ∨ o = 7 ∨ o = 8 := by omega
        rcases cases9 with rfl | rfl | rfl | rfl | rfl | rfl | rfl | rfl | rfl
        · exact tf_LK_step (ih (e + 1) (s + 1) fA (upd fC e (fA e)) fT (upd fP e (nI (p + 1))) fB fH (by omega) h2 (by omega) hv (by omega))
            (fun post ls rr n t ht q => br_f (nI_ge (b := 1000000) ht (by omega)) (br_f (nI_nle (by omega) (by omega)) (tx_act_x (by omega) (by omega) hl hpl hs' eB eP eL (fun ψ w => tx_ex_0 (by omega) (by omega) eo w) (nm_r (nI_1 t) q))))
            (fun post st rs tp n t ht q => ty_st_0 (by omega) (by omega) hl hpl hs' ht eB eP eL eo (q tp))
        · exact tf_LK_step (ih (e + 1) (s + 1) fA (upd fC e (kk (b * 16 + p))) fT (upd fP e (nI (p + 1))) fB fH (by omega) h2 (by omega) hv (by omega))
            (fun post ls rr n t ht q => br_f (nI_ge (b := 1000000) ht (by omega)) (br_f (nI_nle (by omega) (by omega)) (tx_act_x (by omega) (by omega) hl hpl hs' eB eP eL (fun ψ w => tx_ex_1 (by omega) (by omega) eo w) (nm_r (nI_1 t) q))))
            (fun post st rs tp n t ht q => ty_st_1 (by omega) (by omega) hl hpl hs' ht eB eP eL eo (q tp))
        · exact tf_LK_step (ih (e + 1) (s + 1) fA (upd fC e (fC e + kk (b * 16 + p))) fT (upd fP e (nI (p + 1))) fB fH (by omega) h2 (by omega) hv (by omega))
            (fun post ls rr n t ht q => br_f (nI_ge (b := 1000000) ht (by omega)) (br_f (nI_nle (by omega) (by omega)) (tx_act_x (by omega) (by omega) hl hpl hs' eB eP eL (fun ψ w => tx_ex_2 (by omega) (by omega) eo w) (nm_r (nI_1 t) q))))
            (fun post st rs tp n t ht q => ty_st_2 (by omega) (by omega) hl hpl hs' ht eB eP eL eo (q tp))
        · exact tf_LK_step (ih (e + 1) (s + 1) fA (upd fC e (fC e * kk (b * 16 + p))) fT (upd fP e (nI (p + 1))) fB fH (by omega) h2 (by omega) hv (by omega))
            (fun post ls rr n t ht q => br_f (nI_ge (b := 1000000) ht (by omega)) (br_f (nI_nle (by omega) (by omega)) (tx_act_x (by omega) (by omega) hl hpl hs' eB eP eL (fun ψ w => tx_ex_3 (by omega) (by omega) eo w) (nm_r (nI_1 t) q))))
            (fun post st rs tp n t ht q => ty_st_3 (by omega) (by omega) hl hpl hs' ht eB eP eL eo (q tp))
        · exact tf_LK_step (ih (e + 1) (s + 1) fA fC (upd fT e (fC e)) (upd fP e (nI (p + 1))) fB fH (by omega) h2 (by omega) hv (by omega))
            (fun post ls rr n t ht q => br_f (nI_ge (b := 1000000) ht (by omega)) (br_f (nI_nle (by omega) (by omega)) (tx_act_x (by omega) (by omega) hl hpl hs' eB eP eL (fun ψ w => tx_ex_4 (by omega) (by omega) eo w) (nm_r (nI_1 t) q))))
            (fun post st rs tp n t ht q => ty_st_4 (by omega) (by omega) hl hpl hs' ht eB eP eL eo (q tp))
        · exact tf_LK_step (ih (e + 1) (s + 1) fA (upd fC e (fC e + fT e)) fT (upd fP e (nI (p + 1))) fB fH (by omega) h2 (by omega) hv (by omega))
            (fun post ls rr n t ht q => br_f (nI_ge (b := 1000000) ht (by omega)) (br_f (nI_nle (by omega) (by omega)) (tx_act_x (by omega) (by omega) hl hpl hs' eB eP eL (fun ψ w => tx_ex_5 (by omega) (by omega) eo w) (nm_r (nI_1 t) q))))
            (fun post st rs tp n t ht q => ty_st_5 (by omega) (by omega) hl hpl hs' ht eB eP eL eo (q tp))
        · obtain ⟨g, hg, ek⟩ := hsel (by omega)
          rcases tf_send (nB := nB) (nD := nD) (d := e + 1) (P := fun c => tf_PR own ow tr ex al nK c g) hC hU (fun c' hc' => tf_gv_PR hT hS hV hO (by omega) hg) hcl h2 with ⟨z, r⟩ | ⟨b', h', r⟩
          · have hz := tf_SE_z r
            exact tf_LK_end (z := z) (res := 0) (s' := s + 1) (fA1 := fA) (fC1 := fC) (fT1 := fT) (fP1 := upd fP e (nI (p + 1))) (fB1 := fB) (fH1 := fH) hz.1 (fun _ => rfl)
              (fun post ls rr n t ht q => br_f (nI_ge (b := 1000000) ht (by omega)) (br_f (nI_nle (by omega) (by omega)) (tx_act_x (by omega) (by omega) hl hpl hs' eB eP eL (fun ψ w => tx_ex_6e hC hS hB hD hF hU (by omega) (by omega) eo hg ek hcl h2 r w) (nm_r (nI_1 t) q))))
              (fun post st rs tp n t ht q => ty_st_6e (by omega) (by omega) hl hpl hs' ht eB eP eL hC hS hT hK hB hD hV hU eo hg ek hcl h2 r (fun g => q _ _ g (fun z1 => absurd z1 hz.2)))
          · obtain ⟨l2, hl2, el2⟩ := hL.1 b' (by have := r.2.1; omega)
            exact tf_LK_step (ih (e + 1 + 1) (s + 1) (upd fA (e + 1) (fC e)) (upd fC (e + 1) (fC e)) (upd fT (e + 1) 0) (upd (upd fP e (nI (p + 1))) (e + 1) 0) (upd fB (e + 1) (nI b')) (upd fH (e + 1) (nI h')) (by omega) (by have := r.2.2.1; omega) (by omega) (tf_VF_push hv r.2.1 hl2 el2 r.1) (by omega))
              (fun post ls rr n t ht q => br_f (nI_ge (b := 1000000) ht (by omega)) (br_f (nI_nle (by omega) (by omega)) (tx_act_x (by omega) (by omega) hl hpl hs' eB eP eL (fun ψ w => tx_ex_6p hC hS hB hD hF hU (by omega) (by omega) eo hg ek hcl r w) (nm_r (nI_1 t) q))))
              (fun post st rs tp n t ht q => ty_st_6p (by omega) (by omega) hl hpl hs' ht eB eP eL hC hS hT hK hB hD hV hU eo hg ek hcl r q)
        · obtain ⟨g, hg, ek⟩ := hsel (by omega)
          rcases tf_send (nB := nB) (nD := nD) (d := e + 1) (P := fun c => tf_PR own ow tr ex al nK c g) hC hU (fun c' hc' => tf_gv_PR hT hS hV hO (by omega) hg) hcs h2 with ⟨z, r⟩ | ⟨b', h', r⟩
          · have hz := tf_SE_z r
            exact tf_LK_end (z := z) (res := 0) (s' := s + 1) (fA1 := fA) (fC1 := fC) (fT1 := fT) (fP1 := upd fP e (nI (p + 1))) (fB1 := fB) (fH1 := fH) hz.1 (fun _ => rfl)
              (fun post ls rr n t ht q => br_f (nI_ge (b := 1000000) ht (by omega)) (br_f (nI_nle (by omega) (by omega)) (tx_act_x (by omega) (by omega) hl hpl hs' eB eP eL (fun ψ w => tx_ex_7e hC hS hB hD hF hU (by omega) (by omega) eo hg ek hh eH hcs h2 r w) (nm_r (nI_1 t) q))))
              (fun post st rs tp n t ht q => ty_st_7e (by omega) (by omega) hl hpl hs' ht eB eP eL hC hS hT hK hB hD hV hU eo hg ek hh eH hcs h2 r (fun g => q _ _ g (fun z1 => absurd z1 hz.2)))
          · obtain ⟨l2, hl2, el2⟩ := hL.1 b' (by have := r.2.1; omega)
            exact tf_LK_step (ih (e + 1 + 1) (s + 1) (upd fA (e + 1) (fC e)) (upd fC (e + 1) (fC e)) (upd fT (e + 1) 0) (upd (upd fP e (nI (p + 1))) (e + 1) 0) (upd fB (e + 1) (nI b')) (upd fH (e + 1) (nI h')) (by omega) (by have := r.2.2.1; omega) (by omega) (tf_VF_push hv r.2.1 hl2 el2 r.1) (by omega))
              (fun post ls rr n t ht q => br_f (nI_ge (b := 1000000) ht (by omega)) (br_f (nI_nle (by omega) (by omega)) (tx_act_x (by omega) (by omega) hl hpl hs' eB eP eL (fun ψ w => tx_ex_7p hC hS hB hD hF hU (by omega) (by omega) eo hg ek hh eH hcs r w) (nm_r (nI_1 t) q))))
              (fun post st rs tp n t ht q => ty_st_7p (by omega) (by omega) hl hpl hs' ht eB eP eL hC hS hT hK hB hD hV hU eo hg ek hh eH hcs r q)
        · rcases Nat.eq_zero_or_pos e with e0 | e0
          · subst e0
            exact tf_LK_end (z := 1) (res := fC 0) (s' := s + 1) (fA1 := fA) (fC1 := fC) (fT1 := fT) (fP1 := upd fP 0 (nI (p + 1))) (fB1 := fB) (fH1 := fH) (by decide) (fun z => absurd rfl z)
              (fun post ls rr n t ht q => br_f (nI_ge (b := 1000000) ht (by omega)) (br_f (nI_nle (by omega) (by omega)) (tx_act_x (by omega) (by omega) hl hpl hs' eB eP eL (fun ψ w => tx_ex_8e (by omega) eo w) (nm_r (nI_1 t) q))))
              (fun post st rs tp n t ht q => ty_st_8e (by omega) hl hpl hs' ht eB eP eL eo (q _ _ _ (fun _ => rfl)))
          · obtain ⟨e, rfl⟩ : ∃ e', e = e' + 1 := ⟨e - 1, by omega⟩
            exact tf_LK_step (ih (e + 1) (s + 1) fA (upd fC e (fC (e + 1))) fT (upd fP (e + 1) (nI (p + 1))) fB fH (by omega) (by omega) (by omega) (tf_VF_le hv (by omega)) (by omega))
              (fun post ls rr n t ht q => br_f (nI_ge (b := 1000000) ht (by omega)) (br_f (nI_nle (by omega) (by omega)) (tx_act_x (by omega) (by omega) hl hpl hs' eB eP eL (fun ψ w => tx_ex_8r (by omega) (by omega) eo w) (nm_r (nI_1 t) q))))
              (fun post st rs tp n t ht q => ty_st_8r (by omega) (by omega) hl hpl hs' ht eB eP eL eo (q tp))
    · have epl : p = l := by omega
      subst epl
      rcases Nat.eq_zero_or_pos e with e0 | e0
      · subst e0
        exact tf_LK_end (z := 1) (res := fC 0) (s' := s) (fA1 := fA) (fC1 := fC) (fT1 := fT) (fP1 := fP) (fB1 := fB) (fH1 := fH) (by decide) (fun z => absurd rfl z)
          (fun post ls rr n t ht q => br_f (nI_ge (b := 1000000) ht (by omega)) (br_f (nI_nle (by omega) (by omega)) (tx_act_r (by omega) (by omega) eB eP eL (fun ψ w => tx_ret_0 w) (nm_r (nI_1 t) q))))
          (fun post st rs tp n t ht q => ty_st_e (by omega) ht eB eP eL (q _ _ _ (fun _ => rfl)))
      · obtain ⟨e, rfl⟩ : ∃ e', e = e' + 1 := ⟨e - 1, by omega⟩
        exact tf_LK_step (ih (e + 1) s fA (upd fC e (fC (e + 1))) fT fP fB fH (by omega) (by omega) (by omega) (tf_VF_le h4 (by omega)) (by omega))
          (fun post ls rr n t ht q => br_f (nI_ge (b := 1000000) ht (by omega)) (br_f (nI_nle (by omega) (by omega)) (tx_act_r (by omega) (by omega) eB eP eL (fun ψ w => tx_ret_s (by omega) w) (nm_r (nI_1 t) q))))
          (fun post st rs tp n t ht q => ty_st_r (by omega) (by omega) ht eB eP eL (q tp))
theorem i_vc_run {k : Nat} {u : SX} {v : SY} (I : i_Rel k u v) (hk : k + 4 ≤ 2052) (v1 : Int32) (v2 : Int32) (v3 : Int32) : wpX_run (fun r u' => wpY_run (fun r' v' => r' = r ∧ i_Rel (k + 4) u' v') v v1 v2 v3) u v1 v2 v3 := by
  obtain ⟨nC, nT, nS, nD, nB, nK, ls, rr, rc, sp, fc, dp, rs, L, op, kk, su, own, ow, tr, xe, ex, al, fl, tp, fA, fC, fT, fP, fB, fH, rfl, rfl, h⟩ := I
  obtain ⟨⟨hC, hT, hS, hD, hB, hK⟩, hL, hCE, hU, hO, hV, hA, hE, hF⟩ := id h
  by_cases a : tf_in v1 nC
  · by_cases b : tf_in v2 nS
    · obtain ⟨c, hc, rfl⟩ := a
      obtain ⟨s, hs, rfl⟩ := b
      have hcl : tf_cl nC (nI c) := Or.inr ⟨c, hc, rfl⟩
      unfold wpX_run
      refine tx_isClass_t hC.2 ⟨c, hc, rfl⟩ (br_f (by decide) (tx_isSelector_t hS.2 ⟨s, hs, rfl⟩ (br_f (by decide) ?_)))
      rcases tf_send (nB := nB) (nD := nD) (d := 0) (P := fun c => tf_PR own ow tr ex al nK c s) hC.2 hU (fun c' hc' => tf_gv_PR hT.2 hS.2 hV hO (by omega) hs) hcl (by omega) with ⟨z, r⟩ | ⟨b', h', r⟩
      · have hz := tf_SE_z r
        refine tx_send_e (d := 0) hC.2 hS.2 hB hD.2 hF hU hs hcl (by omega) r ⟨1, tx_end (n := 0) (t := 0) (by omega) ?_⟩
        unfold wpY_run
        exact tf_r1t (by omega) ⟨c, hc, rfl⟩ (ty_validSel_t hS.2 ⟨s, hs, rfl⟩ (br_f (by decide) (ty_send_e (d := 0) hC.2 hS.2 hT.2 hK hB hD.2 hV hU hs hcl (by omega) r (fun g => ⟨1, ty_end_z (n := 0) (t := 0) (by omega) hz.1 hz.2 ⟨rfl, tf_mk h⟩⟩))))
      · obtain ⟨l2, hl2, el2⟩ := hL.1 b' (by have := r.2.1; omega)
        obtain ⟨z, res, gA, gC, gT, gP, gB, gH, hX, hY⟩ := tf_lock (xe := xe) hC.2 hS.2 hT.2 hK hB hD.2 hV hU hF hO hL hCE hc 2001 (0 + 1) 0 (upd fA 0 v3) (upd fC 0 v3) (upd fT 0 0) (upd fP 0 0) (upd fB 0 (nI b')) (upd fH 0 (nI h')) (by omega) hD.1 (by omega) (tf_VF_push (fun i hi => absurd hi (by omega)) r.2.1 hl2 el2 r.1) (by omega)
        refine tx_send_p (d := 0) hC.2 hS.2 hB hD.2 hF hU hs hcl r ⟨2002, hX _ ls rr 2002 0 (by omega) (by omega) (fun sp => ?_)⟩
        unfold wpY_run
        exact tf_r1t (by omega) ⟨c, hc, rfl⟩ (ty_validSel_t hS.2 ⟨s, hs, rfl⟩ (br_f (by decide) (ty_send_p (d := 0) hC.2 hS.2 hT.2 hK hB hD.2 hV hU hs hcl r (fun g => ⟨2002, hY _ _ _ g 2002 0 (by omega) (by omega) (fun rs tp => ⟨rfl, tf_mk h⟩)⟩))))
    · unfold wpX_run
      refine tx_isClass_t hC.2 a (br_f (by decide) (tx_isSelector_f hS.2 b (br_t rfl ?_)))
      unfold wpY_run
      exact tf_r1t (by omega) a (ty_validSel_f hS.2 b (br_t rfl ⟨rfl, tf_mk h⟩))
  · unfold wpX_run
    refine tx_isClass_f hC.2 a (br_t rfl ?_)
    unfold wpY_run
    exact tf_r1f (by omega) a ⟨rfl, tf_mk h⟩
