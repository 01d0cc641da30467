/-! the walk upward, on both sides -/
theorem tx_findHome {nC nT nS nD nB nK : Nat} {ls rr rc sp fc : Int32} {L op kk su own ow tr xe al fl fA fC fT fP fB fH : Nat → Int32} {ex : Nat → Int32} {post : Int32 → Prop} (hC : nC ≤ 8) (hS : nS ≤ 16) (hF : tf_FL nC nT nS nK own ow tr ex al fl) (hU : tf_SV nC su) {s : Nat} (hs : s < nS) {x : Int32} (hx : tf_cl nC x) (p : post (tf_fh su (fun c => tf_PR own ow tr ex al nK c s) 8 x)) : wpX_findHome post (nI nC, nI nT, nI nS, nI nD, nI nB, nI nK, ls, rr, rc, sp, fc, L, op, kk, su, own, ow, tr, xe, al, fl, fA, fC, fT, fP, fB, fH) x (nI s) := by
  have main : ∀ d i x, i + d = 8 → tf_cl nC x → post (tf_fh su (fun c => tf_PR own ow tr ex al nK c s) d x) → wX_findHome_5 post (nI s) (nI nC) (nI nT) (nI nS) (nI nD) (nI nB) (nI nK) ls rr rc sp fc L op kk su own ow tr xe al fl fA fC fT fP fB fH (d + 1) x (nI i) := by
    intro d
    induction d with
    | zero =>
      intro i x hi hx q
      exact br_t (nI_le (a := 8) (by omega) (by omega)) q
    | succ d ih =>
      intro i x hi hx q
      simp only [tf_fh] at q
      refine br_f (nI_ge (b := 8) (by omega) (by omega)) ?_
      rcases hx with e | ⟨c, hc, e⟩
      · rw [if_pos e] at q
        exact br_t e q
      · subst e
        have h1 : ¬ nI c = -1 := tf_m1 (by omega)
        rw [if_neg h1, nI_clamp (show c < 2 ^ 31 by omega)] at q
        refine br_f h1 ?_
        rw [tf_ix, nI_clamp (show c * 16 + s < 2 ^ 31 by omega), nI_clamp (show c < 2 ^ 31 by omega), hF c s (Or.inl hc) hs]
        refine ⟨vp_in_nI (by omega) (by omega), ?_⟩
        by_cases z : tf_PR own ow tr ex al nK c s = -1
        · rw [if_pos z] at q
          exact br_t z ⟨vp_in_nI (by omega) (by omega), nm_e (nm_r (nI_1 i) (ih (i + 1) _ (by omega) (tf_SV_cl hU hc) q))⟩
        · rw [if_neg z] at q
          exact br_f z q
  exact ⟨9, main 8 0 x (by omega) hx p⟩
def tf_lw (su P : Nat → Int32) (w : Int32) (d : Nat) (x : Int32) : Int32 := if w = 0 then (if tf_fh su P d x = -1 then -1 else P (tf_fh su P d x).toNatClampNeg) else tf_fh su P d x
theorem ty_lookupFrom {nC nT nS nD nB nK : Nat} {dp rs st : Int32} {op kk L su own ow tr ex al tp fB fH fA fC fT fP : Nat → Int32} {post : Int32 → SY → Prop} (hC : nC ≤ 8) (hS : nS ≤ 16) (hT : nT ≤ 8) (hK : nK ≤ 16) (hV : tf_CV nT nS nK ow tr al) (hU : tf_SV nC su) {s : Nat} (hs : s < nS) {x w : Int32} (hx : tf_cl nC x) (p : ∀ g : Nat → Int32, post (tf_lw su (fun c => tf_PR own ow tr ex al nK c s) w 8 x) (nI nC, nI nT, nI nS, nI nD, nI nB, nI nK, dp, rs, st, op, kk, L, su, own, ow, tr, ex, al, g, fB, fH, fA, fC, fT, fP)) : wpY_lookupFrom post (nI nC, nI nT, nI nS, nI nD, nI nB, nI nK, dp, rs, st, op, kk, L, su, own, ow, tr, ex, al, tp, fB, fH, fA, fC, fT, fP) x (nI s) w := by
  have main : ∀ (g : Nat → Int32), (∀ t s, t < nT → s < nS → g (t * 16 + s) = tf_pv own ow tr ex al nK (t * 16 + s)) → ∀ d i x, i + d = 8 → tf_cl nC x → post (tf_lw su (fun c => tf_PR own ow tr ex al nK c s) w d x) (nI nC, nI nT, nI nS, nI nD, nI nB, nI nK, dp, rs, st, op, kk, L, su, own, ow, tr, ex, al, g, fB, fH, fA, fC, fT, fP) → wY_lookupFrom_10 post (nI s) w (nI nC) (nI nT) (nI nS) (nI nD) (nI nB) (nI nK) dp rs st op kk L su own ow tr ex al g fB fH fA fC fT fP (d + 1) x (nI i) := by
    intro g hg d
    induction d with
    | zero =>
      intro i x hi hx q
      unfold tf_lw at q
      simp only [tf_fh] at q
      refine br_t (nI_le (a := 8) (by omega) (by omega)) ?_
      by_cases hw : w = 0
      · rw [if_pos hw, if_pos trivial] at q
        exact q
      · rw [if_neg hw] at q
        exact q
    | succ d ih =>
      intro i x hi hx q
      refine br_f (nI_ge (b := 8) (by omega) (by omega)) ?_
      unfold tf_lw at q
      simp only [tf_fh] at q
      rcases hx with e | ⟨c, hc, e⟩
      · subst e
        rw [if_pos rfl, if_pos rfl] at q
        refine br_t (by decide) ?_
        by_cases hw : w = 0
        · rw [if_pos hw] at q
          exact q
        · rw [if_neg hw] at q
          exact q
      · subst e
        have h1 : ¬ nI c = -1 := tf_m1 (by omega)
        rw [if_neg h1, nI_clamp (show c < 2 ^ 31 by omega)] at q
        have hv : tf_pf own ow tr ex al g nK c s = tf_PR own ow tr ex al nK c s := tf_pf_congr hT hS hV (by omega) hs (fun u r hu _ hr => hg u r hu hr)
        refine br_f (nI_pos (by omega)) (br_t (nI_lt hc (by omega)) (ty_combine hS hT hK hV (by omega) hs ?_))
        rw [hv]
        by_cases z : tf_PR own ow tr ex al nK c s = -1
        · rw [if_pos z] at q
          refine br_t z ⟨vp_in_nI (by omega) (by omega), nm_e ?_⟩
          rw [nI_clamp (show c < 2 ^ 31 by omega)]
          exact nm_r (nI_1 i) (ih (i + 1) _ (by omega) (tf_SV_cl hU hc) q)
        · rw [if_neg z] at q
          refine br_f z ?_
          by_cases hw : w = 0
          · rw [if_pos hw, if_neg h1, nI_clamp (show c < 2 ^ 31 by omega)] at q
            exact br_t hw q
          · rw [if_neg hw] at q
            exact br_f hw q
  exact ty_ct hS hT hK hV (fun g hg => ⟨9, main g hg 8 0 x (by omega) hx (p g)⟩)
/-! a send, on both sides: it ends the run with a status, or makes a frame -/
def tf_SE (nC nB nD d : Nat) (su P : Nat → Int32) (x z : Int32) : Prop := (z = 2 ∧ tf_fh su P 8 x = -1) ∨ (z = 3 ∧ ∃ h, h < nC ∧ tf_fh su P 8 x = nI h ∧ P h = -2) ∨ (z = 4 ∧ d = nD ∧ ∃ h, h < nC ∧ tf_fh su P 8 x = nI h ∧ ∃ b, b < nB ∧ P h = nI b)
def tf_SP (nC nB nD d : Nat) (su P : Nat → Int32) (x : Int32) (b h : Nat) : Prop := h < nC ∧ b < nB ∧ d < nD ∧ tf_fh su P 8 x = nI h ∧ P h = nI b
theorem tf_send {nC nB nD d : Nat} {su P : Nat → Int32} {x : Int32} (hC : nC ≤ 8) (hU : tf_SV nC su) (hP : ∀ c, c < nC → tf_gv nB (P c)) (hx : tf_cl nC x) (hd : d ≤ nD) : (∃ z, tf_SE nC nB nD d su P x z) ∨ ∃ b h, tf_SP nC nB nD d su P x b h := by
  rcases tf_fh_cl (P := P) hC hU 8 x hx with e | ⟨h, hh, e, hn⟩
  · exact Or.inl ⟨2, Or.inl ⟨rfl, e⟩⟩
  · rcases hP h hh with g | g | ⟨b, hb, g⟩
    · exact absurd g hn
    · exact Or.inl ⟨3, Or.inr (Or.inl ⟨rfl, h, hh, e, g⟩)⟩
    · by_cases c : d = nD
      · exact Or.inl ⟨4, Or.inr (Or.inr ⟨rfl, c, h, hh, e, b, hb, g⟩)⟩
      · exact Or.inr ⟨b, h, hh, hb, by omega, e, g⟩
theorem tx_send_e {nC nT nS nD nB nK : Nat} {ls rr rc sp : Int32} {L op kk su own ow tr xe al fl fA fC fT fP fB fH : Nat → Int32} {ex : Nat → Int32} {post : SX → Prop} (hC : nC ≤ 8) (hS : nS ≤ 16) (hB : nB ≤ 16) (hD : nD ≤ 16) (hF : tf_FL nC nT nS nK own ow tr ex al fl) (hU : tf_SV nC su) {s d : Nat} (hs : s < nS) {x y z : Int32} (hx : tf_cl nC x) (hd : d ≤ nD) (h : tf_SE nC nB nD d su (fun c => tf_PR own ow tr ex al nK c s) x z) (p : post (nI nC, nI nT, nI nS, nI nD, nI nB, nI nK, z, 0, rc, sp, 0, L, op, kk, su, own, ow, tr, xe, al, fl, fA, fC, fT, fP, fB, fH)) : wpX_send post (nI nC, nI nT, nI nS, nI nD, nI nB, nI nK, ls, rr, rc, sp, nI d, L, op, kk, su, own, ow, tr, xe, al, fl, fA, fC, fT, fP, fB, fH) (nI s) y x := by
  unfold wpX_send
  refine tx_findHome hC hS hF hU hs hx ?_
  rcases h with ⟨rfl, e⟩ | ⟨rfl, h, hh, e, g⟩ | ⟨rfl, hd, h, hh, e, b, hb, g⟩
  · exact br_t e p
  · rw [e]
    refine br_f (tf_m1 (by omega)) ?_
    rw [tf_ix, nI_clamp (show h * 16 + s < 2 ^ 31 by omega), hF h s (Or.inl hh) hs]
    exact ⟨vp_in_nI (by omega) (by omega), nm_r g (br_t rfl p)⟩
  · rw [e]
    refine br_f (tf_m1 (by omega)) ?_
    rw [tf_ix, nI_clamp (show h * 16 + s < 2 ^ 31 by omega), hF h s (Or.inl hh) hs]
    exact ⟨vp_in_nI (by omega) (by omega), nm_r g (br_f (tf_m2 (by omega)) (br_t (by rw [hd]) p))⟩
theorem tx_send_p {nC nT nS nD nB nK : Nat} {ls rr rc sp : Int32} {L op kk su own ow tr xe al fl fA fC fT fP fB fH : Nat → Int32} {ex : Nat → Int32} {post : SX → Prop} (hC : nC ≤ 8) (hS : nS ≤ 16) (hB : nB ≤ 16) (hD : nD ≤ 16) (hF : tf_FL nC nT nS nK own ow tr ex al fl) (hU : tf_SV nC su) {s d b g : Nat} (hs : s < nS) {x y : Int32} (hx : tf_cl nC x) (h : tf_SP nC nB nD d su (fun c => tf_PR own ow tr ex al nK c s) x b g) (p : post (nI nC, nI nT, nI nS, nI nD, nI nB, nI nK, ls, rr, rc, sp, nI (d + 1), L, op, kk, su, own, ow, tr, xe, al, fl, upd fA d y, upd fC d y, upd fT d 0, upd fP d 0, upd fB d (nI b), upd fH d (nI g))) : wpX_send post (nI nC, nI nT, nI nS, nI nD, nI nB, nI nK, ls, rr, rc, sp, nI d, L, op, kk, su, own, ow, tr, xe, al, fl, fA, fC, fT, fP, fB, fH) (nI s) y x := by
  unfold wpX_send
  refine tx_findHome hC hS hF hU hs hx ?_
  obtain ⟨hg, hb, hd, e, g2⟩ := h
  have g3 : tf_PR own ow tr ex al nK g s = nI b := g2
  rw [e]
  refine br_f (tf_m1 (by omega)) ?_
  rw [tf_ix, nI_clamp (show g * 16 + s < 2 ^ 31 by omega), hF g s (Or.inl hg) hs]
  refine ⟨vp_in_nI (by omega) (by omega), nm_r g3 (br_f (tf_m2 (by omega)) (br_f (by rw [nI_eq (by omega) (by omega)]; omega) ?_))⟩
  unfold wpX_pushFrame
  dsimp only
  rw [nI_clamp (show d < 2 ^ 31 by omega)]
  have hv : vp_in (nI d) 16 := vp_in_nI (by omega) (by omega)
  exact ⟨hv, nm_e ⟨hv, nm_e ⟨hv, nm_e ⟨hv, nm_e ⟨hv, nm_e ⟨hv, nm_e (nm_r (nI_1 d) p)⟩⟩⟩⟩⟩⟩
theorem tf_lw1 {su P : Nat → Int32} {x : Int32} : tf_lw su P 1 8 x = tf_fh su P 8 x := if_neg (by decide)
theorem tf_lw0n {su P : Nat → Int32} {x : Int32} (e : tf_fh su P 8 x = -1) : tf_lw su P 0 8 x = -1 := by
  unfold tf_lw
  rw [if_pos rfl, if_pos e]
theorem tf_lw0s {su P : Nat → Int32} {x : Int32} {h : Nat} (hh : h < 8) (e : tf_fh su P 8 x = nI h) : tf_lw su P 0 8 x = P h := by
  unfold tf_lw
  rw [if_pos rfl, e, if_neg (tf_m1 (by omega)), nI_clamp (by omega)]
theorem ty_send_e {nC nT nS nD nB nK : Nat} {rs st : Int32} {op kk L su own ow tr ex al tp fB fH fA fC fT fP : Nat → Int32} {post : Int32 → SY → Prop} (hC : nC ≤ 8) (hS : nS ≤ 16) (hT : nT ≤ 8) (hK : nK ≤ 16) (hB : nB ≤ 16) (hD : nD ≤ 16) (hV : tf_CV nT nS nK ow tr al) (hU : tf_SV nC su) {s d : Nat} (hs : s < nS) {x y z : Int32} (hx : tf_cl nC x) (hd : d ≤ nD) (h : tf_SE nC nB nD d su (fun c => tf_PR own ow tr ex al nK c s) x z) (p : ∀ g : Nat → Int32, post z (nI nC, nI nT, nI nS, nI nD, nI nB, nI nK, nI d, rs, st, op, kk, L, su, own, ow, tr, ex, al, g, fB, fH, fA, fC, fT, fP)) : wpY_send post (nI nC, nI nT, nI nS, nI nD, nI nB, nI nK, nI d, rs, st, op, kk, L, su, own, ow, tr, ex, al, tp, fB, fH, fA, fC, fT, fP) (nI s) y x := by
  unfold wpY_send
  refine ty_lookupFrom hC hS hT hK hV hU hs hx (fun tp' => ?_)
  rcases h with ⟨rfl, e⟩ | ⟨rfl, h, hh, e, g⟩ | ⟨rfl, hd, h, hh, e, b, hb, g⟩
  · rw [tf_lw0n e]
    exact br_t rfl (p tp')
  · have g3 : tf_PR own ow tr ex al nK h s = -2 := g
    rw [tf_lw0s (by omega) e, g3]
    exact br_f (by decide) (br_t rfl (p tp'))
  · have g3 : tf_PR own ow tr ex al nK h s = nI b := g
    rw [tf_lw0s (by omega) e, g3]
    exact br_f (tf_m1 (by omega)) (br_f (tf_m2 (by omega)) (br_f (by rw [hd]; exact Int32.lt_irrefl) (p tp')))
theorem ty_send_p {nC nT nS nD nB nK : Nat} {rs st : Int32} {op kk L su own ow tr ex al tp fB fH fA fC fT fP : Nat → Int32} {post : Int32 → SY → Prop} (hC : nC ≤ 8) (hS : nS ≤ 16) (hT : nT ≤ 8) (hK : nK ≤ 16) (hB : nB ≤ 16) (hD : nD ≤ 16) (hV : tf_CV nT nS nK ow tr al) (hU : tf_SV nC su) {s d b g : Nat} (hs : s < nS) {x y : Int32} (hx : tf_cl nC x) (h : tf_SP nC nB nD d su (fun c => tf_PR own ow tr ex al nK c s) x b g) (p : ∀ t : Nat → Int32, post 0 (nI nC, nI nT, nI nS, nI nD, nI nB, nI nK, nI (d + 1), rs, st, op, kk, L, su, own, ow, tr, ex, al, t, upd fB d (nI b), upd fH d (nI g), upd fA d y, upd fC d y, upd fT d 0, upd fP d 0)) : wpY_send post (nI nC, nI nT, nI nS, nI nD, nI nB, nI nK, nI d, rs, st, op, kk, L, su, own, ow, tr, ex, al, tp, fB, fH, fA, fC, fT, fP) (nI s) y x := by
  unfold wpY_send
  refine ty_lookupFrom hC hS hT hK hV hU hs hx (fun tp' => ?_)
  obtain ⟨hg, hb, hd, e, g2⟩ := h
  have g3 : tf_PR own ow tr ex al nK g s = nI b := g2
  rw [tf_lw0s (by omega) e, g3]
  refine br_f (tf_m1 (by omega)) (br_f (tf_m2 (by omega)) (br_t (nI_lt hd (by omega)) (ty_lookupFrom hC hS hT hK hV hU hs hx (fun tp2 => ?_))))
  rw [tf_lw1, e]
  dsimp only
  rw [nI_clamp (show d < 2 ^ 31 by omega)]
  have hv : vp_in (nI d) 16 := vp_in_nI (by omega) (by omega)
  exact ⟨hv, nm_e ⟨hv, nm_e ⟨hv, nm_e ⟨hv, nm_e ⟨hv, nm_e ⟨hv, nm_e (nm_r (nI_1 d) (p tp2))⟩⟩⟩⟩⟩⟩
