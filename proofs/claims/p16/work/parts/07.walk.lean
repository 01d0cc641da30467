theorem tx_findHome {nC nT nS nD nB nK : Nat} {ls rr rc sp fc : Int32} {L op kk su own ow tr xe al fl fA fC fT fP fB fH : Nat → Int32} {ex : Nat → Int32} {post : Int32 → Prop} (hC : nC ≤ 8) (hS : nS ≤ 16) (hF : tf_FL nC nT nS nK own ow tr ex al fl) (hU : tf_SV nC su) {s : Nat} (hs : s < nS) {x : Int32} (hx : tf_cl nC x) (p : post (tf_fh su (fun c => tf_PR own ow tr ex al nK c s) 8 x)) : wpX_findHome post (nI nC, nI nT, nI nS, nI nD, nI nB, nI nK, ls, rr, rc, sp, fc, L, op, kk, su, own, ow, tr, xe, al, fl, fA, fC, fT, fP, fB, fH) x (nI s) := by
  have main : ∀ d i x, i + d = 8 → tf_cl nC x → post (tf_fh su (fun c => tf_PR own ow tr ex al nK c s) d x) → wX_findHome_5 post (nI s) (nI nC) (nI nT) (nI nS) (nI nD) (nI nB) (nI nK) ls rr rc sp fc L op kk su own ow tr xe al fl fA fC fT fP fB fH (d + 1) x (nI i) := by
    intro d
    induction d with
    | zero =>
      intro i x hi hx q
      exact br_t (nI_le (a := 8) (by omega) (by omega)) q
    | succ d ih =>
      intro i x hi hx q
      simp only [tf_fh] at q
      refine br_f (nI_ge (b := 8) (by omega) (by omega)) ?_
      rcases hx with e | ⟨c, hc, e⟩
      · rw [if_pos e] at q
        exact br_t e q
      · subst e
        have h1 : ¬ nI c = -1 := tf_m1 (by omega)
        rw [if_neg h1, nI_clamp (show c < 2 ^ 31 by omega)] at q
        refine br_f h1 ?_
        rw [tf_ix, nI_clamp (show c * 16 + s < 2 ^ 31 by omega), nI_clamp (show c < 2 ^ 31 by omega), hF c s (Or.inl hc) hs]
        refine ⟨vp_in_nI (by omega) (by omega), ?_⟩
        by_cases z : tf_PR own ow tr ex al nK c s = -1
        · rw [if_pos z] at q
          exact br_t z ⟨vp_in_nI (by omega) (by omega), nm_e (nm_r (nI_1 i) (ih (i + 1) _ (by omega) (tf_SV_cl hU hc) q))⟩
        · rw [if_neg z] at q
          exact br_f z q
  exact ⟨9, main 8 0 x (by omega) hx p⟩
def tf_lw (su P : Nat → Int32) (w : Int32) (d : Nat) (x : Int32) : Int32 := if w = 0 then (if tf_fh su P d x = -1 then -1 else P (tf_fh su P d x).toNatClampNeg) else tf_fh su P d x
theorem tf_lw1 {su P : Nat → Int32} {x : Int32} : tf_lw su P 1 8 x = tf_fh su P 8 x := if_neg (by decide)
theorem tf_lw0n {su P : Nat → Int32} {x : Int32} (e : tf_fh su P 8 x = -1) : tf_lw su P 0 8 x = -1 := by
  unfold tf_lw
  rw [if_pos rfl, if_pos e]
theorem tf_lw0s {su P : Nat → Int32} {x : Int32} {h : Nat} (hh : h < 8) (e : tf_fh su P 8 x = nI h) : tf_lw su P 0 8 x = P h := by
  unfold tf_lw
  rw [if_pos rfl, e, if_neg (tf_m1 (by omega)), nI_clamp (by omega)]
