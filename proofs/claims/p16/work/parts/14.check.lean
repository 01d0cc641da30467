/-! the law's checks of lookup -/
theorem qa_lk0 {nC nT nS nD nB nK : Nat} {ls rr rc sp fc : Int32} {L op kk su own ow tr xe al fl fA fC fT fP fB fH : Nat → Int32} {ex : Nat → Int32} {post : Int32 → Prop} (h : tf_Ok nC nT nS nD nB nK L op kk su own ow tr xe ex al fl) {c s : Nat} (hc : c < nC) (hs : s < nS) (p : post (tf_lw su (fun c => tf_PR own ow tr ex al nK c s) 0 8 (nI c))) : wpX_lookup post (nI nC, nI nT, nI nS, nI nD, nI nB, nI nK, ls, rr, rc, sp, fc, L, op, kk, su, own, ow, tr, xe, al, fl, fA, fC, fT, fP, fB, fH) (nI c) (nI s) 0 := by
  obtain ⟨⟨hC, hT, hS, hD, hB, hK⟩, hL, hCE, hU, hO, hV, hA, hE, hF⟩ := id h
  exact tx_lk_t (q := 0) hC.2 hS.2 hF hU hc hs (by omega) p
theorem qa_lk1 {nC nT nS nD nB nK : Nat} {ls rr rc sp fc : Int32} {L op kk su own ow tr xe al fl fA fC fT fP fB fH : Nat → Int32} {ex : Nat → Int32} {post : Int32 → Prop} (h : tf_Ok nC nT nS nD nB nK L op kk su own ow tr xe ex al fl) {c s : Nat} (hc : c < nC) (hs : s < nS) (p : post (tf_lw su (fun c => tf_PR own ow tr ex al nK c s) 0 8 (su c))) : wpX_lookup post (nI nC, nI nT, nI nS, nI nD, nI nB, nI nK, ls, rr, rc, sp, fc, L, op, kk, su, own, ow, tr, xe, al, fl, fA, fC, fT, fP, fB, fH) (nI c) (nI s) 1 := by
  obtain ⟨⟨hC, hT, hS, hD, hB, hK⟩, hL, hCE, hU, hO, hV, hA, hE, hF⟩ := id h
  exact tx_lk_t (q := 1) hC.2 hS.2 hF hU hc hs (by omega) p
theorem qa_lk2 {nC nT nS nD nB nK : Nat} {ls rr rc sp fc : Int32} {L op kk su own ow tr xe al fl fA fC fT fP fB fH : Nat → Int32} {ex : Nat → Int32} {post : Int32 → Prop} (h : tf_Ok nC nT nS nD nB nK L op kk su own ow tr xe ex al fl) {c s : Nat} (hc : c < nC) (hs : s < nS) (p : post (tf_lw su (fun c => tf_PR own ow tr ex al nK c s) 1 8 (nI c))) : wpX_lookup post (nI nC, nI nT, nI nS, nI nD, nI nB, nI nK, ls, rr, rc, sp, fc, L, op, kk, su, own, ow, tr, xe, al, fl, fA, fC, fT, fP, fB, fH) (nI c) (nI s) 2 := by
  obtain ⟨⟨hC, hT, hS, hD, hB, hK⟩, hL, hCE, hU, hO, hV, hA, hE, hF⟩ := id h
  exact tx_lk_t (q := 2) hC.2 hS.2 hF hU hc hs (by omega) p
theorem qa_lk3 {nC nT nS nD nB nK : Nat} {ls rr rc sp fc : Int32} {L op kk su own ow tr xe al fl fA fC fT fP fB fH : Nat → Int32} {ex : Nat → Int32} {post : Int32 → Prop} (h : tf_Ok nC nT nS nD nB nK L op kk su own ow tr xe ex al fl) {c s : Nat} (hc : c < nC) (hs : s < nS) (p : post (tf_lw su (fun c => tf_PR own ow tr ex al nK c s) 1 8 (su c))) : wpX_lookup post (nI nC, nI nT, nI nS, nI nD, nI nB, nI nK, ls, rr, rc, sp, fc, L, op, kk, su, own, ow, tr, xe, al, fl, fA, fC, fT, fP, fB, fH) (nI c) (nI s) 3 := by
  obtain ⟨⟨hC, hT, hS, hD, hB, hK⟩, hL, hCE, hU, hO, hV, hA, hE, hF⟩ := id h
  exact tx_lk_t (q := 3) hC.2 hS.2 hF hU hc hs (by omega) p
theorem qa_lw_eq {su P : Nat → Int32} {w x y : Int32} (e : tf_fh su P 8 x = tf_fh su P 8 y) : tf_lw su P w 8 x = tf_lw su P w 8 y := by
  unfold tf_lw
  rw [e]
theorem qa_734 {nC nT nS nD nB nK : Nat} {ls rr rc sp fc : Int32} {L op kk su own ow tr xe al fl fA fC fT fP fB fH : Nat → Int32} {ex : Nat → Int32} {post : Int32 → Prop} {N : Nat} {xs : Nat → Int32} {J112 : Int32 → Int32 → Int32 → Int32 → Int32 → Int32 → Int32 → Int32 → Int32 → Int32 → Int32 → Int32 → Int32 → Int32 → (Nat → Int32) → (Nat → Int32) → (Nat → Int32) → (Nat → Int32) → (Nat → Int32) → (Nat → Int32) → (Nat → Int32) → (Nat → Int32) → (Nat → Int32) → (Nat → Int32) → (Nat → Int32) → (Nat → Int32) → (Nat → Int32) → (Nat → Int32) → (Nat → Int32) → (Nat → Int32) → Prop} {J674 J692 : Int32 → Prop} {x5 x6 x7 x8 x10 x12 x13 : Int32} {kc ks : Nat} (h : tf_Ok nC nT nS nD nB nK L op kk su own ow tr xe ex al fl) {c s : Nat} (hc : c < nC) (hs : s < nS) (e12 : x12 = tf_lw su (fun c => tf_PR own ow tr ex al nK c s) 0 8 (su c)) (e13 : x13 = tf_lw su (fun c => tf_PR own ow tr ex al nK c s) 1 8 (su c)) (J : J692 (nI (s + 1))) : wL_law_734 post N xs J112 J674 J692 (nI nC) (nI nT) (nI nS) x5 x6 x7 x8 (nI c) x10 (nI s) x12 x13 kc ks (nI nC) (nI nT) (nI nS) (nI nD) (nI nB) (nI nK) ls rr rc sp fc L op kk su own ow tr xe al fl fA fC fT fP fB fH := by
  obtain ⟨⟨hC, hT, hS, hD, hB, hK⟩, hL, hCE, hU, hO, hV, hA, hE, hF⟩ := id h
  unfold wL_law_734
  refine qa_lk1 h hc hs (qa_lk3 h hc hs (br_t e12.symm (br_t e13.symm (tx_prov_t hC.2 hT.2 hS.2 (Or.inl hc) hs ?_))))
  rw [hF c s (Or.inl hc) hs]
  refine qa_lk0 h hc hs (qa_lk2 h hc hs ?_)
  by_cases z : tf_PR own ow tr ex al nK c s = -1
  · have e := qa_fh_c (P := fun c => tf_PR own ow tr ex al nK c s) hC.2 hU hc z
    exact br_t z (br_t (qa_lw_eq e) (br_t (qa_lw_eq e) (nm_r (nI_1 s) J)))
  · have e := qa_fh_s (su := su) (P := fun c => tf_PR own ow tr ex al nK c s) (c := c) (by omega) z
    refine br_f z (br_t ?_ (br_t ?_ (nm_r (nI_1 s) J)))
    · unfold tf_lw
      rw [if_pos rfl, e, if_neg (tf_m1 (by omega)), nI_clamp (by omega)]
    · unfold tf_lw
      rw [if_neg (by decide), e]
theorem qa_692 {nC nT nS nD nB nK : Nat} {ls rr rc sp fc : Int32} {L op kk su own ow tr xe al fl fA fC fT fP fB fH : Nat → Int32} {ex : Nat → Int32} {post : Int32 → Prop} {N : Nat} {xs : Nat → Int32} {J112 : Int32 → Int32 → Int32 → Int32 → Int32 → Int32 → Int32 → Int32 → Int32 → Int32 → Int32 → Int32 → Int32 → Int32 → (Nat → Int32) → (Nat → Int32) → (Nat → Int32) → (Nat → Int32) → (Nat → Int32) → (Nat → Int32) → (Nat → Int32) → (Nat → Int32) → (Nat → Int32) → (Nat → Int32) → (Nat → Int32) → (Nat → Int32) → (Nat → Int32) → (Nat → Int32) → (Nat → Int32) → (Nat → Int32) → Prop} {J674 : Int32 → Prop} {x5 x6 x7 x8 : Int32} {kc ks : Nat} (h : tf_Ok nC nT nS nD nB nK L op kk su own ow tr xe ex al fl) {c : Nat} (hc : c < nC) (J : J674 (nI (c + 1))) : ∀ d s, s + d = nS → wL_law_692 post N xs J112 J674 (nI nC) (nI nT) (nI nS) x5 x6 x7 x8 (nI c) (su c) kc ks (nI nC) (nI nT) (nI nS) (nI nD) (nI nB) (nI nK) ls rr rc sp fc L op kk su own ow tr xe al fl fA fC fT fP fB fH (d + 1) (nI s) := by
  obtain ⟨⟨hC, hT, hS, hD, hB, hK⟩, hL, hCE, hU, hO, hV, hA, hE, hF⟩ := id h
  intro d
  induction d with
  | zero =>
    intro s hs
    have e : s = nS := by omega
    rw [e]
    exact br_t Int32.le_rfl (nm_r (nI_1 c) J)
  | succ d ih =>
    intro s hs
    have t := ih (s + 1) (by omega)
    refine br_f (nI_ge (by omega) (by omega)) ?_
    rcases hU c hc with e | ⟨q, hq, e⟩
    · refine br_t e (qa_734 h hc (by omega) ?_ ?_ t)
      · unfold tf_lw
        rw [if_pos rfl, e, qa_fh_m1, if_pos rfl]
      · unfold tf_lw
        rw [if_neg (by decide), e, qa_fh_m1]
    · refine br_f (by rw [e]; exact tf_m1 (by omega)) ?_
      rw [e]
      rw [e] at t
      refine qa_lk0 h (by omega) (by omega) (qa_lk2 h (by omega) (by omega) (qa_734 h hc (by omega) ?_ ?_ t))
      · rw [e]
      · rw [e]
theorem qa_674 {nC nT nS nD nB nK : Nat} {ls rr rc sp fc : Int32} {L op kk su own ow tr xe al fl fA fC fT fP fB fH : Nat → Int32} {ex : Nat → Int32} {post : Int32 → Prop} {N : Nat} {xs : Nat → Int32} {J112 : Int32 → Int32 → Int32 → Int32 → Int32 → Int32 → Int32 → Int32 → Int32 → Int32 → Int32 → Int32 → Int32 → Int32 → (Nat → Int32) → (Nat → Int32) → (Nat → Int32) → (Nat → Int32) → (Nat → Int32) → (Nat → Int32) → (Nat → Int32) → (Nat → Int32) → (Nat → Int32) → (Nat → Int32) → (Nat → Int32) → (Nat → Int32) → (Nat → Int32) → (Nat → Int32) → (Nat → Int32) → (Nat → Int32) → Prop} {x5 x6 x7 x8 : Int32} {kc ks : Nat} (h : tf_Ok nC nT nS nD nB nK L op kk su own ow tr xe ex al fl) (J : ∀ y, y = x8 + 1 → J112 x5 x6 y (nI nC) (nI nT) (nI nS) (nI nD) (nI nB) (nI nK) ls rr rc sp fc L op kk su own ow tr xe al fl fA fC fT fP fB fH) : ∀ d c, c + d = nC → wL_law_674 post N xs J112 (nI nC) (nI nT) (nI nS) x5 x6 x7 x8 kc ks (nI nC) (nI nT) (nI nS) (nI nD) (nI nB) (nI nK) ls rr rc sp fc L op kk su own ow tr xe al fl fA fC fT fP fB fH (d + 1) (nI c) := by
  obtain ⟨⟨hC, hT, hS, hD, hB, hK⟩, hL, hCE, hU, hO, hV, hA, hE, hF⟩ := id h
  intro d
  induction d with
  | zero =>
    intro c hc
    have e : c = nC := by omega
    rw [e]
    exact br_t Int32.le_rfl J
  | succ d ih =>
    intro c hc
    exact br_f (nI_ge (by omega) (by omega)) (tx_sof_t hC.2 (by omega) ⟨nS + 1, qa_692 h (by omega) (ih (c + 1) (by omega)) nS 0 (by omega)⟩)
/-! the law's checks of provided -/
theorem qa_pv {nC nT nS nD nB nK : Nat} {ls rr rc sp fc : Int32} {L op kk su own ow tr xe al fl fA fC fT fP fB fH : Nat → Int32} {ex : Nat → Int32} {post : Int32 → Prop} (h : tf_Ok nC nT nS nD nB nK L op kk su own ow tr xe ex al fl) {u s : Nat} (hu : u < nT) (hs : s < nS) (p : post (tf_pv own ow tr ex al nK (u * 16 + s))) : wpX_provided post (nI nC, nI nT, nI nS, nI nD, nI nB, nI nK, ls, rr, rc, sp, fc, L, op, kk, su, own, ow, tr, xe, al, fl, fA, fC, fT, fP, fB, fH) (nI (8 + u)) (nI s) := by
  obtain ⟨⟨hC, hT, hS, hD, hB, hK⟩, hL, hCE, hU, hO, hV, hA, hE, hF⟩ := id h
  refine tx_prov_t hC.2 hT.2 hS.2 (Or.inr ⟨by omega, by omega⟩) hs ?_
  rw [hF (8 + u) s (Or.inr ⟨by omega, by omega⟩) hs, tf_PR_tr hT.2 hS.2 hV (by omega) hs]
  exact p
theorem qa_643 {nC nT nS nD nB nK : Nat} {ls rr rc sp fc : Int32} {L op kk su own ow tr xe al fl fA fC fT fP fB fH : Nat → Int32} {ex : Nat → Int32} {post : Int32 → Prop} {N : Nat} {xs : Nat → Int32} {J112 : Int32 → Int32 → Int32 → Int32 → Int32 → Int32 → Int32 → Int32 → Int32 → Int32 → Int32 → Int32 → Int32 → Int32 → (Nat → Int32) → (Nat → Int32) → (Nat → Int32) → (Nat → Int32) → (Nat → Int32) → (Nat → Int32) → (Nat → Int32) → (Nat → Int32) → (Nat → Int32) → (Nat → Int32) → (Nat → Int32) → (Nat → Int32) → (Nat → Int32) → (Nat → Int32) → (Nat → Int32) → (Nat → Int32) → Prop} {J466 J497 : Int32 → Prop} {x5 x6 x7 x8 x9 x13 : Int32} {kc ks : Nat} (h : tf_Ok nC nT nS nD nB nK L op kk su own ow tr xe ex al fl) {o s : Nat} (ho : o < nC ∨ (8 ≤ o ∧ o < 8 + nT)) (hs : s < nS) (e : x13 = tf_PR own ow tr ex al nK o s) (J : J497 (nI (s + 1))) : wL_law_643 post N xs J112 J466 J497 (nI nC) (nI nT) (nI nS) x5 x6 x7 x8 x9 (nI o) (nI s) x13 kc ks (nI nC) (nI nT) (nI nS) (nI nD) (nI nB) (nI nK) ls rr rc sp fc L op kk su own ow tr xe al fl fA fC fT fP fB fH := by
  obtain ⟨⟨hC, hT, hS, hD, hB, hK⟩, hL, hCE, hU, hO, hV, hA, hE, hF⟩ := id h
  unfold wL_law_643
  refine tx_prov_t hC.2 hT.2 hS.2 ho hs ?_
  rw [hF o s ho hs]
  exact br_t e.symm (nm_r (nI_1 s) J)
theorem qa_601 {nC nT nS nD nB nK : Nat} {ls rr rc sp fc : Int32} {L op kk su own ow tr xe al fl fA fC fT fP fB fH : Nat → Int32} {ex : Nat → Int32} {post : Int32 → Prop} {N : Nat} {xs : Nat → Int32} {J112 : Int32 → Int32 → Int32 → Int32 → Int32 → Int32 → Int32 → Int32 → Int32 → Int32 → Int32 → Int32 → Int32 → Int32 → (Nat → Int32) → (Nat → Int32) → (Nat → Int32) → (Nat → Int32) → (Nat → Int32) → (Nat → Int32) → (Nat → Int32) → (Nat → Int32) → (Nat → Int32) → (Nat → Int32) → (Nat → Int32) → (Nat → Int32) → (Nat → Int32) → (Nat → Int32) → (Nat → Int32) → (Nat → Int32) → Prop} {J466 J497 : Int32 → Prop} {J533 : Int32 → Int32 → Prop} {x5 x6 x7 x8 x9 x10 x13 : Int32} {kc ks : Nat} (h : tf_Ok nC nT nS nD nB nK L op kk su own ow tr xe ex al fl) {k s u : Nat} (hk : k < nK) (hs : s < nS) (hu : u < nT) (eu : tr k = nI u) (ha : al (k * 16 + s) = -1 ∨ ∃ r, r < nS ∧ al (k * 16 + s) = nI r) (J : J533 (tf_mg x13 (tf_ac tr al (tf_pv own ow tr ex al nK) k s)) (nI (k + 1))) : wL_law_601 post N xs J112 J466 J497 J533 (nI nC) (nI nT) (nI nS) x5 x6 x7 x8 x9 x10 (nI s) x13 (nI k) (nI (8 + u)) kc ks (nI nC) (nI nT) (nI nS) (nI nD) (nI nB) (nI nK) ls rr rc sp fc L op kk su own ow tr xe al fl fA fC fT fP fB fH := by
  obtain ⟨⟨hC, hT, hS, hD, hB, hK⟩, hL, hCE, hU, hO, hV, hA, hE, hF⟩ := id h
  unfold wL_law_601
  rw [tf_16]
  refine tx_ci_a hK hS.2 hk hs ?_
  unfold tf_ac at J
  rcases ha with a | ⟨r, hr, a⟩
  · rw [if_pos a, tf_mg_n] at J
    exact br_t a (nm_r (nI_1 k) J)
  · rw [a, if_neg (tf_m1 (by omega)), eu, nI_clamp (show u < 2 ^ 31 by omega), nI_clamp (show r < 2 ^ 31 by omega)] at J
    rw [a]
    exact br_f (tf_m1 (by omega)) (qa_pv h hu hr (qa_comb (nm_r (nI_1 k) J)))
theorem qa_533 {nC nT nS nD nB nK : Nat} {ls rr rc sp fc : Int32} {L op kk su own ow tr xe al fl fA fC fT fP fB fH : Nat → Int32} {ex : Nat → Int32} {post : Int32 → Prop} {N : Nat} {xs : Nat → Int32} {J112 : Int32 → Int32 → Int32 → Int32 → Int32 → Int32 → Int32 → Int32 → Int32 → Int32 → Int32 → Int32 → Int32 → Int32 → (Nat → Int32) → (Nat → Int32) → (Nat → Int32) → (Nat → Int32) → (Nat → Int32) → (Nat → Int32) → (Nat → Int32) → (Nat → Int32) → (Nat → Int32) → (Nat → Int32) → (Nat → Int32) → (Nat → Int32) → (Nat → Int32) → (Nat → Int32) → (Nat → Int32) → (Nat → Int32) → Prop} {J466 J497 : Int32 → Prop} {x5 x6 x7 x8 x9 : Int32} {kc ks : Nat} (h : tf_Ok nC nT nS nD nB nK L op kk su own ow tr xe ex al fl) {o s : Nat} (ho : o < nC ∨ (8 ≤ o ∧ o < 8 + nT)) (hs : s < nS) (z : own (o * 16 + s) = -1) (J : J497 (nI (s + 1))) : ∀ d k c, k + d = 16 → (k ≤ nK → c = k) → (nK < k → c = nK) → wL_law_533 post N xs J112 J466 J497 (nI nC) (nI nT) (nI nS) x5 x6 x7 x8 x9 (nI o) (nI s) kc ks (nI nC) (nI nT) (nI nS) (nI nD) (nI nB) (nI nK) ls rr rc sp fc L op kk su own ow tr xe al fl fA fC fT fP fB fH (d + 1) (tf_cs ow tr ex al (tf_pv own ow tr ex al nK) o s c) (nI k) := by
  obtain ⟨⟨hC, hT, hS, hD, hB, hK⟩, hL, hCE, hU, hO, hV, hA, hE, hF⟩ := id h
  intro d
  induction d with
  | zero =>
    intro k c hk h1 h2
    have e : c = nK := by
      rcases Nat.lt_or_ge nK k with a | a
      · exact h2 a
      · have := h1 a
        omega
    refine br_t (nI_le (a := 16) (by omega) (by omega)) (qa_643 h ho hs ?_ J)
    rw [e]
    unfold tf_PR tf_pf
    rw [if_pos z]
  | succ d ih =>
    intro k c hk h1 h2
    refine br_f (nI_ge (b := 16) (by omega) (by omega)) ?_
    by_cases hkn : k < nK
    · have ec := h1 (by omega)
      subst ec
      obtain ⟨o', u, g1, g2, g3, g4, g5, g6⟩ := hV c hkn
      have t := ih (c + 1) (c + 1) (by omega) (fun _ => rfl) (fun z => absurd z (by omega))
      simp only [tf_cs] at t
      refine tx_ci_0 hK hkn ?_
      by_cases cc : ow c = nI o
      · rw [if_pos cc] at t
        refine br_t cc (tx_ci_1 hK hkn (nm_r (by rw [g2, tf_8]) (tx_ci_2 hK hkn ?_)))
        have hx := qa_exs hS.2 hE (k := c) (s := s) (by omega) (by omega)
        unfold tf_dc at t
        by_cases x0 : ex (c * 16 + s) = 0
        · rw [if_pos x0, g2, nI_clamp (show u < 2 ^ 31 by omega)] at t
          exact br_t (hx.mpr x0) (qa_pv h g4 hs (qa_comb (qa_601 h hkn hs g4 g2 (g6 s hs) t)))
        · rw [if_neg x0, tf_mg_n] at t
          exact br_f (fun y => x0 (hx.mp y)) (qa_601 h hkn hs g4 g2 (g6 s hs) t)
      · rw [if_neg cc] at t
        exact br_f cc (nm_r (nI_1 c) t)
    · have ec : c = nK := by
        rcases Nat.lt_or_ge nK k with a | a
        · exact h2 a
        · have := h1 a
          omega
      refine tx_ci_f hK (fun ⟨j, hj, e⟩ => hkn ?_) (br_f ?_ (nm_r (nI_1 k) (ih (k + 1) c (by omega) (fun y => absurd y (by omega)) (fun _ => ec))))
      · have := (nI_eq (by omega) (by omega)).mp e
        omega
      · intro y
        have y2 := congrArg Int32.toInt y
        rw [nI_toInt (by omega), show (-3 : Int32).toInt = -3 from by decide] at y2
        omega
theorem qa_497 {nC nT nS nD nB nK : Nat} {ls rr rc sp fc : Int32} {L op kk su own ow tr xe al fl fA fC fT fP fB fH : Nat → Int32} {ex : Nat → Int32} {post : Int32 → Prop} {N : Nat} {xs : Nat → Int32} {J112 : Int32 → Int32 → Int32 → Int32 → Int32 → Int32 → Int32 → Int32 → Int32 → Int32 → Int32 → Int32 → Int32 → Int32 → (Nat → Int32) → (Nat → Int32) → (Nat → Int32) → (Nat → Int32) → (Nat → Int32) → (Nat → Int32) → (Nat → Int32) → (Nat → Int32) → (Nat → Int32) → (Nat → Int32) → (Nat → Int32) → (Nat → Int32) → (Nat → Int32) → (Nat → Int32) → (Nat → Int32) → (Nat → Int32) → Prop} {J466 : Int32 → Prop} {x5 x6 x7 x8 x9 : Int32} {kc ks : Nat} (h : tf_Ok nC nT nS nD nB nK L op kk su own ow tr xe ex al fl) {o : Nat} (ho : o < nC ∨ (8 ≤ o ∧ o < 8 + nT)) (J : ∀ y, y = x9 + 1 → J466 y) : ∀ d s, s + d = nS → wL_law_497 post N xs J112 J466 (nI nC) (nI nT) (nI nS) x5 x6 x7 x8 x9 (nI o) kc ks (nI nC) (nI nT) (nI nS) (nI nD) (nI nB) (nI nK) ls rr rc sp fc L op kk su own ow tr xe al fl fA fC fT fP fB fH (d + 1) (nI s) := by
  obtain ⟨⟨hC, hT, hS, hD, hB, hK⟩, hL, hCE, hU, hO, hV, hA, hE, hF⟩ := id h
  intro d
  induction d with
  | zero =>
    intro s hs
    have e : s = nS := by omega
    rw [e]
    exact br_t Int32.le_rfl J
  | succ d ih =>
    intro s hs
    have t := ih (s + 1) (by omega)
    refine br_f (nI_ge (by omega) (by omega)) (tx_own_t hC.2 hT.2 hS.2 ho (by omega) ?_)
    by_cases z : own (o * 16 + s) = -1
    · exact br_t z ⟨17, qa_533 h ho (by omega) z t 16 0 0 rfl (fun _ => rfl) (fun y => absurd y (by omega))⟩
    · refine br_f z (qa_643 h ho (by omega) ?_ t)
      unfold tf_PR tf_pf
      rw [if_neg z]
theorem qa_466 {nC nT nS nD nB nK : Nat} {ls rr rc sp fc : Int32} {L op kk su own ow tr xe al fl fA fC fT fP fB fH : Nat → Int32} {ex : Nat → Int32} {post : Int32 → Prop} {N : Nat} {xs : Nat → Int32} {J112 : Int32 → Int32 → Int32 → Int32 → Int32 → Int32 → Int32 → Int32 → Int32 → Int32 → Int32 → Int32 → Int32 → Int32 → (Nat → Int32) → (Nat → Int32) → (Nat → Int32) → (Nat → Int32) → (Nat → Int32) → (Nat → Int32) → (Nat → Int32) → (Nat → Int32) → (Nat → Int32) → (Nat → Int32) → (Nat → Int32) → (Nat → Int32) → (Nat → Int32) → (Nat → Int32) → (Nat → Int32) → (Nat → Int32) → Prop} {x5 x6 x7 x8 : Int32} {kc ks : Nat} (h : tf_Ok nC nT nS nD nB nK L op kk su own ow tr xe ex al fl) (J : ∀ y, y = x8 + 1 → J112 x5 x6 y (nI nC) (nI nT) (nI nS) (nI nD) (nI nB) (nI nK) ls rr rc sp fc L op kk su own ow tr xe al fl fA fC fT fP fB fH) : ∃ n, wL_law_466 post N xs J112 (nI nC) (nI nT) (nI nS) x5 x6 x7 x8 kc ks (nI nC) (nI nT) (nI nS) (nI nD) (nI nB) (nI nK) ls rr rc sp fc L op kk su own ow tr xe al fl fA fC fT fP fB fH n 0 := by
  obtain ⟨⟨hC, hT, hS, hD, hB, hK⟩, hL, hCE, hU, hO, hV, hA, hE, hF⟩ := id h
  have main : ∀ d i, i + d = nC + nT → wL_law_466 post N xs J112 (nI nC) (nI nT) (nI nS) x5 x6 x7 x8 kc ks (nI nC) (nI nT) (nI nS) (nI nD) (nI nB) (nI nK) ls rr rc sp fc L op kk su own ow tr xe al fl fA fC fT fP fB fH (d + 1) (nI i) := by
    intro d
    induction d with
    | zero =>
      intro i hi
      refine br_t ?_ ⟨nC + 1, qa_674 h J nC 0 (by omega)⟩
      rw [nI_add]
      exact nI_le (by omega) (by omega)
    | succ d ih =>
      intro i hi
      have t := ih (i + 1) (by omega)
      refine br_f ?_ (pk_le nC i (fun z => ?_) (fun z => ?_))
      · rw [nI_add]
        exact nI_ge (by omega) (by omega)
      · refine nm_r (e' := nI (8 + (i - nC))) ?_ ⟨nS + 1, qa_497 h (Or.inr ⟨by omega, by omega⟩) (nm_r (nI_1 i) t) nS 0 (by omega)⟩
        rw [tf_8, pk_sub (by omega)]
        exact congrArg nI (by omega)
      · exact ⟨nS + 1, qa_497 h (Or.inl z) (nm_r (nI_1 i) t) nS 0 (by omega)⟩
  exact ⟨nC + nT + 1, main (nC + nT) 0 (by omega)⟩
