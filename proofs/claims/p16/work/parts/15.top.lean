/-! one step of the law -/
theorem qa_n1 {n : Nat} (h : n < 1000) : ¬ nI n + 1 = 0 := by
  rw [nI_1]
  exact nI_ne0 (by omega) (by omega)
theorem qa_247 {nC nT nS nD nB nK : Nat} {ls rr rc sp fc : Int32} {L op kk su own ow tr xe al fl fA fC fT fP fB fH : Nat → Int32} {ex : Nat → Int32} {post : Int32 → Prop} {N : Nat} {xs : Nat → Int32} {J112 : Int32 → Int32 → Int32 → Int32 → Int32 → Int32 → Int32 → Int32 → Int32 → Int32 → Int32 → Int32 → Int32 → Int32 → (Nat → Int32) → (Nat → Int32) → (Nat → Int32) → (Nat → Int32) → (Nat → Int32) → (Nat → Int32) → (Nat → Int32) → (Nat → Int32) → (Nat → Int32) → (Nat → Int32) → (Nat → Int32) → (Nat → Int32) → (Nat → Int32) → (Nat → Int32) → (Nat → Int32) → (Nat → Int32) → Prop} {x7 x8 : Int32} {kc ks : Nat} {x12 x13 : Int32} (H : ∀ (nB nK : Nat) (L op kk su own ow tr xe ex al fl : Nat → Int32), tf_Ok nC nT nS nD nB nK L op kk su own ow tr xe ex al fl → ∃ n, wL_law_466 post N xs J112 (nI nC) (nI nT) (nI nS) (nI nB) (nI nK) x7 x8 kc ks (nI nC) (nI nT) (nI nS) (nI nD) (nI nB) (nI nK) ls rr rc sp fc L op kk su own ow tr xe al fl fA fC fT fP fB fH n 0) (h : tf_Ok nC nT nS nD nB nK L op kk su own ow tr xe ex al fl) : wL_law_247 post N xs J112 (nI nC) (nI nT) (nI nS) (nI nB) (nI nK) x7 x8 x12 x13 kc ks (nI nC) (nI nT) (nI nS) (nI nD) (nI nB) (nI nK) ls rr rc sp fc L op kk su own ow tr xe al fl fA fC fT fP fB fH := by
  unfold wL_law_247
  exact qa_md0 (by decide) (fun _ => qa_md0 (by decide) (fun _ => qa_emit h (fun _ _ _ _ h' => H _ _ _ _ _ _ _ _ _ _ _ _ _ h')))
theorem qa_283 {nC nT nS nD nB nK : Nat} {ls rr rc sp fc : Int32} {L op kk su own ow tr xe al fl fA fC fT fP fB fH : Nat → Int32} {ex : Nat → Int32} {post : Int32 → Prop} {N : Nat} {xs : Nat → Int32} {J112 : Int32 → Int32 → Int32 → Int32 → Int32 → Int32 → Int32 → Int32 → Int32 → Int32 → Int32 → Int32 → Int32 → Int32 → (Nat → Int32) → (Nat → Int32) → (Nat → Int32) → (Nat → Int32) → (Nat → Int32) → (Nat → Int32) → (Nat → Int32) → (Nat → Int32) → (Nat → Int32) → (Nat → Int32) → (Nat → Int32) → (Nat → Int32) → (Nat → Int32) → (Nat → Int32) → (Nat → Int32) → (Nat → Int32) → Prop} {x7 x8 : Int32} {kc ks : Nat} {x12 x13 x17 : Int32} (H : ∀ (nB nK : Nat) (L op kk su own ow tr xe ex al fl : Nat → Int32), tf_Ok nC nT nS nD nB nK L op kk su own ow tr xe ex al fl → ∃ n, wL_law_466 post N xs J112 (nI nC) (nI nT) (nI nS) (nI nB) (nI nK) x7 x8 kc ks (nI nC) (nI nT) (nI nS) (nI nD) (nI nB) (nI nK) ls rr rc sp fc L op kk su own ow tr xe al fl fA fC fT fP fB fH n 0) (h : tf_Ok nC nT nS nD nB nK L op kk su own ow tr xe ex al fl) : wL_law_283 post N xs J112 (nI nC) (nI nT) (nI nS) (nI nB) (nI nK) x7 x8 x12 x13 x17 kc ks (nI nC) (nI nT) (nI nS) (nI nD) (nI nB) (nI nK) ls rr rc sp fc L op kk su own ow tr xe al fl fA fC fT fP fB fH := by
  obtain ⟨⟨hC, hT, hS, hD, hB, hK⟩, hL, hCE, hU, hO, hV, hA, hE, hF⟩ := id h
  unfold wL_law_283
  exact qa_md0 (nI_ne0 hS.1 (by omega)) (fun _ => qa_md0 (qa_n1 (by omega)) (fun _ => qa_define h (fun _ _ _ h' => H _ _ _ _ _ _ _ _ _ _ _ _ _ h')))
theorem qa_350 {nC nT nS nD nB nK : Nat} {ls rr rc sp fc : Int32} {L op kk su own ow tr xe al fl fA fC fT fP fB fH : Nat → Int32} {ex : Nat → Int32} {post : Int32 → Prop} {N : Nat} {xs : Nat → Int32} {J112 : Int32 → Int32 → Int32 → Int32 → Int32 → Int32 → Int32 → Int32 → Int32 → Int32 → Int32 → Int32 → Int32 → Int32 → (Nat → Int32) → (Nat → Int32) → (Nat → Int32) → (Nat → Int32) → (Nat → Int32) → (Nat → Int32) → (Nat → Int32) → (Nat → Int32) → (Nat → Int32) → (Nat → Int32) → (Nat → Int32) → (Nat → Int32) → (Nat → Int32) → (Nat → Int32) → (Nat → Int32) → (Nat → Int32) → Prop} {x7 x8 : Int32} {kc ks : Nat} {x17 z0 : Int32} (H : ∀ (nB nK : Nat) (L op kk su own ow tr xe ex al fl : Nat → Int32), tf_Ok nC nT nS nD nB nK L op kk su own ow tr xe ex al fl → ∃ n, wL_law_466 post N xs J112 (nI nC) (nI nT) (nI nS) (nI nB) (nI nK) x7 x8 kc ks (nI nC) (nI nT) (nI nS) (nI nD) (nI nB) (nI nK) ls rr rc sp fc L op kk su own ow tr xe al fl fA fC fT fP fB fH n 0) (h : tf_Ok nC nT nS nD nB nK L op kk su own ow tr xe ex al fl) : wL_law_350 post N xs J112 (nI nC) (nI nT) (nI nS) (nI nB) (nI nK) x7 x8 x17 z0 kc ks (nI nC) (nI nT) (nI nS) (nI nD) (nI nB) (nI nK) ls rr rc sp fc L op kk su own ow tr xe al fl fA fC fT fP fB fH := by
  obtain ⟨⟨hC, hT, hS, hD, hB, hK⟩, hL, hCE, hU, hO, hV, hA, hE, hF⟩ := id h
  unfold wL_law_350
  exact qa_use h (br_t (by decide) (H _ _ _ _ _ _ _ _ _ _ _ _ _ h)) (fun _ _ _ h' => br_f (nI_pos (by omega)) (nm_r (nI_1 nK) (H _ _ _ _ _ _ _ _ _ _ _ _ _ h')))
theorem qa_324 {nC nT nS nD nB nK : Nat} {ls rr rc sp fc : Int32} {L op kk su own ow tr xe al fl fA fC fT fP fB fH : Nat → Int32} {ex : Nat → Int32} {post : Int32 → Prop} {N : Nat} {xs : Nat → Int32} {J112 : Int32 → Int32 → Int32 → Int32 → Int32 → Int32 → Int32 → Int32 → Int32 → Int32 → Int32 → Int32 → Int32 → Int32 → (Nat → Int32) → (Nat → Int32) → (Nat → Int32) → (Nat → Int32) → (Nat → Int32) → (Nat → Int32) → (Nat → Int32) → (Nat → Int32) → (Nat → Int32) → (Nat → Int32) → (Nat → Int32) → (Nat → Int32) → (Nat → Int32) → (Nat → Int32) → (Nat → Int32) → (Nat → Int32) → Prop} {x7 x8 : Int32} {kc ks : Nat} {x12 x15 x16 x17 : Int32} (H : ∀ (nB nK : Nat) (L op kk su own ow tr xe ex al fl : Nat → Int32), tf_Ok nC nT nS nD nB nK L op kk su own ow tr xe ex al fl → ∃ n, wL_law_466 post N xs J112 (nI nC) (nI nT) (nI nS) (nI nB) (nI nK) x7 x8 kc ks (nI nC) (nI nT) (nI nS) (nI nD) (nI nB) (nI nK) ls rr rc sp fc L op kk su own ow tr xe al fl fA fC fT fP fB fH n 0) (h : tf_Ok nC nT nS nD nB nK L op kk su own ow tr xe ex al fl) : wL_law_324 post N xs J112 (nI nC) (nI nT) (nI nS) (nI nB) (nI nK) x7 x8 x12 x15 x16 x17 kc ks (nI nC) (nI nT) (nI nS) (nI nD) (nI nB) (nI nK) ls rr rc sp fc L op kk su own ow tr xe al fl fA fC fT fP fB fH := by
  obtain ⟨⟨hC, hT, hS, hD, hB, hK⟩, hL, hCE, hU, hO, hV, hA, hE, hF⟩ := id h
  have w : wL_law_344 post N xs J112 (nI nC) (nI nT) (nI nS) (nI nB) (nI nK) x7 x8 x12 x17 kc ks (nI nC) (nI nT) (nI nS) (nI nD) (nI nB) (nI nK) ls rr rc sp fc L op kk su own ow tr xe al fl fA fC fT fP fB fH := by
    unfold wL_law_344
    exact qa_md0 (nI_ne0 hT.1 (by omega)) (fun _ => qa_350 H h)
  exact br_c (fun _ => w) (fun _ => br_c (fun _ => w) (fun hx => qa_md0 (fun z => hx (by rw [z]; exact Int32.le_rfl)) (fun _ => qa_350 H h)))
theorem qa_229 {nC nT nS nD nB nK : Nat} {ls rr rc sp fc : Int32} {L op kk su own ow tr xe al fl fA fC fT fP fB fH : Nat → Int32} {ex : Nat → Int32} {post : Int32 → Prop} {N : Nat} {xs : Nat → Int32} {J112 : Int32 → Int32 → Int32 → Int32 → Int32 → Int32 → Int32 → Int32 → Int32 → Int32 → Int32 → Int32 → Int32 → Int32 → (Nat → Int32) → (Nat → Int32) → (Nat → Int32) → (Nat → Int32) → (Nat → Int32) → (Nat → Int32) → (Nat → Int32) → (Nat → Int32) → (Nat → Int32) → (Nat → Int32) → (Nat → Int32) → (Nat → Int32) → (Nat → Int32) → (Nat → Int32) → (Nat → Int32) → (Nat → Int32) → Prop} {x7 x8 : Int32} {kc ks : Nat} {x10 x11 x12 x13 x15 x16 z0 : Int32} (H : ∀ (nB nK : Nat) (L op kk su own ow tr xe ex al fl : Nat → Int32), tf_Ok nC nT nS nD nB nK L op kk su own ow tr xe ex al fl → ∃ n, wL_law_466 post N xs J112 (nI nC) (nI nT) (nI nS) (nI nB) (nI nK) x7 x8 kc ks (nI nC) (nI nT) (nI nS) (nI nD) (nI nB) (nI nK) ls rr rc sp fc L op kk su own ow tr xe al fl fA fC fT fP fB fH n 0) (h : tf_Ok nC nT nS nD nB nK L op kk su own ow tr xe ex al fl) : wL_law_229 post N xs J112 (nI nC) (nI nT) (nI nS) (nI nB) (nI nK) x7 x8 x10 x11 x12 x13 x15 x16 z0 kc ks (nI nC) (nI nT) (nI nS) (nI nD) (nI nB) (nI nK) ls rr rc sp fc L op kk su own ow tr xe al fl fA fC fT fP fB fH := by
  obtain ⟨⟨hC, hT, hS, hD, hB, hK⟩, hL, hCE, hU, hO, hV, hA, hE, hF⟩ := id h
  unfold wL_law_229
  refine br_c (fun _ => ?_) (fun _ => br_c (fun _ => qa_283 H h) (fun _ => br_c (fun _ => qa_283 H h) (fun _ => br_c (fun _ => qa_324 H h) (fun _ => br_c (fun _ => qa_324 H h) (fun _ => br_c (fun _ => ?_) (fun _ => br_c (fun _ => ?_) (fun _ => ?_)))))))
  · exact qa_begin h (br_t (by decide) (qa_247 H h)) (fun h' => br_f (nI_pos (by omega)) (nm_r (nI_1 nB) (qa_247 H h')))
  · exact qa_md0 (qa_n1 (by omega)) (fun _ => qa_md0 (nI_ne0 hS.1 (by omega)) (fun _ => qa_exclude h (fun _ _ _ _ h' => H _ _ _ _ _ _ _ _ _ _ _ _ _ h')))
  · exact qa_md0 (qa_n1 (by omega)) (fun _ => qa_md0 (nI_ne0 hS.1 (by omega)) (fun _ => qa_md0 (nI_ne0 hS.1 (by omega)) (fun _ => qa_alias h (fun _ _ _ h' => H _ _ _ _ _ _ _ _ _ _ _ _ _ h'))))
  · exact qa_md (by omega) (by omega) (fun j hj => qa_md0 (qa_n1 (by omega)) (fun _ => qa_setSuper h (fun _ _ h' => H _ _ _ _ _ _ _ _ _ _ _ _ _ h')))
theorem qa_200 {nC nT nS nD nB nK : Nat} {ls rr rc sp fc : Int32} {L op kk su own ow tr xe al fl fA fC fT fP fB fH : Nat → Int32} {ex : Nat → Int32} {post : Int32 → Prop} {N : Nat} {xs : Nat → Int32} {J112 : Int32 → Int32 → Int32 → Int32 → Int32 → Int32 → Int32 → Int32 → Int32 → Int32 → Int32 → Int32 → Int32 → Int32 → (Nat → Int32) → (Nat → Int32) → (Nat → Int32) → (Nat → Int32) → (Nat → Int32) → (Nat → Int32) → (Nat → Int32) → (Nat → Int32) → (Nat → Int32) → (Nat → Int32) → (Nat → Int32) → (Nat → Int32) → (Nat → Int32) → (Nat → Int32) → (Nat → Int32) → (Nat → Int32) → Prop} {x7 x8 : Int32} {kc ks : Nat} {x10 x11 x12 x13 x14 z0 : Int32} (H : ∀ (nB nK : Nat) (L op kk su own ow tr xe ex al fl : Nat → Int32), tf_Ok nC nT nS nD nB nK L op kk su own ow tr xe ex al fl → ∃ n, wL_law_466 post N xs J112 (nI nC) (nI nT) (nI nS) (nI nB) (nI nK) x7 x8 kc ks (nI nC) (nI nT) (nI nS) (nI nD) (nI nB) (nI nK) ls rr rc sp fc L op kk su own ow tr xe al fl fA fC fT fP fB fH n 0) (h : tf_Ok nC nT nS nD nB nK L op kk su own ow tr xe ex al fl) : wL_law_200 post N xs J112 (nI nC) (nI nT) (nI nS) (nI nB) (nI nK) x7 x8 x10 x11 x12 x13 x14 z0 kc ks (nI nC) (nI nT) (nI nS) (nI nD) (nI nB) (nI nK) ls rr rc sp fc L op kk su own ow tr xe al fl fA fC fT fP fB fH := by
  obtain ⟨⟨hC, hT, hS, hD, hB, hK⟩, hL, hCE, hU, hO, hV, hA, hE, hF⟩ := id h
  unfold wL_law_200
  exact ⟨nI_ne0 hT.1 (by omega), nm_e (br_c (fun _ => ⟨nI_ne0 hC.1 (by omega), qa_229 H h⟩) (fun _ => qa_229 H h))⟩
theorem qa_cellx {post : Int32 → Prop} {N : Nat} {xs : Nat → Int32} {x : Int32} {j : Nat} (e : x = nI j) (hN : N < 2 ^ 31) (hj : j < 2 ^ 31) (p : ∀ r, post r) : wpL_cell post N xs () x := by
  rw [e]
  exact qa_cell hN hj p
/-! the law's loop over steps -/
theorem qa_112 {nC nT nS nD : Nat} {ls rr rc sp fc : Int32} {fA fC fT fP fB fH : Nat → Int32} {post : Int32 → Prop} {N T : Nat} {xs : Nat → Int32} {kc ks : Nat} (hN : N ≤ 260) (hT : T ≤ 100) (p : post 1) : ∀ d t (nB nK : Nat) (L op kk su own ow tr xe ex al fl : Nat → Int32), t + d = T + 1 → tf_Ok nC nT nS nD nB nK L op kk su own ow tr xe ex al fl → wL_law_112 post N xs (nI nC) (nI nT) (nI nS) (nI T) kc ks (d + 1) (nI nB) (nI nK) (nI t) (nI nC) (nI nT) (nI nS) (nI nD) (nI nB) (nI nK) ls rr rc sp fc L op kk su own ow tr xe al fl fA fC fT fP fB fH := by
  intro d
  induction d with
  | zero =>
    intro t nB nK L op kk su own ow tr xe ex al fl ht h
    exact br_t (nI_lt (by omega) (by omega)) p
  | succ d ih =>
    intro t nB nK L op kk su own ow tr xe ex al fl ht h
    have H : ∀ (nB nK : Nat) (L op kk su own ow tr xe ex al fl : Nat → Int32), tf_Ok nC nT nS nD nB nK L op kk su own ow tr xe ex al fl → ∃ n, wL_law_466 post N xs (wL_law_112 post N xs (nI nC) (nI nT) (nI nS) (nI T) kc ks (d + 1)) (nI nC) (nI nT) (nI nS) (nI nB) (nI nK) (nI T) (nI t) kc ks (nI nC) (nI nT) (nI nS) (nI nD) (nI nB) (nI nK) ls rr rc sp fc L op kk su own ow tr xe al fl fA fC fT fP fB fH n 0 := fun nB nK L op kk su own ow tr xe ex al fl h' => qa_466 h' (nm_r (nI_1 t) (ih (t + 1) nB nK L op kk su own ow tr xe ex al fl (by omega) h'))
    refine br_f (nI_nlt (by omega) (by omega)) (pk_le t 0 (fun _ => H _ _ _ _ _ _ _ _ _ _ _ _ _ h) (fun z => ?_))
    obtain ⟨t, rfl⟩ : ∃ t', t = t' + 1 := ⟨t - 1, by omega⟩
    have e9 : (3 : Int32) + 4 * (nI (t + 1) - 1) = nI (3 + 4 * t) := by
      rw [nI_pred]
      show nI 3 + nI 4 * nI t = _
      rw [pk_mul, nI_add]
    exact nm_r e9 (qa_cellx rfl (by omega) (by omega) (fun _ => qa_md0 (by decide) (fun _ => qa_cellx (nI_1 _) (by omega) (by omega) (fun _ => qa_cellx (nI_add _ 2) (by omega) (by omega) (fun _ => qa_cellx (nI_add _ 3) (by omega) (by omega) (fun _ => qa_md0 (by decide) (fun _ => br_c (fun _ => qa_200 H h) (fun _ => qa_200 H h))))))))
theorem qa_59 {nC nT nS nD : Nat} {ls rr rc sp fc : Int32} {su own ow tr xe ex al fl fA fC fT fP fB fH : Nat → Int32} {post : Int32 → Prop} {N : Nat} {xs : Nat → Int32} {kc ks : Nat} (hN : N ≤ 260) (p : post 1) : ∀ d i (nB : Nat) (L op kk : Nat → Int32), i + d = 3 → tf_Ok nC nT nS nD nB 0 L op kk su own ow tr xe ex al fl → wL_law_59 post N xs (nI nC) (nI nT) (nI nS) 0 kc ks (d + 1) (nI nB) (nI i) (nI nC) (nI nT) (nI nS) (nI nD) (nI nB) (nI 0) ls rr rc sp fc L op kk su own ow tr xe al fl fA fC fT fP fB fH := by
  intro d
  induction d with
  | zero =>
    intro i nB L op kk hi h
    refine br_t (nI_le (a := 3) (by omega) (by omega)) (pk_le (x := Int32.ofNat N) N 3 (fun _ => ⟨2, qa_112 (T := 0) hN (by omega) p 1 0 nB 0 L op kk su own ow tr xe ex al fl (by omega) h⟩) (fun z => ⟨by decide, nm_r (e' := nI ((N - 3) / 4)) ?_ ⟨(N - 3) / 4 + 1 + 1, qa_112 hN (by omega) p ((N - 3) / 4 + 1) 0 nB 0 L op kk su own ow tr xe ex al fl (by omega) h⟩⟩))
    show (nI N - nI 3) / nI 4 = _
    rw [pk_sub (by omega), pk_div (by omega) (by omega) (by omega)]
  | succ d ih =>
    intro i nB L op kk hi h
    have w : ∀ (nB : Nat) (L op kk : Nat → Int32), tf_Ok nC nT nS nD nB 0 L op kk su own ow tr xe ex al fl → wL_law_76 post N xs (wL_law_59 post N xs (nI nC) (nI nT) (nI nS) 0 kc ks (d + 1)) (nI nC) (nI nT) (nI nS) (nI nB) 0 (nI i) kc ks (nI nC) (nI nT) (nI nS) (nI nD) (nI nB) (nI 0) ls rr rc sp fc L op kk su own ow tr xe al fl fA fC fT fP fB fH := by
      intro nB L op kk h
      unfold wL_law_76
      exact qa_emit h (fun _ L' op' kk' h' => nm_r (nI_1 i) (ih (i + 1) nB L' op' kk' (by omega) h'))
    have hB := h.1.2.2.2.2.1
    exact br_f (nI_ge (b := 3) (by omega) (by omega)) (qa_begin h (br_t (by decide) (w nB L op kk h)) (fun h' => br_f (nI_pos (by omega)) (nm_r (nI_1 nB) (w (nB + 1) L op kk h'))))
theorem qa_cp {n g : Nat} (h1 : 1 ≤ n) (h2 : n ≤ g) (hg : g < 2 ^ 31) : nI (tf_cp (nI n) g) = nI n := tf_cp_v (nI_nlt (b := 1) h1 (by omega)) (nI_nlt h2 hg)
theorem qa_clamp {post : Int32 → Prop} {n g : Nat} (h1 : 1 ≤ n) (h2 : n ≤ g) (hg : g < 2 ^ 31) (p : post (nI n)) : wpX_clamp post () (nI n) (nI g) := tx_clamp (by rw [qa_cp h1 h2 hg]; exact p)
theorem qa_init {nC nT nS : Nat} {post : St2 → Prop} (hC : 1 ≤ nC ∧ nC ≤ 8) (hT : 1 ≤ nT ∧ nT ≤ 8) (hS : 1 ≤ nS ∧ nS ≤ 16) (p : post (nI nC, nI nT, nI nS, nI 4, nI 0, nI 0, 0, 0, 0, 0, 0, fun _ => 0, fun _ => 0, fun _ => 0, tf_ini 8, tf_ini 256, fun _ => 0, fun _ => 0, fun _ => 0, tf_ini 256, tf_ini 256, fun _ => 0, fun _ => 0, fun _ => 0, fun _ => 0, fun _ => 0, fun _ => 0)) : wpX_init post 16 1448 (0, 0, 0, 0, 0, 0, 0, 0, 0, 0, 0) (nI nC) (nI nT) (nI nS) 4 := by
  have hX := tx_init (mc := 16) (ms := 1448) (kc := 16) (ks := 1448) (post := post) p
  rw [tf_ini_0] at hX
  unfold wpX_init
  refine ⟨by omega, by omega, by omega, by omega, by omega, by omega, by omega, by omega, by omega, by omega, by omega, by omega, by omega, by omega, by omega, by omega, by omega, by omega, by omega, by omega, by omega, by omega, by omega, by omega, by omega, by omega, by omega, by omega, by omega, by omega, by omega, by omega, ?_⟩
  exact qa_clamp (g := 8) hC.1 hC.2 (by omega) (qa_clamp (g := 8) hT.1 hT.2 (by omega) (qa_clamp (g := 16) hS.1 hS.2 (by omega) (qa_clamp (n := 4) (g := 16) (by omega) (by omega) (by omega) hX)))
theorem i_vc (xs : Nat → Int32) (L : Nat) (hL : L ≤ 260) : wpL_law (fun r => r = 1) L xs := by
  unfold wpL_law
  refine qa_cellx (j := 0) rfl (by omega) (by omega) (fun _ => qa_md (n := 5) (by omega) (by omega) (fun a ha => nm_r (nI_add 1 a) (qa_cellx (j := 1) rfl (by omega) (by omega) (fun _ => qa_md (n := 5) (by omega) (by omega) (fun b hb => nm_r (nI_add 1 b) (qa_cellx (j := 2) rfl (by omega) (by omega) (fun _ => qa_md (n := 6) (by omega) (by omega) (fun c hc => nm_r (nI_add 1 c) ?_))))))))
  refine ⟨16, 1448, by omega, by omega, qa_init ⟨by omega, by omega⟩ ⟨by omega, by omega⟩ ⟨by omega, by omega⟩ ⟨4, ?_⟩⟩
  exact qa_59 (post := fun r => r = 1) (nC := 1 + a) (nT := 1 + b) (nS := 1 + c) (nD := 4) hL rfl 3 0 0 _ _ _ rfl (tf_ok0 (nC := 1 + a) (nT := 1 + b) (nS := 1 + c) ⟨by omega, by omega⟩ ⟨by omega, by omega⟩ ⟨by omega, by omega⟩ ⟨by omega, by omega⟩)
