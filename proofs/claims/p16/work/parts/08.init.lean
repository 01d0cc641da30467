theorem tx_clamp {post : Int32 → Prop} {v : Int32} {g : Nat} (p : post (nI (tf_cp v g))) : wpX_clamp post () v (nI g) := by
  by_cases c : v < 1
  · rw [tf_cp_1 c] at p
    exact br_f (Int32.not_le.mpr c) p
  · by_cases c2 : nI g < v
    · rw [tf_cp_g c c2] at p
      exact br_t (Int32.not_lt.mp c) (br_f (Int32.not_le.mpr c2) p)
    · rw [tf_cp_v c c2] at p
      exact br_t (Int32.not_lt.mp c) (br_t (Int32.not_lt.mp c2) p)
theorem tx_init {mc ms kc ks : Nat} {nC nT nS nD nB nK : Nat} {ls rr rc sp fc : Int32} {L op kk ow tr xe fA fC fT fP fB fH : Nat → Int32} {post : St2 → Prop} (p : post (nI nC, nI nT, nI nS, nI nD, nI nB, nI nK, ls, rr, rc, sp, fc, L, op, kk, tf_ini 8, tf_ini 256, ow, tr, xe, tf_ini 256, tf_ini 256, fA, fC, fT, fP, fB, fH)) : ∃ n, wX_init_216 post mc ms kc ks (nI nC) (nI nT) (nI nS) (nI nD) (nI nB) (nI nK) ls rr rc sp fc n 0 L op kk (tf_ini 0) (tf_ini 0) ow tr xe (tf_ini 0) (tf_ini 0) fA fC fT fP fB fH := by
  have c3 : ∀ d j, j + d = 256 → wX_init_273 post mc ms kc ks (nI nC) (nI nT) (nI nS) (nI nD) (nI nB) (nI nK) ls rr rc sp fc (d + 1) (nI j) L op kk (tf_ini 8) (tf_ini 256) ow tr xe (tf_ini j) (tf_ini 256) fA fC fT fP fB fH := by
    intro d
    induction d with
    | zero =>
      intro j hj
      have e : j = 256 := by omega
      rw [e]
      exact br_t (nI_le (a := 256) (by omega) (by omega)) p
    | succ d ih =>
      intro j hj
      exact br_f (nI_ge (b := 256) (by omega) (by omega)) ⟨vp_in_nI (by omega) (by omega), nm_r (by rw [nI_clamp (by omega), tf_ini_s]) (nm_r (nI_1 j) (ih (j + 1) (by omega)))⟩
  have c2 : ∀ d j, j + d = 256 → wX_init_240 post mc ms kc ks (nI nC) (nI nT) (nI nS) (nI nD) (nI nB) (nI nK) ls rr rc sp fc (d + 1) (nI j) L op kk (tf_ini 8) (tf_ini j) ow tr xe (tf_ini 0) (tf_ini j) fA fC fT fP fB fH := by
    intro d
    induction d with
    | zero =>
      intro j hj
      have e : j = 256 := by omega
      rw [e]
      exact br_t (nI_le (a := 256) (by omega) (by omega)) ⟨257, c3 256 0 rfl⟩
    | succ d ih =>
      intro j hj
      exact br_f (nI_ge (b := 256) (by omega) (by omega)) ⟨vp_in_nI (by omega) (by omega), nm_r (by rw [nI_clamp (by omega), tf_ini_s]) ⟨vp_in_nI (by omega) (by omega), nm_r (by rw [nI_clamp (by omega), tf_ini_s]) (nm_r (nI_1 j) (ih (j + 1) (by omega)))⟩⟩
  have c1 : ∀ d j, j + d = 8 → wX_init_216 post mc ms kc ks (nI nC) (nI nT) (nI nS) (nI nD) (nI nB) (nI nK) ls rr rc sp fc (d + 1) (nI j) L op kk (tf_ini j) (tf_ini 0) ow tr xe (tf_ini 0) (tf_ini 0) fA fC fT fP fB fH := by
    intro d
    induction d with
    | zero =>
      intro j hj
      have e : j = 8 := by omega
      rw [e]
      exact br_t (nI_le (a := 8) (by omega) (by omega)) ⟨257, c2 256 0 rfl⟩
    | succ d ih =>
      intro j hj
      exact br_f (nI_ge (b := 8) (by omega) (by omega)) ⟨vp_in_nI (by omega) (by omega), nm_r (by rw [nI_clamp (by omega), tf_ini_s]) (nm_r (nI_1 j) (ih (j + 1) (by omega)))⟩
  exact ⟨9, c1 8 0 rfl⟩
