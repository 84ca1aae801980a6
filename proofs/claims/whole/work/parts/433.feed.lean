theorem shr24 : (((24 : Int32) &&& 31).toBitVec.smod 32).toNat = 24 := by decide
theorem sh_u : ∀ k, k < 32 → (((nI k).toUInt32 &&& Int32.toUInt32 31).toBitVec % 32).toNat = k := by decide +kernel
theorem sh_s : ∀ k, k < 32 → ((nI k &&& 31).toBitVec.smod 32).toNat = k := by decide +kernel
/-- a byte of a number: both shifts give it -/
theorem byte_eq (x : Int32) (k : Nat) (hk : k = 24 ∨ k = 16 ∨ k = 8 ∨ k = 0) : ∃ v : Nat, v < 256 ∧ ((x.toUInt32 >>> ((nI k).toUInt32 &&& Int32.toUInt32 31)).toInt32) &&& 255 = nI v ∧ (x >>> (nI k &&& 31)) &&& 255 = nI v := by
  have e1 := pk_and ((x.toUInt32 >>> ((nI k).toUInt32 &&& Int32.toUInt32 31)).toInt32) (m := 255) 8 (by decide)
  have e2 := pk_and (x >>> (nI k &&& 31)) (m := 255) 8 (by decide)
  have f1 := pk_ushr x (nI k) k (sh_u k (by omega))
  have f2 := pk_shr x (nI k &&& 31) k (sh_s k (by omega))
  refine ⟨_, ?_, e1, ?_⟩
  · exact Nat.mod_lt _ (by decide)
  · rw [e2]
    congr 1
    rw [f1]
    generalize (x >>> (nI k &&& 31)) = y at f2
    have g1 : x.toInt = x.toBitVec.toInt := rfl
    have g2 : y.toInt = y.toBitVec.toInt := rfl
    rw [g1, g2, BitVec.toInt_eq_toNat_cond, BitVec.toInt_eq_toNat_cond] at f2
    have b1 := x.toBitVec.isLt
    have b2 := y.toBitVec.isLt
    generalize x.toBitVec.toNat = a at *
    generalize y.toBitVec.toNat = b at *
    rw [Int.shiftRight_eq_div_pow] at f2
    rcases hk with rfl | rfl | rfl | rfl <;> simp only [Nat.reducePow, Nat.reduceMul] at * <;> split at f2 <;> split at f2 <;> omega
theorem rs_byte {σ τ : St} {n v : Nat} (hn : σ 24 1 = nI n) (hlt : n < 600) (hv : v < 256) (h : Rel σ τ) : Rel (st_put (st_put σ 25 n (nI v)) 24 1 (nI (n + 1))) (st_put (st_put τ 13 n (nI v)) 0 18 (nI (n + 1))) := by
  obtain ⟨h1, h2, h3, h4, h5, h6, h7, h8, h9, h10, h11, h12, h13, h14, h15, h16, h17, h18, h19, h20, h21, h22, h23, h24, h25, h26⟩ := h
  refine ⟨by simpa [st_put, st_row, upd] using h1, by simpa [st_put, st_row, upd] using h2, by simpa [st_put, st_row, upd] using h3, by simpa [st_put, st_row, upd] using h4, by simpa [st_put, st_row, upd] using h5, by simpa [st_put, st_row, upd] using h6, by simpa [st_put, st_row, upd] using h7, by simpa [st_put, st_row, upd] using h8, by simpa [st_put, st_row, upd] using h9, by simpa [st_put, st_row, upd] using h10, by simpa [st_put, st_row, upd] using h11, by simpa [st_put, st_row, upd] using h12, by simpa [st_put, st_row, upd] using h13, by simpa [st_put, st_row, upd] using h14, by simpa [st_put, st_row, upd] using h15, by simpa [st_put, st_row, upd] using h16, by simpa [st_put, st_row, upd] using h17, by simpa [st_put, st_row, upd] using h18, ?_, by simpa [st_put, st_row, upd] using h20, r_txt_fr h21 (fun a ha => by rw [sp_ge (by omega) a ha, sp_ge (by omega) a ha]) (by simp [st_put, st_row, upd]) (by simp [st_put, st_row, upd]) (by simp [st_put, st_row, upd]) (by simp [st_put, st_row, upd]) (by simp [st_put, st_row, upd]) (fun a h1 h2 => by rw [sp_txt (by omega) a h1 h2, sp_txt (by omega) a h1 h2]), by simpa [st_put, st_row, upd] using h22, by simpa [st_put, st_row, upd] using h23, by simpa [st_put, st_row, upd] using h24, by simpa [st_put, st_row, upd] using h25, by simpa [st_put, st_row, upd] using h26⟩
  obtain ⟨m, g1, g2, g3, g4⟩ := h19
  have e : m = n := (nI_eq (by omega) (by omega)).mp (by rw [← g2, ← hn])
  subst e
  refine ⟨m + 1, by omega, by simp [st_put, st_row, upd], by simp [st_put, st_row, upd], fun j hj => ?_⟩
  by_cases e : j = m
  · exact ⟨v, hv, by simp [st_put, st_row, upd, e], by simp [st_put, st_row, upd, e]⟩
  · simpa [st_put, st_row, upd, e] using g4 j (by omega)
theorem ab_step {m n v k : Nat} {σ : St} {x : Int32} (hk : k < 32) (hn : σ 24 1 = nI n) (hlt : n < 600) (hv : ((x.toUInt32 >>> ((nI k).toUInt32 &&& Int32.toUInt32 31)).toInt32) &&& 255 = nI v) : fX4_addBytes_3 (m + 1) σ x (nI k) = fX4_addBytes_3 m (st_put (st_put σ 25 n (nI v)) 24 1 (nI (n + 1))) x (nI k + (-8)) := by
  show fX4_addBytes_3B (fX4_addBytes_3 m) σ x (nI k) = _
  unfold fX4_addBytes_3B
  rw [if_neg (nI_lt0 (by omega)), hn, if_neg (show ¬ 600 ≤ nI n from fun q => absurd ((nI_leI (a := 600) (b := n) (by omega) (by omega)).mp q) (by omega)), p_wrN hlt (by omega), hv]
  simp only [p_nmS]
  rw [show st_put σ 25 n (nI v) 24 1 = nI n by simp [st_put, st_row, hn], ← nI_succ]
theorem pt_step {m n v k : Nat} {τ : St} {x : Int32} (hk : k < 32) (hn : τ 0 18 = nI n) (hlt : n < 600) (hv : (x >>> (nI k &&& 31)) &&& 255 = nI v) : fX11_puts_3 (m + 1) τ x (nI k) = fX11_puts_3 m (st_put (st_put τ 13 n (nI v)) 0 18 (nI (n + 1))) x (nI k + (-8)) := by
  show fX11_puts_3B (fX11_puts_3 m) τ x (nI k) = _
  unfold fX11_puts_3B
  rw [if_neg (nI_lt0 (by omega)), hn, p_wrN hlt (by omega), hv]
  simp only [p_nmS]
  rw [show st_put τ 13 n (nI v) 0 18 = nI n by simp [st_put, st_row, hn], ← nI_succ]
theorem feed4 {σ τ : St} {n : Nat} (x : Int32) (h : Rel σ τ) (hn : σ 24 1 = nI n) (hlt : n + 4 ≤ 600) : ∃ σ1 τ1, fX4_addBytes σ x = some (nI (n + 4), σ1) ∧ fX11_puts τ x = some τ1 ∧ Rel σ1 τ1 ∧ σ1 24 1 = nI (n + 4) := by
  have hm : ∀ {σ τ : St} {n : Nat}, Rel σ τ → σ 24 1 = nI n → n ≤ 600 → τ 0 18 = nI n := by
    intro σ τ n h hn hl
    obtain ⟨m, g1, g2, g3, g4⟩ := g_tape h
    have e : m = n := (nI_eq (by omega) (by omega)).mp (by rw [← g2, ← hn])
    rw [g3, e]
  obtain ⟨v1, w1, a1, b1⟩ := byte_eq x 24 (by omega)
  obtain ⟨v2, w2, a2, b2⟩ := byte_eq x 16 (by omega)
  obtain ⟨v3, w3, a3, b3⟩ := byte_eq x 8 (by omega)
  obtain ⟨v4, w4, a4, b4⟩ := byte_eq x 0 (by omega)
  have h1 := rs_byte hn (by omega) w1 h
  have n1 : (st_put (st_put σ 25 n (nI v1)) 24 1 (nI (n + 1))) 24 1 = nI (n + 1) := by simp [st_put, st_row, upd]
  have h2 := rs_byte n1 (by omega) w2 h1
  generalize hσ1 : (st_put (st_put σ 25 n (nI v1)) 24 1 (nI (n + 1))) = σ1 at *
  generalize hτ1 : (st_put (st_put τ 13 n (nI v1)) 0 18 (nI (n + 1))) = τ1 at *
  have n2 : (st_put (st_put σ1 25 (n + 1) (nI v2)) 24 1 (nI (n + 1 + 1))) 24 1 = nI (n + 1 + 1) := by simp [st_put, st_row, upd]
  have h3 := rs_byte n2 (by omega) w3 h2
  generalize hσ2 : (st_put (st_put σ1 25 (n + 1) (nI v2)) 24 1 (nI (n + 1 + 1))) = σ2 at *
  generalize hτ2 : (st_put (st_put τ1 13 (n + 1) (nI v2)) 0 18 (nI (n + 1 + 1))) = τ2 at *
  have n3 : (st_put (st_put σ2 25 (n + 1 + 1) (nI v3)) 24 1 (nI (n + 1 + 1 + 1))) 24 1 = nI (n + 1 + 1 + 1) := by simp [st_put, st_row, upd]
  have h4 := rs_byte n3 (by omega) w4 h3
  generalize hσ3 : (st_put (st_put σ2 25 (n + 1 + 1) (nI v3)) 24 1 (nI (n + 1 + 1 + 1))) = σ3 at *
  generalize hτ3 : (st_put (st_put τ2 13 (n + 1 + 1) (nI v3)) 0 18 (nI (n + 1 + 1 + 1))) = τ3 at *
  have n4 : (st_put (st_put σ3 25 (n + 1 + 1 + 1) (nI v4)) 24 1 (nI (n + 1 + 1 + 1 + 1))) 24 1 = nI (n + 4) := by simp [st_put, st_row, upd]
  refine ⟨_, _, ?_, ?_, h4, n4⟩
  · unfold fX4_addBytes
    rw [show FU = 4995 + 1 + 1 + 1 + 1 + 1 from rfl, show (24 : Int32) = nI 24 from rfl, ab_step (by omega) hn (by omega) a1, hσ1, show nI 24 + (-8) = nI 16 from by decide, ab_step (by omega) n1 (by omega) a2, hσ2, show nI 16 + (-8) = nI 8 from by decide, ab_step (by omega) n2 (by omega) a3, hσ3, show nI 8 + (-8) = nI 0 from by decide, ab_step (by omega) n3 (by omega) a4, show nI 0 + (-8) = -8 from by decide]
    show fX4_addBytes_3B (fX4_addBytes_3 4995) _ _ _ = _
    unfold fX4_addBytes_3B
    rw [if_pos (by decide), n4]
  · unfold fX11_puts
    rw [show FU = 4995 + 1 + 1 + 1 + 1 + 1 from rfl, show (24 : Int32) = nI 24 from rfl, pt_step (by omega) (hm h hn (by omega)) (by omega) b1, hτ1, show nI 24 + (-8) = nI 16 from by decide, pt_step (by omega) (hm h1 n1 (by omega)) (by omega) b2, hτ2, show nI 16 + (-8) = nI 8 from by decide, pt_step (by omega) (hm h2 n2 (by omega)) (by omega) b3, hτ3, show nI 8 + (-8) = nI 0 from by decide, pt_step (by omega) (hm h3 n3 (by omega)) (by omega) b4, show nI 0 + (-8) = -8 from by decide]
    show fX11_puts_3B (fX11_puts_3 4995) _ _ _ = _
    unfold fX11_puts_3B
    rw [if_pos (by decide)]
theorem opp_4 : op_4 Rel := by
  intro σ τ a0 a1 a2 a3 a4 h
  have ht := rel_told h 0
  obtain ⟨n, hn, e1, e2, hj⟩ := g_tape h
  have e3 : st_put τ 0 0 0 0 18 = nI n := by simp [st_put, st_row, upd, e2]
  by_cases c : n ≤ 580
  · obtain ⟨σ1, τ1, p1, q1, r1, s1⟩ := feed4 a0 ht e1 (by omega)
    obtain ⟨σ2, τ2, p2, q2, r2, s2⟩ := feed4 a1 r1 s1 (by omega)
    obtain ⟨σ3, τ3, p3, q3, r3, s3⟩ := feed4 a2 r2 s2 (by omega)
    obtain ⟨σ4, τ4, p4, q4, r4, s4⟩ := feed4 a3 r3 s3 (by omega)
    obtain ⟨σ5, τ5, p5, q5, r5, s5⟩ := feed4 a4 r4 s4 (by omega)
    obtain ⟨m, g1, g2, g3, g4⟩ := g_tape r5
    refine ⟨nI (n + 4 + 4 + 4 + 4 + 4), σ5, τ5, ?_, ?_, r5⟩
    · unfold fX10_feed fX4_hasRoom
      rw [e1, if_neg (show ¬ 600 < nI n + 20 from by rw [show (20 : Int32) = nI 20 from rfl, nI_add]; exact nI_nlt (b := n + 20) (a := 600) (by omega) (by omega)), if_neg n10, p1, p_cb, p2, p_cb, p3, p_cb, p4, p_cb, p5, p_cb]
    · unfold fX11_feed
      simp only [p_nmS]
      rw [e3, if_pos (show nI n ≤ 580 from nI_le (b := 580) c (by omega)), q1, p_cv, q2, p_cv, q3, p_cv, q4, p_cv, q5, p_cv, g3, ← g2, s5]
  · refine ⟨-1, σ, _, ?_, ?_, ht⟩
    · unfold fX10_feed fX4_hasRoom
      rw [e1, if_pos (show 600 < nI n + 20 from by rw [show (20 : Int32) = nI 20 from rfl, nI_add]; exact nI_lt (a := 600) (by omega) (by omega)), if_pos rfl]
    · unfold fX11_feed
      simp only [p_nmS]
      rw [e3, if_neg (show ¬ nI n ≤ 580 from fun q => absurd ((nI_leI (a := n) (b := 580) (by omega) (by omega)).mp q) (by omega))]
