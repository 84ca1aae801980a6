/-! a claim in step -/
theorem settles_e (τ : St) : fX11_settles τ 9 = fX11_settles_0 FU τ (nI 9) := rfl
theorem claim_step {laws : Bool} {T : Nat → Nat} {len n x : Nat} (hx : ctx laws T len n) : ∀ (m d : Nat), d ≤ 8 → 9 - d ≤ m → stepC laws T len n x d (fX4_claim m) := by
  have n6 : n ≤ 600 := by have := hx.1; have := hx.2.1; omega
  intro m
  induction m with
  | zero => intro d h1 h2; omega
  | succ m ih =>
    intro d hd hm σ τ c A X S0 k p f hC hM hP h9 hSp hk hA hX hS hp hf
    obtain ⟨f, rfl⟩ : ∃ g, f = g + 1 := ⟨f - 1, by omega⟩
    have k5 := hC.2.2.2.2.2.2.1
    have cn := hC.2.2.2.2.1
    have kb := hx.2.2.2.2 c
    have w10 := mdl_word hM (k := 3) (by omega)
    have i40 := mdl_sign hM s40
    show outC laws T len n x σ τ c A X S0 k d p (f + 1) (fX4_claimB (fX4_claim m) σ (nI d))
    have rl : (S0 ++ List.replicate k 9).length = S0.length + k := by rw [List.length_append, List.length_replicate]
    by_cases q : kd laws T len c = 259 ∨ kd laws T len c = 40
    · have CB : fX4_claimB (fX4_claim m) σ (nI d) = fX4_claimB_19 (fX4_claim m) σ (nI d) := by
        unfold fX4_claimB
        rw [k5]
        rcases q with q | q
        · rw [if_pos (show nI (kd laws T len c) = 259 by rw [q]; rfl)]
        · rw [if_neg (show ¬ nI (kd laws T len c) = 259 by rw [q]; decide), if_pos (show nI (kd laws T len c) = 40 by rw [q]; rfl)]
      have CM : fX11_readAny_9 (f + 1) τ (nI p) 1 = fX11_readAny_33 (fX11_readAny_9 f) τ (nI p) 1 (fX11_isWord τ 10) := by
        rw [ra_s]; unfold fX11_readAny_9B
        rw [if_neg n10]
        rcases q with q | q
        · rw [if_neg (show ¬ fX11_isWord τ 10 = 0 by rw [show fX11_isWord τ 10 = _ from w10, bI_t (show kd laws T len c = 256 + 3 by omega)]; exact n10)]
        · rw [if_pos (show fX11_isWord τ 10 = 0 by rw [show fX11_isWord τ 10 = _ from w10]; exact bI_f (by omega)), if_neg (show ¬ fX11_isSign τ 40 = 0 by rw [show fX11_isSign τ 40 = _ from i40, bI_t q]; exact n10)]
      unfold outC
      rw [CB, CM]
      have hc := c_lt hx cn (by omega)
      unfold fX4_claimB_19 fX11_readAny_33
      rw [hP.2.2]
      by_cases d8 : d = 8
      · rw [if_pos (show (8 : Int32) ≤ nI d by rw [d8]; decide), if_pos (show nI d = 8 by rw [d8]; rfl)]
        obtain ⟨σ', τ', a1, a2, a3, a4, a5⟩ := both_fail 3 hx hC hM
        rw [a1, p_cb, p_zb0, a2, p_cb]
        exact Or.inl ⟨σ', τ', rfl, rfl, a3, a4, frV_Q a5⟩
      rw [if_neg (show ¬ (8 : Int32) ≤ nI d from fun z => absurd ((nI_leI (a := 8) (by omega) (by omega)).mp z) (by omega)), if_neg (show ¬ nI d = 8 from fun z => d8 (i4 d 8 (by omega) (by omega) z)), p_nmS, show nI d + 1 = nI (d + 1) from (nI_succ _).symm]
      have hM1 : mdl laws T len (st_put τ 0 34 (nI (d + 1))) c X := mdl_o hM (by omega)
      have hP1 : pnd (st_put τ 0 34 (nI (d + 1))) (S0 ++ List.replicate k 9) (d + 1) := ⟨by rw [sp_same, up_ne (by omega)]; exact hP.1, by rw [sp_ne (by omega)]; exact hP.2.1, by rw [sp_same, up_same]⟩
      have fV1 : frV τ (st_put τ 0 34 (nI (d + 1))) := frV_o (by omega)
      unfold fX4_opened
      rcases take_C hx hC (k := 40) (by omega) with ⟨k40, _, σ1, t1, t2, t3⟩ | ⟨k40, t1⟩
      · -- an opening sign
        rw [show fX4_take σ 40 = _ from t1, p_cb, if_neg n10]
        have wz : fX11_isWord τ 10 = 0 := by rw [show fX11_isWord τ 10 = _ from w10]; exact bI_f (by omega)
        rw [wz, if_pos rfl]
        unfold fX11_readAny_66 fX11_readAny_78
        rw [if_pos rfl]
        obtain ⟨τ2, g1, g2, g3, g4⟩ := wait1 (p := 12) hM1 hP1 (by rw [rl]; omega)
        obtain ⟨τ3, j1, j2, j3⟩ := read1 g2
        rw [show fX11_waits (st_put τ 0 34 (nI (d + 1))) 12 = _ from g1, p_cv, j1, p_cv, show nI p + 1 = nI (p + 1) from (nI_succ _).symm]
        have hP3 := pnd_Q g3 j3
        have fV3 : frV τ τ3 := frV_t (frV_t fV1 g4) (frV_Q j3)
        have l12 : (S0 ++ List.replicate k 9 ++ [12]).length = S0.length + k + 1 := by rw [List.length_append, rl]; rfl
        have go := claims_go (x := x) (c0 := c + 1) (d := d + 1) (p := p + 1) (σ0 := σ1) (τ0 := τ3) (A := A) (X := X) (S1 := S0 ++ List.replicate k 9 ++ [12]) (rc := fX4_claim m) hx (ih (d + 1) (by omega) (by omega)) (by omega) (by omega) (by rw [l12]; omega) (by rw [l12]; omega) (lastNe_app _ (by decide)) (lastNe_app _ (by decide)) (lastNe_app _ (by decide)) (by
          intro q hq
          rcases List.mem_append.mp hq with h | h
          · rcases List.mem_append.mp h with h | h
            · exact hSp q h
            · have := List.eq_of_mem_replicate h; omega
          · simp at h; omega) (by omega) (n - (c + 1)) (c + 1) FU 0 f σ1 τ3 [] false false (by omega) (by rw [FU_eq]; omega) (by omega) (by omega) (by omega) (by rw [List.append_nil]; exact t2) (by show mdl laws T len τ3 (c + 1) (X ++ []); rw [List.append_nil]; exact j2) (by show pnd τ3 (S0 ++ List.replicate k 9 ++ [12] ++ []) (d + 1); rw [List.append_nil]; exact hP3) (by show 0 + (0 + 0) ≤ _; omega) (by show 0 + (0 + 0) ≤ _; omega) (fun t _ => rfl) (frP_r _ _) (frV_r _)
        unfold fX4_claims
        rcases go with ⟨σ', τ', d1, d2, d3, d4, d5⟩ | ⟨σ2, τ4, c', C, f', d1, d2, d3, d4, d5, d6, d7, d8', d9, d10, d11, d12, d13⟩
        · rw [show fX4_claims_7 (fX4_claim m) FU σ1 (nI (d + 1)) 0 0 0 = _ from d1, p_cb, if_pos rfl, p_cb, p_zb0, d2]
          exact Or.inl ⟨σ', τ', rfl, rfl, d3, frP_t t3 d4, frV_t fV3 d5⟩
        rw [show fX4_claims_7 (fX4_claim m) FU σ1 (nI (d + 1)) 0 0 0 = _ from d1, p_cb, if_neg n10, d2]
        unfold endA
        rw [if_neg (fun z => absurd ((nI_e0 (by omega)).mp z) (by omega)), show fX11_isSign τ4 41 = _ from mdl_sign d7 s41]
        rcases take_C hx d6 (k := 41) (by omega) with ⟨k41, hc', σ3, u1, u2, u3⟩ | ⟨k41, u1⟩
        · rw [show fX4_take σ2 41 = _ from u1, p_cb, if_neg n10, p_cb, p_zb1, bI_t k41, if_neg n10, p_nmS, p_nmS]
          have e36 : τ4 0 36 - 1 = nI (S0 ++ List.replicate k 9).length := by
            rw [d8'.1, List.length_append]; exact nI_pred _
          rw [e36]
          have pp := pnd_pop d8'
          have e34 : st_put τ4 0 36 (nI (S0 ++ List.replicate k 9).length) 0 34 - 1 = nI d := by
            rw [pp.2.2]; exact nI_pred d
          rw [e34]
          have hP5 : pnd (st_put (st_put τ4 0 36 (nI (S0 ++ List.replicate k 9).length)) 0 34 (nI d)) (S0 ++ List.replicate k 9) d := ⟨by rw [sp_same, up_ne (by omega)]; exact pp.1, by rw [sp_ne (by omega)]; exact pp.2.1, by rw [sp_same, up_same]⟩
          obtain ⟨τ6, s1, s2, s3, s4⟩ := settle (o := 9) (by omega) h9 hSp k FU d (st_put (st_put τ4 0 36 (nI (S0 ++ List.replicate k 9).length)) 0 34 (nI d)) _ (by rw [FU_eq]; omega) (mdl_o (mdl_o d7 (by omega)) (by omega)) hP5 (by omega) (by rw [List.length_append]; omega) (fun _ => hk)
          obtain ⟨τ7, v1, v2, v3⟩ := read1 s2
          rw [settles_e, s1, p_cv, v1, p_cv, nI_pred]
          rw [if_pos rfl] at s3
          refine Or.inr ⟨σ3, τ7, c' + 1, C, f', rfl, rfl, by omega, by omega, by omega, u2, v2, pnd_Q s3 v3, by omega, by omega, ?_, frP_t (frP_t t3 d12) u3, frV_t (frV_t (frV_t (frV_t (frV_t fV3 d13) (frV_o (by omega))) (frV_o (by omega))) s4) (frV_Q v3)⟩
          intro t ht
          exact d11 t (by unfold mD at *; omega)
        · rw [show fX4_take σ2 41 = _ from u1, p_cb, if_pos rfl, bI_f k41, if_pos rfl]
          obtain ⟨σ', τ', a1, a2, a3, a4, a5⟩ := both_fail 1 hx d6 d7
          rw [a1, p_cb, if_pos rfl, p_cb, p_zb0, a2, p_cb]
          exact Or.inl ⟨σ', τ', rfl, rfl, a3, frP_t (frP_t t3 d12) a4, frV_t (frV_t fV3 d13) (frV_Q a5)⟩
      · -- not
        have k259 : kd laws T len c = 259 := by omega
        rw [show fX4_take σ 40 = _ from t1, p_cb, if_pos rfl]
        obtain ⟨σ1, a1, a2, a3⟩ := adv_C hx hC hc
        rw [a1, p_cv]
        have wz : fX11_isWord τ 10 = 1 := by rw [show fX11_isWord τ 10 = _ from w10]; exact bI_t (by omega)
        rw [wz, if_neg n10]
        unfold fX11_readAny_66 fX11_readAny_78
        rw [if_neg n10]
        obtain ⟨τ2, g1, g2, g3, g4⟩ := wait1 (p := 9) hM1 hP1 (by rw [rl]; omega)
        obtain ⟨τ3, j1, j2, j3⟩ := read1 g2
        rw [show fX11_waits (st_put τ 0 34 (nI (d + 1))) 9 = _ from g1, p_cv, j1, p_cv]
        have hP3 := pnd_Q g3 j3
        rw [List.append_assoc, ← List.replicate_succ'] at hP3
        have fV3 : frV τ τ3 := frV_t (frV_t fV1 g4) (frV_Q j3)
        rcases ih (d + 1) (by omega) (by omega) σ1 τ3 (c + 1) A X S0 (k + 1) p f a2 j2 hP3 h9 hSp (by omega) (by omega) (by omega) (by omega) (by omega) (by omega) with ⟨σ', τ', d1, d2, d3, d4, d5⟩ | ⟨σ2, τ4, c', C, f', d1, d2, d3, d4, d5, d6, d7, d8', d9, d10, d11, d12, d13⟩
        · rw [d1, p_cb, if_pos rfl, p_cb, p_zb0, d2]
          exact Or.inl ⟨σ', τ', rfl, rfl, d3, frP_t a3 d4, frV_t fV3 d5⟩
        obtain ⟨σ3, e1, e2, e3⟩ := add_C (o := 3) (a := 0) d6 (by rw [List.length_append]; omega)
        rw [d1, p_cb, if_neg n10, cls_gw d6, show fX9_add x σ2 3 0 = _ from e1, p_cv, p_cb, p_zb1, d2]
        refine Or.inr ⟨σ3, τ4, c', C ++ [(3, 0)], f', rfl, rfl, by omega, d4, d5, by rw [← List.append_assoc]; exact e2, ?_, ?_, ?_, ?_, ?_, frP_t (frP_t a3 d12) e3, frV_t fV3 d13⟩
        · have : X ++ xp (mpN laws) (C ++ [(3, 0)]) ++ List.replicate k (9, 0) = X ++ xp (mpN laws) C ++ List.replicate (k + 1) (9, 0) := by
            rw [xp_snoc, xp1_op (by omega), List.replicate_succ]; simp [moN]
          rw [this]; exact d7
        · rw [show d + 1 - (k + 1) = d - k by omega] at d8'; exact d8'
        · rw [List.length_append]; show _ + 1 ≤ _; omega
        · rw [xp_snoc, xp1_op (by omega), List.length_append]; show _ + 1 ≤ _; omega
        · intro t ht
          refine ty_snoc (d11 t (by unfold mD at *; omega)) (ty_not t) ?_
          show t.length + 1 ≤ 28
          unfold mD at ht; omega
    · -- a comparison
      have CB : fX4_claimB (fX4_claim m) σ (nI d) = cmpC σ := by
        unfold fX4_claimB
        rw [k5, if_neg (show ¬ nI (kd laws T len c) = 259 from fun z => q (Or.inl ((kd_eq (k := 259) hx (by omega)).mp z))), if_neg (show ¬ nI (kd laws T len c) = 40 from fun z => q (Or.inr ((kd_eq (k := 40) hx (by omega)).mp z)))]
        rfl
      have CM : fX11_readAny_9 (f + 1) τ (nI p) 1 = cb (fX11_readCompared τ) fun r35 σ37 => if r35 = (-1) then some ((-1), σ37) else cv (fX11_settles σ37 9) fun σ40 => fX11_readAny_9 f σ40 (nI p) 0 := by
        rw [ra_s]; unfold fX11_readAny_9B
        rw [if_neg n10, if_pos (show fX11_isWord τ 10 = 0 by rw [show fX11_isWord τ 10 = _ from w10]; exact bI_f (by omega)), if_pos (show fX11_isSign τ 40 = 0 by rw [show fX11_isSign τ 40 = _ from i40]; exact bI_f (by omega))]
      unfold outC
      rw [CB, CM]
      rcases cmp_both hx hC hM hA (by omega) with ⟨σ', τ', d1, d2, d3, d4, d5⟩ | ⟨σ1, τ1, c', C, d1, d2, d3, d4, d5, d6, d7, d8, d9, d10, d11⟩
      · rw [d1, d2, p_cb, if_pos rfl]
        exact Or.inl ⟨σ', τ', rfl, rfl, d3, d4, frV_Q d5⟩
      · rw [d1, d2, p_cb, if_neg (show ¬ (0 : Int32) = -1 by decide)]
        obtain ⟨τ2, s1, s2, s3, s4⟩ := settle (o := 9) (by omega) h9 hSp k FU d τ1 _ (by rw [FU_eq]; omega) d6 (pnd_Q hP d11) (by omega) (by rw [List.length_append]; omega) (fun _ => hk)
        rw [settles_e, s1, p_cv]
        rw [if_pos rfl] at s3
        refine Or.inr ⟨σ1, τ2, c', C, f, rfl, rfl, d3, d4, by omega, d5, s2, s3, d7, d8, ?_, d10, frV_t (frV_Q d11) s4⟩
        intro t ht
        exact d9 t (by unfold mD at ht; omega)
/-- the claims of a line -/
theorem any_both {laws : Bool} {T : Nat → Nat} {len n x c : Nat} {σ τ : St} {A X : Cd} (hx : ctx laws T len n) (h : cls laws T len n x σ c A) (hm : mdl laws T len τ c X) (hA : A.length ≤ c) (hX : X.length ≤ c) (h34 : τ 0 34 = 0) : (∃ σ' τ', fX4_claimsT σ 0 = some (0, σ') ∧ fX11_readAny τ = some (-1, τ') ∧ fltR σ' τ' ∧ frP x σ σ' ∧ frV τ τ') ∨ (∃ σ' τ' c' C, fX4_claimsT σ 0 = some (1, σ') ∧ fX11_readAny τ = some (0, τ') ∧ c < c' ∧ c' ≤ n ∧ cls laws T len n x σ' c' (A ++ C) ∧ mdl laws T len τ' c' (X ++ xp (mpN laws) C) ∧ τ' 0 34 = 0 ∧ C.length ≤ c' - c ∧ (xp (mpN laws) C).length ≤ c' - c ∧ tyC (nvN laws) C [] = some [true] ∧ frP x σ σ' ∧ frV τ τ') := by
  have n6 : n ≤ 600 := by have := hx.1; have := hx.2.1; omega
  have hM := mdl_o (j := 36) (v := 0) hm (by omega)
  have hP : pnd (st_put τ 0 36 0) [] 0 := ⟨by rw [sp_same, up_same]; rfl, fun i p hp => by simp at hp, by rw [sp_same, up_ne (by omega)]; exact h34⟩
  unfold fX4_claimsT fX4_claims fX11_readAny
  rw [p_nmS]
  have go := claims_go (x := x) (c0 := c) (d := 0) (p := 0) (σ0 := σ) (τ0 := st_put τ 0 36 0) (A := A) (X := X) (S1 := []) (rc := fX4_claim 12) hx (claim_step hx 12 0 (by omega) (by omega)) (by omega) hA (by show X.length + 0 ≤ c; omega) (by show 0 ≤ _; omega) (fun p hp => by simp at hp) (fun p hp => by simp at hp) (fun p hp => by simp at hp) (fun q hq => by simp at hq) (by omega) (n - c) c FU 0 FU σ (st_put τ 0 36 0) [] false false (by have := h.2.2.2.2.1; omega) (by rw [FU_eq]; omega) (by rw [FU_eq]; omega) (by omega) (by omega) (by rw [List.append_nil]; exact h) (by show mdl laws T len (st_put τ 0 36 0) c (X ++ []); rw [List.append_nil]; exact hM) hP (by show 0 + (0 + 0) ≤ _; omega) (by show 0 + (0 + 0) ≤ _; omega) (fun t _ => rfl) (frP_r _ _) (frV_r _)
  rcases go with ⟨σ', τ', d1, d2, d3, d4, d5⟩ | ⟨σ2, τ4, c', C, f', d1, d2, d3, d4, d5, d6, d7, d8, d9, d10, d11, d12, d13⟩
  · exact Or.inl ⟨σ', τ', d1, d2, d3, d4, frV_t (frV_o (by omega)) d5⟩
  · refine Or.inr ⟨σ2, τ4, c', C, d1, ?_, d3, d4, d6, d7, d8.2.2, d9, d10, d11 [] (by decide), d12, frV_t (frV_o (by omega)) d13⟩
    rw [show fX11_readAny_9 FU (st_put τ 0 36 0) 0 1 = _ from d2]
    rfl
