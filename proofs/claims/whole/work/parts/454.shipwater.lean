/-! the water and the soup of the holds, both sides -/
def colN (F : Nat → Nat) (k z : Nat) : Nat := F (6 * k + z)
def spW (W G : Nat → Nat) (c : Nat) : Nat := w2N 6 (colN W (c / 6)) (colN G (c / 6)) (c % 6)
theorem sumI_move (B D : Nat → Int32) (n : Nat) (h0 : B 0 = 0) (hn : D n = 0) (h : ∀ r, r < n → B (r + 1) = D r) : sumI B 0 (n + 1) = sumI D 0 (n + 1) := by
  rw [sumI_snoc D n 0, Nat.zero_add, hn]
  show B 0 + sumI B (0 + 1) n = _
  rw [h0, show 0 + 1 = 1 + 0 from rfl, sumI_shift]
  have : sumI (fun r => B (1 + r)) 0 n = sumI D 0 n := by
    refine sumI_congr _ _ (fun r _ hr => ?_)
    show B (1 + r) = D r
    rw [Nat.add_comm 1 r]; exact h r (by omega)
  rw [this]; grind
theorem lost_ship (W G : Nat → Nat) : sumI (fun c => loI (colN W (c / 6)) (colN G (c / 6)) (c % 6)) 0 144 = sumI (fun i => if i % 6 = 0 then nI (G i) else 0) 0 144 + sumI (fun i => if i % 6 = 5 then 0 else nI (W i - G i + G (i + 1) - capN (W i - G i + G (i + 1)))) 0 144 := by
  have e1 : sumI (fun c => loI (colN W (c / 6)) (colN G (c / 6)) (c % 6)) 0 144 = sumI (fun c => (if c % 6 = 0 then nI (G c) else 0) + (if c % 6 = 0 then 0 else nI (W (c - 1) - G (c - 1) + G c - capN (W (c - 1) - G (c - 1) + G c)))) 0 144 := by
    refine sumI_congr _ _ (fun c _ _ => ?_)
    unfold loI ovN colN
    by_cases q : c % 6 = 0
    · rw [if_pos q, if_pos q, if_pos q, show 6 * (c / 6) + 0 = c by omega]; grind
    · rw [if_neg q, if_neg q, if_neg q, show 6 * (c / 6) + (c % 6 - 1) = c - 1 by omega, show 6 * (c / 6) + (c % 6 - 1 + 1) = c by omega]; grind
  rw [e1, sumI_add]
  have e2 : sumI (fun c => if c % 6 = 0 then (0 : Int32) else nI (W (c - 1) - G (c - 1) + G c - capN (W (c - 1) - G (c - 1) + G c))) 0 144 = sumI (fun i => if i % 6 = 5 then 0 else nI (W i - G i + G (i + 1) - capN (W i - G i + G (i + 1)))) 0 144 := by
    refine sumI_move _ _ 143 rfl rfl (fun r _ => ?_)
    show (if (r + 1) % 6 = 0 then (0 : Int32) else nI (W (r + 1 - 1) - G (r + 1 - 1) + G (r + 1) - capN (W (r + 1 - 1) - G (r + 1 - 1) + G (r + 1)))) = (if r % 6 = 5 then (0 : Int32) else nI (W r - G r + G (r + 1) - capN (W r - G r + G (r + 1))))
    by_cases q : r % 6 = 5
    · rw [if_pos (by omega), if_pos q]
    · rw [if_neg (by omega), if_neg q, Nat.add_sub_cancel]
  rw [e2]
theorem spW_of {W G : Nat → Nat} {c : Nat} (hc : c < 144) : spW W G c = if c % 6 = 5 then W c - G c else capN (W c - G c + G (c + 1)) := by
  unfold spW w2N colN
  rw [show 6 * (c / 6) + c % 6 = c by omega]
  by_cases q : c % 6 = 5
  · rw [if_neg (by omega), if_pos q]
  · rw [if_pos (by omega), if_neg q, show 6 * (c / 6) + (c % 6 + 1) = c + 1 by omega]
theorem sp_hold {P : Pg} {so rn ck : Nat} {O W K Q G : Nat → Nat} (hr : r_hold O W K Q) (hG : ∀ i, i < 144 → G i ≤ W i) (hg0 : ∀ i, O i = 0 → G i = 0) : r_hold O (spW W G) K (soN P so rn ck O (spW W G) K) := by
  refine ⟨fun j hj => ?_, hr.2⟩
  obtain ⟨r1, r2, r3, r4, r5⟩ := hr.1 j hj
  refine ⟨r1, ?_, r3, ?_, fun h => ⟨?_, (r5 h).2.1, ?_⟩⟩
  · rw [spW_of hj]
    split
    · omega
    · exact (capN_le _).1
  · unfold soN; split
    · omega
    · split <;> omega
  · rw [spW_of hj]
    have w0 := (r5 h).1
    by_cases q : j % 6 = 5
    · rw [if_pos q]; omega
    · have := hr.2 (j / 6) (j % 6) (by omega) (by omega) (by rw [show 6 * (j / 6) + j % 6 = j by omega]; exact h)
      rw [show 6 * (j / 6) + j % 6 + 1 = j + 1 by omega] at this
      rw [if_neg q, w0, hg0 _ this]
      have := (capN_le (0 - G j + 0)).2
      omega
  · unfold soN; rw [if_pos h]
theorem water_both {y w b so rn t : Nat} {P : Pg} {σ τ : St} {O W K Q : Nat → Nat} (hwb : (w = 0 ∧ b = 10) ∨ (w = 1 ∧ b = 17)) (ht : t < 720) (hr : r_hold O W K Q) (hst : r_stk (σ (b + 2))) (hl : lawsC σ y P) (hT : timeC σ so rn (t % 24)) (hs : τ 0 2 = nI so) (hr1 : τ 1 (t / 24) = nI rn) (hlm : lawsM τ P) (hh : r_hW w b σ τ O W K Q) (hwl : σ (b + 2) 7 = τ 9 w) : ∃ σ1 σ2 τ' W2 Q2, fX8_sinkWater (b + 2) σ = some σ1 ∧ fX8_turnToSoup (b + 2) σ1 = some σ2 ∧ fX11_shipWater τ (nI w) (nI t) = some τ' ∧ r_hold O W2 K Q2 ∧ r_hW w b σ2 τ' O W2 K Q2 ∧ σ2 (b + 2) 7 = τ' 9 w ∧ timeC σ2 so rn (t % 24) ∧ frC y b σ σ2 ∧ frW w τ τ' ∧ σ2 b = σ b ∧ τ' 10 = τ 10 ∧ τ' 11 = τ 11 ∧ τ' 12 = τ 12 := by
  have hw : w < 2 := by omega
  have hb : b ≤ 17 := by omega
  have sb : stN (b + 2) = 144 := by rcases hwb with ⟨_, rfl⟩ | ⟨_, rfl⟩ <;> rfl
  have y44 := fW_ge hl.1
  generalize hG : spG P so rn (t % 24) O W K = G
  have gle : ∀ i, i < 144 → G i ≤ W i := by
    intro i hi
    have := (hr.1 i hi).2.1
    rw [← hG]; unfold spG
    split
    · omega
    · exact heldN_le _ (by omega)
  have g0 : ∀ i, O i = 0 → G i = 0 := fun i h => by rw [← hG]; unfold spG; rw [if_pos h]
  have ask : askDown (b + 2) y 6 so rn (t % 24) σ (colN O) (colN W) (colN G) 24 := by
    intro σ' hf hT' k z hk hz ho hq
    have ex : k * 6 + z = 6 * k + z := by omega
    rw [ex] at hq ⊢
    obtain ⟨p1, p2, p3, p4, p5, p6, p7, p8⟩ := hh (6 * k + z) (by omega)
    obtain ⟨r1, r2, r3, r4, r5⟩ := hr.1 (6 * k + z) (by omega)
    obtain ⟨σ'', u1, u2, u3⟩ := shipLaw_C (b := b + 2) (y := y) (h := 0) (j := 6 * k + z) (σ := σ') (P := P) (o := O (6 * k + z)) (w := W (6 * k + z)) (k := K (6 * k + z)) (sort := so) (rain := rn) (clock := t % 24) (by omega) ⟨by rw [hf.2 0 (by omega)]; exact hst.1, by rw [hf.2 1 (by omega)]; exact hst.2.1, by rw [hf.2 2 (by omega)]; exact hst.2.2⟩ (lawsC_S (by omega) hl hf) (by omega) hT' (by omega) r1 r2 (by rw [hf.1 (b + 2 + 1) (by omega) (by omega) (by omega) (by omega)]; exact p1) hq (by rw [hf.1 (b + 2 + 3) (by omega) (by omega) (by omega) (by omega)]; exact p3)
    have ho' : 0 < O (6 * k + z) := ho
    rw [if_neg (show ¬ O (6 * k + z) = 0 by omega)] at u1
    refine ⟨_, σ'', u1, ?_, u2, u3⟩
    show _ = G (6 * k + z)
    rw [← hG]; unfold spG; rw [if_neg (by omega)]; rfl
  have e6 : ∀ k i, k * 6 + i = 6 * k + i := fun k i => by omega
  obtain ⟨σ1, c1, c2, c3, c4, c5⟩ := sink_all (b := b + 2) (y := y) (C := 24) (L := 6) (so := so) (rn := rn) (ck := t % 24) (σ0 := σ) (O := colN O) (W := colN W) (G := colN G) y44 (by omega) (by omega) (by omega) (by rw [sb]) (by rw [sb]; omega) hst.1 hst.2.1 (fun k i hk hi => ⟨(hr.1 (6 * k + i) (by omega)).1, by rw [e6]; exact (hh (6 * k + i) (by omega)).1⟩) (fun k i hk hi => hr.2 k i hk (by omega)) (fun k i hk hi => ⟨gle (6 * k + i) (by omega), (hr.1 (6 * k + i) (by omega)).2.1, fun h => ((hr.1 (6 * k + i) (by omega)).2.2.2.2 h).1⟩) ask 24 0 FU σ (by omega) (by rw [FU_eq]; omega) (frS_r _ _ _) hT (fun a i ha hi => by rw [if_neg (by omega), e6]; exact (hh (6 * a + i) (by omega)).2.1)
  have W1 : ∀ j, j < 144 → σ1 (b + 4) j = nI (spW W G j) := by
    intro j hj
    have := c4 (j / 6) (j % 6) (by omega) (by omega)
    rw [show j / 6 * 6 + j % 6 = j by omega] at this
    exact this
  have h2 := sp_hold (P := P) (so := so) (rn := rn) (ck := t % 24) hr gle g0
  have f1 : frC y b σ σ1 := frC_S hb y44 c2
  obtain ⟨σ2, d1, d2, d3, d4⟩ := soup_C (y := y) (b := b) (so := so) (rn := rn) (ck := t % 24) (P := P) (σ0 := σ1) (O := O) (W := spW W G) (K := K) (Q := soN P so rn (t % 24) O (spW W G) K) (by omega) h2 (r_stk_C hst f1) (lawsC_C hb hl f1) (fun j hj => ⟨by rw [c2.1 (b + 3) (by omega) (by omega) (by omega) (by omega)]; exact (hh j hj).1, W1 j hj, by rw [c2.1 (b + 5) (by omega) (by omega) (by omega) (by omega)]; exact (hh j hj).2.2.1⟩) 144 0 FU σ1 (by omega) (by rw [FU_eq]; omega) (fun _ _ _ _ => rfl) c3 (fun i hi => by omega)
  -- the model
  have hc : spC w τ O W K := fun j hj => ⟨(hh j hj).2.2.2.2.1, (hh j hj).2.2.2.2.2.1, (hh j hj).2.2.2.2.2.2.1⟩
  obtain ⟨τ1, i1, i2, i3⟩ := sGives_M hw ht hr hs hr1 hlm hc 144 0 FU τ (by omega) (by rw [FU_eq]; omega) (fun _ _ _ _ => rfl) (fun i hi => by omega)
  rw [hG] at i3
  have fw1 : frW w τ τ1 := ⟨fun a h1 h2 h3 h4 => i2 a h2 h3 h4, fun a j h1 h2 _ => by rw [i2 a (by omega) (by omega) (by omega)], fun a j h1 h2 _ => by rw [i2 a (by omega) (by omega) (by omega)]⟩
  have gw : ∀ i, i < 144 → G i ≤ W i ∧ W i ≤ 9999 := fun i hi => ⟨gle i hi, (hr.1 i hi).2.1⟩
  obtain ⟨τ2, j1, j2, j3, j4, j5⟩ := sTakes_M (x2 := nI t) (τ0 := τ1) hw gw i3 144 0 FU τ1 (by omega) (by rw [FU_eq]; omega) (frW_r _ _) (fun _ _ _ => rfl) (fun i hi => by rw [if_neg (by omega), i2 6 (by omega) (by omega) (by omega)]; exact (hc i hi).2.1)
  obtain ⟨τ3, k1, k2, k3, k4, k5⟩ := sPuts_M (x2 := nI t) (V := fun i => W i - G i) (G := G) (τ0 := τ2) hw (fun i hi => by have := gw i hi; show W i - G i ≤ 9999 ∧ G i ≤ 9999; omega) (fun i hi => by rw [j3 26 (by omega) (by omega)]; exact i3 i hi) 144 0 FU τ2 (by omega) (by rw [FU_eq]; omega) (frW_r _ _) (fun _ _ _ => rfl) (fun i hi => by rw [if_neg (by omega)]; exact j4 i hi)
  have fw3 : frW w τ τ3 := frW_t fw1 (frW_t j2 k2)
  have w3 : ∀ i, i < 144 → τ3 6 (144 * w + i) = nI (spW W G i) := by
    intro i hi
    rw [k4 i hi, spW_of hi]
  have same3 : ∀ a, ¬ a = 6 → ¬ a = 9 → ¬ a = 24 → ¬ a = 25 → ¬ a = 26 → τ3 a = τ a := fun a h1 h2 h3 h4 h5 => by rw [k3 a h1 h2, j3 a h1 h2, i2 a h3 h4 h5]
  obtain ⟨τ4, l1, l2, l3, l4⟩ := soup_M (τ0 := τ3) (O := O) (W := spW W G) (K := K) hw ht h2 (by rw [same3 0 (by omega) (by omega) (by omega) (by omega) (by omega)]; exact hs) (by rw [same3 1 (by omega) (by omega) (by omega) (by omega) (by omega)]; exact hr1) (lawsM_W hlm fw3) (fun j hj => ⟨by rw [same3 5 (by omega) (by omega) (by omega) (by omega) (by omega)]; exact (hc j hj).1, w3 j hj, by rw [same3 7 (by omega) (by omega) (by omega) (by omega) (by omega)]; exact (hc j hj).2.2⟩) 144 0 FU τ3 (by omega) (by rw [FU_eq]; omega) (frW_r _ _) (fun _ _ _ _ => rfl) (fun i hi => by omega)
  refine ⟨σ1, σ2, τ4, spW W G, _, c1, d1, ?_, h2, fun j hj => ?_, ?_, d3, ?_, frW_t fw3 l2, ?_, ?_, ?_, ?_⟩
  · show fX11_shipWater_9 FU τ (nI w) (nI t) (144 * nI w) 0 = some τ4
    rw [w144z, show (0 : Int32) = nI 0 from rfl, i1, show (0 : Int32) = nI 0 from rfl, j1, show (0 : Int32) = nI 0 from rfl, k1]
    exact l1
  · obtain ⟨p1, p2, p3, p4, p5, p6, p7, p8⟩ := hh j hj
    refine ⟨?_, ?_, ?_, d4 j hj, ?_, ?_, ?_, l4 j hj⟩
    · rw [d2 (b + 2 + 1) (by omega) (by omega) (by omega), c2.1 (b + 2 + 1) (by omega) (by omega) (by omega) (by omega)]; exact p1
    · rw [d2 (b + 2 + 2) (by omega) (by omega) (by omega)]; exact W1 j hj
    · rw [d2 (b + 2 + 3) (by omega) (by omega) (by omega), c2.1 (b + 2 + 3) (by omega) (by omega) (by omega) (by omega)]; exact p3
    · rw [l3 5 (by omega) (by omega) (by omega), same3 5 (by omega) (by omega) (by omega) (by omega) (by omega)]; exact p5
    · rw [l3 6 (by omega) (by omega) (by omega)]; exact w3 j hj
    · rw [l3 7 (by omega) (by omega) (by omega), same3 7 (by omega) (by omega) (by omega) (by omega) (by omega)]; exact p7
  · rw [d2 (b + 2) (by omega) (by omega) (by omega), c5, l3 9 (by omega) (by omega) (by omega), k5, j5, i2 9 (by omega) (by omega) (by omega), hwl]
    rw [show sumI (fun c => loI (colN W (c / 6)) (colN G (c / 6)) (c % 6)) (0 * 6) (24 * 6) = _ from lost_ship W G]
    grind
  · refine frC_t f1 ⟨fun a h1 h2 h3 h4 h5 => d2 a h4 h5 (by omega), fun j _ _ _ => by rw [d2 b (by omega) (by omega) (by omega)], fun j _ => by rw [d2 (b + 2) (by omega) (by omega) (by omega)]⟩
  · rw [d2 b (by omega) (by omega) (by omega), c2.1 b (by omega) (by omega) (by omega) (by omega)]
  · rw [l3 10 (by omega) (by omega) (by omega), same3 10 (by omega) (by omega) (by omega) (by omega) (by omega)]
  · rw [l3 11 (by omega) (by omega) (by omega), same3 11 (by omega) (by omega) (by omega) (by omega) (by omega)]
  · rw [l3 12 (by omega) (by omega) (by omega), same3 12 (by omega) (by omega) (by omega) (by omega) (by omega)]
