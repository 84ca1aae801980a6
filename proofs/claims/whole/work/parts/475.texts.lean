/-! laws and code -/
theorem rel_txt2 {σ σ' τ τ' : St} (h : Rel σ τ) (hC : ∀ a, txC a = false → σ' a = σ a) (hM : ∀ a, txM a = false → τ' a = τ a) (c1 : σ' 24 1 = 0) (c2 : σ' 28 1 = σ 28 1) (m18 : τ' 0 18 = 0) (m0 : ∀ j, j < 18 ∨ 41 ≤ j → τ' 0 j = τ 0 j) (hf : σ' 24 8 = τ' 0 39 ∧ σ' 24 9 = τ' 0 40) (ht : r_txt σ' τ') : Rel σ' τ' := by
  obtain ⟨h1, h2, h3, h4, h5, h6, h7, h8, h9, h10, h11, h12, h13, h14, h15, h16, h17, h18, h19, h20, h21, h22, h23, h24, h25, h26⟩ := h
  refine ⟨?_, ?_, ?_, ?_, hf, ?_, ?_, ?_, ?_, ?_, ?_, ?_, ?_, ?_, ?_, ?_, ?_, ?_, ⟨0, by omega, c1, m18, fun j hj => by omega⟩, ?_, ht, ?_, ?_, ?_, ?_, ?_⟩
  · rw [hC 0 rfl, m0 1 (by omega)]; exact h1
  · rw [c2, m0 2 (by omega)]; exact h2
  · rw [hC 0 rfl, m0 53 (by omega)]; exact h3
  · rw [hC 34 rfl, m0 52 (by omega)]; exact h4
  · rw [hC 3 rfl, hC 4 rfl, hM 1 rfl, hM 2 rfl]; exact h6
  · rw [hC 5 rfl, hC 6 rfl, hC 7 rfl, hC 8 rfl, hC 9 rfl, hM 3 rfl, hM 4 rfl]; exact h7
  · rw [hC 5 rfl, m0 11 (by omega)]; exact h8
  · rw [hC 12 rfl]; exact h9
  · rw [hC 19 rfl]; exact h10
  · rw [hC 13 rfl, hC 14 rfl, hC 15 rfl, hC 16 rfl, hM 5 rfl, hM 6 rfl, hM 7 rfl, hM 8 rfl]; exact h11
  · rw [hC 12 rfl, hM 9 rfl]; exact h12
  · rw [hC 10 rfl, m0 13 (by omega)]; exact h13
  · rw [hC 10 rfl, hM 10 rfl]; exact h14
  · rw [hC 10 rfl, hM 11 rfl]; exact h15
  · rw [hC 10 rfl, hM 12 rfl]; exact h16
  · rw [hC 10 rfl, m0 45 (by omega)]; exact h17
  · rw [hC 11 rfl, hM 27 rfl]; exact h18
  · rw [hM 14 rfl]; exact h20
  · rw [hC 0 rfl, hC 34 rfl, m0 48 (by omega), hC 35 rfl, hC 36 rfl, hC 37 rfl, hM 30 rfl, hM 32 rfl, hM 31 rfl]; exact h22
  · rw [hC 39 rfl, hM 33 rfl]; exact h23
  · rw [hC 0 rfl, m0 56 (by omega), hC 1 rfl, hM 35 rfl]; exact h24
  · rw [hC 41 rfl, m0 58 (by omega), hC 42 rfl, hC 43 rfl, hM 36 rfl, hM 37 rfl, hM 38 rfl, hM 39 rfl]; exact h25
  · rw [hM 29 rfl]; exact h26
theorem get_lt {α : Type} {L : List α} {l : Nat} {q : α} (h : L[l]? = some q) : l < L.length := by
  apply Decidable.byContradiction
  intro z
  rw [List.getElem?_eq_none (by omega)] at h
  exact absurd h (by simp)
theorem xcode_lt {mp : Nat → Nat} {P : Pg} {l i : Nat} {q : Ln} {c : Nat × Nat} (h : P[l]? = some q) (hc : (xp mp (q.2.2.1 ++ q.2.2.2))[i]? = some c) : xpOff mp P l + i < xpOff mp P P.length := by
  have hl := get_lt h
  have hi := get_lt hc
  have e1 := xpOff_s (mp := mp) h
  have e2 := xpOff_le (mp := mp) (P := P) (l := l + 1) (by omega)
  have e3 : (xp mp (q.2.2.1 ++ q.2.2.2)).length = xpLen mp q := xpQ_len mp q
  omega
/-- rows that are as they were -/
theorem rows_pt {row hb nv nh : Nat} {mp : Nat → Nat} {τ τ' : St} {P : Pg} (hP : okPg nv nh mp P) (h : r_rowsAt τ row hb mp P) (h15 : τ' 15 row = τ 15 row) (hl : ∀ a j, 16 ≤ a → a ≤ 20 → 16 * row ≤ j → j < 16 * row + 16 → τ' a j = τ a j) (ho : ∀ a j, a = 21 ∨ a = 22 → 600 * row ≤ j → j < 600 * row + 600 → τ' a j = τ a j) : r_rowsAt τ' row hb mp P := by
  obtain ⟨h1, h2⟩ := h
  refine ⟨by rw [h15]; exact h1, fun l q hq => ?_⟩
  have hlt := get_lt hq
  have h16 := hP.1
  obtain ⟨p1, p2, p3, p4, p5, p6⟩ := h2 l q hq
  refine ⟨by rw [hl 16 _ (by omega) (by omega) (by omega) (by omega)]; exact p1, by rw [hl 18 _ (by omega) (by omega) (by omega) (by omega)]; exact p2, by rw [hl 19 _ (by omega) (by omega) (by omega) (by omega)]; exact p3, by rw [hl 20 _ (by omega) (by omega) (by omega) (by omega)]; exact p4, fun z => by rw [hl 17 _ (by omega) (by omega) (by omega) (by omega)]; exact p5 z, fun i c hc => ?_⟩
  have := xcode_lt hq hc
  have h6 := hP.2.2.1
  rw [ho 21 _ (Or.inl rfl) (by omega) (by omega), ho 22 _ (Or.inr rfl) (by omega) (by omega)]
  exact p6 i c hc
theorem words_pt {b : Nat} {σ σ' : St} {P : Pg} (h : r_wordsAt σ b P) (hs : ∀ a, b ≤ a → a ≤ b + 5 → σ' a = σ a) : r_wordsAt σ' b P := by
  unfold r_wordsAt at *
  rw [hs b (by omega) (by omega), hs (b + 1) (by omega) (by omega), hs (b + 2) (by omega) (by omega), hs (b + 3) (by omega) (by omega), hs (b + 4) (by omega) (by omega), hs (b + 5) (by omega) (by omega)]
  exact h
/-- the new text as both have written it -/
theorem new_words {laws : Bool} {T : Nat → Nat} {len n x c : Nat} {σ τ : St} {P : Pg} (h : lnS laws T len n x σ τ c P) : r_wordsAt σ x P := by
  obtain ⟨hC, hM, h34, hW, hV, lF, lX, hP, hok⟩ := h
  refine ⟨hW.1, fun l q hq => ?_⟩
  obtain ⟨p1, p2, p3, p4⟩ := hW.2 l q hq
  refine ⟨p1, p2, p3, p4, fun i c hc => ?_⟩
  have := fm_get cdQ P l q i c hq hc
  rw [← cdOff_f] at this
  exact hC.2.2.2.2.2.2.2.2.1 _ _ this
theorem new_ok {laws : Bool} {T : Nat → Nat} {len n x c : Nat} {σ τ : St} {P : Pg} (hx : ctx laws T len n) (h : lnS laws T len n x σ τ c P) : okPg (nvN laws) (hdN laws) (mpN laws) P := by
  obtain ⟨hC, hM, h34, hW, hV, lF, lX, hP, hok⟩ := h
  have n6 : n ≤ 600 := by have := hx.1; have := hx.2.1; omega
  have := hC.2.2.2.2.1
  rw [flat_len] at lF
  rw [xflat_len] at lX
  exact ⟨hP, by omega, by omega, hok⟩
/-- the model's copy -/
theorem copy_text {laws : Bool} {row : Nat} {τ : St} {P : Pg} (h33 : τ 0 33 = nI (xp (mpN laws) (flat P)).length) (hcd : ∀ i q, (xp (mpN laws) (flat P))[i]? = some q → τ 21 (1200 + i) = nI q.1 ∧ τ 22 (1200 + i) = nI q.2) (hV : wdM laws τ P) (hP : P.length ≤ 16) (lX : (xp (mpN laws) (flat P)).length ≤ 600) (hrow : row < 2) (hr1 : row = 1 → laws = false) : ∃ τ', fX11_takesText_58 FU τ (nI row) (nI P.length) 0 = some (nI P.length, τ') ∧ r_rowsAt τ' row (hbN laws) (mpN laws) P ∧ (∀ a, ¬ (15 ≤ a ∧ a ≤ 22) → τ' a = τ a) ∧ (∀ j, ¬ j = row → τ' 15 j = τ 15 j) ∧ (∀ a j, 16 ≤ a → a ≤ 20 → ¬ (16 * row ≤ j ∧ j < 16 * row + 16) → τ' a j = τ a j) ∧ (∀ a j, a = 21 ∨ a = 22 → ¬ (600 * row ≤ j ∧ j < 600 * row + 600) → τ' a j = τ a j) := by
  obtain ⟨τ1, a1, a2, a3, a4⟩ := copyL (row := row) (L := P.length) (τ0 := τ) hrow hP P.length 0 FU τ (by omega) (by rw [FU_eq]; omega) (fun _ _ => rfl) (fun _ _ _ _ _ => rfl) (fun a j _ _ hj => by omega)
  have e33 : τ1 0 33 = nI (xp (mpN laws) (flat P)).length := by rw [a2 0 (by omega)]; exact h33
  obtain ⟨τ2, b1, b2, b3, b4, b5⟩ := copyO (row := row) (L := P.length) (M := (xp (mpN laws) (flat P)).length) (τ0 := τ1) hrow lX e33 (xp (mpN laws) (flat P)).length 0 FU τ1 (by omega) (by rw [FU_eq]; omega) (fun _ _ _ => rfl) (fun _ _ _ _ => rfl) (fun a j _ hj => by omega)
  refine ⟨τ2, ?_, ⟨?_, fun l q hq => ?_⟩, ?_, ?_, ?_, ?_⟩
  · rw [show (0 : Int32) = nI 0 from rfl, a1]; exact b1
  · rw [b3, up_same]
  · have hlt := get_lt hq
    obtain ⟨p1, p2, p3, p4, p5⟩ := hV l q hq
    have cp : ∀ a, 16 ≤ a → a ≤ 20 → τ2 a (16 * row + l) = τ a (32 + l) := fun a q1 q2 => by rw [b2 a (by omega) (by omega) (by omega)]; exact a4 a l q1 q2 hlt
    refine ⟨by rw [cp 16 (by omega) (by omega)]; exact p1, by rw [cp 18 (by omega) (by omega)]; exact p2, by rw [cp 19 (by omega) (by omega)]; exact p3, by rw [cp 20 (by omega) (by omega)]; exact p4, fun z => by rw [cp 17 (by omega) (by omega)]; exact p5 (hr1 z), fun i c hc => ?_⟩
    have g := fm_get (fun q => xp (mpN laws) (cdQ q)) P l q i c hq hc
    rw [← xp_flat, ← xpOff_f] at g
    have lt2 : xpOff (mpN laws) P l + i < (xp (mpN laws) (flat P)).length := get_lt g
    obtain ⟨m1, m2⟩ := hcd _ _ g
    rw [Nat.add_assoc, b5 21 _ (Or.inl rfl) lt2, b5 22 _ (Or.inr rfl) lt2, a2 21 (by omega), a2 22 (by omega)]
    exact ⟨m1, m2⟩
  · intro a ha; rw [b2 a (by omega) (by omega) (by omega), a2 a (by omega)]
  · intro j hj; rw [b3, up_ne hj, a2 15 (by omega)]
  · intro a j h1 h2 h3; rw [b2 a (by omega) (by omega) (by omega)]; exact a3 a j h1 h2 h3
  · intro a j h1 h2; rw [b4 a j h1 h2, a2 a (by omega)]
def tpN (σ : St) (j : Nat) : Nat := (σ 25 j).toNatClampNeg
theorem g_tapeT {σ τ : St} (h : Rel σ τ) : ∃ len, len ≤ 600 ∧ σ 24 1 = nI len ∧ τ 0 18 = nI len ∧ (∀ j, j < len → σ 25 j = nI (tpN σ j) ∧ tpN σ j < 256) ∧ ∀ j, j < len → τ 13 j = nI (tpN σ j) ∧ tpN σ j < 256 := by
  obtain ⟨n, h1, h2, h3, h4⟩ := g_tape h
  have key : ∀ j, j < n → (σ 25 j = nI (tpN σ j) ∧ tpN σ j < 256) ∧ τ 13 j = nI (tpN σ j) ∧ tpN σ j < 256 := by
    intro j hj
    obtain ⟨v, v1, v2, v3⟩ := h4 j hj
    have : tpN σ j = v := by unfold tpN; rw [v2]; exact nI_clamp (by omega)
    rw [this]
    exact ⟨⟨v2, v1⟩, v3, v1⟩
  exact ⟨n, h1, h2, h3, fun j hj => (key j hj).1, fun j hj => (key j hj).2⟩
theorem fW_dis {x y : Nat} (hx : fW x) (hy : fW y) (h : ¬ x = y) : ∀ a, y ≤ a → a ≤ y + 5 → ¬ (x ≤ a ∧ a ≤ x + 5) := by
  intro a h1 h2
  rcases hx with rfl | rfl | rfl <;> rcases hy with rfl | rfl | rfl <;> omega
/-- the parts of r_txt that no reading touches -/
theorem keep_C {x y : Nat} {σ σ' : St} {P : Pg} (hx : fW x) (hy : fW y) (h : ¬ x = y) (hf : frA x σ σ') (hw : r_wordsAt σ y P) : r_wordsAt σ' y P := by
  have y44 := fW_ge hy
  exact words_pt hw (fun a h1 h2 => hf.1 a (by omega) (by omega) (by omega) (fW_dis hx hy h a h1 h2))
def frBw (τ τ' : St) : Prop := (∀ a, ¬ a = 0 → ¬ (16 ≤ a ∧ a ≤ 23) → τ' a = τ a) ∧ (∀ j, j < 18 ∨ 41 ≤ j → τ' 0 j = τ 0 j) ∧ (∀ a j, 16 ≤ a → a ≤ 20 → j < 32 → τ' a j = τ a j) ∧ ∀ a j, a = 21 ∨ a = 22 → j < 1200 → τ' a j = τ a j
theorem keep_M {row hb nv nh : Nat} {mp : Nat → Nat} {τ τ' : St} {P : Pg} (hrow : row < 2) (hP : okPg nv nh mp P) (h : r_rowsAt τ row hb mp P) (hf : frBw τ τ') : r_rowsAt τ' row hb mp P :=
  rows_pt hP h (by rw [hf.1 15 (by omega) (by omega)]) (fun a j h1 h2 h3 h4 => hf.2.2.1 a j h1 h2 (by omega)) (fun a j h1 h2 h3 => hf.2.2.2 a j h1 (by omega))
theorem tx_C {x : Nat} (hx : fW x) : ∀ a, txC a = false → ¬ a = 24 ∧ ¬ a = 26 ∧ ¬ a = 27 ∧ ¬ a = 28 ∧ ¬ a = 30 ∧ ¬ (x ≤ a ∧ a ≤ x + 5) := by
  intro a ha
  have x44 := fW_ge hx
  refine ⟨?_, ?_, ?_, ?_, ?_, ?_⟩
  · rintro rfl; exact absurd ha (by decide)
  · rintro rfl; exact absurd ha (by decide)
  · rintro rfl; exact absurd ha (by decide)
  · rintro rfl; exact absurd ha (by decide)
  · rintro rfl; exact absurd ha (by decide)
  · rintro ⟨h1, h2⟩
    unfold txC at ha
    simp only [Bool.or_eq_false_iff, Bool.and_eq_false_iff, decide_eq_false_iff_not, beq_eq_false_iff_ne] at ha
    omega
theorem tx_M : ∀ a, txM a = false → ¬ a = 0 ∧ ¬ (15 ≤ a ∧ a ≤ 26) := by
  intro a ha
  unfold txM at ha
  simp only [Bool.or_eq_false_iff, Bool.and_eq_false_iff, decide_eq_false_iff_not, beq_eq_false_iff_ne] at ha
  omega
/-- both refuse the text -/
theorem text_bad {x y w : Nat} {σ σ' τ τ' : St} {P Q : Pg} (h : Rel σ τ) (ht : r_txtAt σ τ P Q x y w) (hf : frA x σ σ') (hm : frBw τ τ') (hfl : fltR σ' τ') : Rel σ' (st_put (st_put (st_put τ' 0 18 0) 0 39 (τ' 0 37)) 0 40 (τ' 0 38)) := by
  obtain ⟨fx, fy, fw, n1, n2, n3, e1, e2, e3, g1, g2, g3, g4, g5, g6, g7⟩ := ht
  have x44 := fW_ge fx
  generalize hB : st_put (st_put (st_put τ' 0 18 0) 0 39 (τ' 0 37)) 0 40 (τ' 0 38) = B
  have Bo : ∀ a, ¬ a = 0 → B a = τ' a := fun a ha => by rw [← hB, sp_ne ha, sp_ne ha, sp_ne ha]
  have B0 : ∀ j, ¬ j = 18 → ¬ j = 39 → ¬ j = 40 → B 0 j = τ' 0 j := fun j h1 h2 h3 => by rw [← hB, sp_same, up_ne h3, sp_same, up_ne h2, sp_same, up_ne h1]
  have rows : ∀ {row hb nv nh : Nat} {mp : Nat → Nat} {R : Pg}, row < 2 → okPg nv nh mp R → r_rowsAt τ row hb mp R → r_rowsAt B row hb mp R := by
    intro row hb nv nh mp R hrow hR hr
    have := keep_M hrow hR hr hm
    unfold r_rowsAt at *
    rw [Bo 15 (by omega), Bo 16 (by omega), Bo 17 (by omega), Bo 18 (by omega), Bo 19 (by omega), Bo 20 (by omega), Bo 21 (by omega), Bo 22 (by omega)]
    exact this
  refine rel_txt2 h (fun a ha => ?_) (fun a ha => ?_) hf.2.2 ?_ ?_ ?_ ?_ ?_
  · obtain ⟨q1, q2, q3, _, _, q6⟩ := tx_C fx a ha
    exact hf.1 a q1 q2 q3 q6
  · obtain ⟨q1, q2⟩ := tx_M a ha
    rw [Bo a q1, hm.1 a q1 (by omega)]
  · rw [hf.1 28 (by omega) (by omega) (by omega) (by omega)]
  · rw [← hB, sp_same, up_ne (by omega), sp_same, up_ne (by omega), sp_same, up_same]
  · intro j hj; rw [B0 j (by omega) (by omega) (by omega), hm.2.1 j (by omega)]
  · refine ⟨?_, ?_⟩
    · rw [← hB, sp_same, up_ne (by omega), sp_same, up_same]; exact hfl.1
    · rw [← hB, sp_same, up_same]; exact hfl.2
  · refine ⟨P, Q, x, y, w, fx, fy, fw, n1, n2, n3, by rw [hf.2.1]; exact e1, by rw [hf.1 28 (by omega) (by omega) (by omega) (by omega)]; exact e2, by rw [hf.1 30 (by omega) (by omega) (by omega) (by omega)]; exact e3, g1, g2, keep_C fx fy n1 hf g3, rows (by omega) g1 g4, keep_C fx fw n2 hf g5, rows (by omega) g2 g6, ?_⟩
    rw [hf.1 30 (by omega) (by omega) (by omega) (by omega), hf.1 31 (by omega) (by omega) (by omega) (by omega), hf.1 32 (by omega) (by omega) (by omega) (by omega)]
    exact g7
/-- the model's start on a text -/
theorem start_M {τ : St} {laws : Bool} {A : St} (hA : st_put (st_put (st_put τ 0 39 0) 0 40 (-1)) 0 32 (bI laws) = A) : (∀ a, ¬ a = 0 → A a = τ a) ∧ (∀ j, ¬ j = 39 → ¬ j = 40 → ¬ j = 32 → A 0 j = τ 0 j) ∧ A 0 32 = bI laws ∧ (∀ τ', frB A τ' → frBw τ τ' ∧ τ' 0 39 = 0 ∧ τ' 0 40 = -1) := by
  have Ao : ∀ a, ¬ a = 0 → A a = τ a := fun a ha => by rw [← hA, sp_ne ha, sp_ne ha, sp_ne ha]
  have A0 : ∀ j, ¬ j = 39 → ¬ j = 40 → ¬ j = 32 → A 0 j = τ 0 j := fun j q1 q2 q3 => by rw [← hA, sp_same, up_ne q3, sp_same, up_ne q2, sp_same, up_ne q1]
  refine ⟨Ao, A0, by rw [← hA, sp_same, up_same], fun τ' hf => ⟨⟨fun a q1 q2 => by rw [hf.1 a q1 q2, Ao a q1], fun j hj => by rw [hf.2.1 j (by omega), A0 j (by omega) (by omega) (by omega)], fun a j q1 q2 q3 => by rw [hf.2.2.1 a j q1 q2 q3, Ao a (by omega)], fun a j q1 q2 => by rw [hf.2.2.2 a j q1 q2, Ao a (by omega)]⟩, ?_, ?_⟩⟩
  · rw [hf.2.1 39 (by omega), ← hA, sp_same, up_ne (by omega), sp_same, up_ne (by omega), sp_same, up_same]
  · rw [hf.2.1 40 (by omega), ← hA, sp_same, up_ne (by omega), sp_same, up_same]
/-- both take the text -/
theorem text_new {laws : Bool} {T : Nat → Nat} {len n x c row : Nat} {σ τ : St} {P : Pg} (hx : ctx laws T len n) (h : lnS laws T len n x σ τ c P) (hrow : row < 2) (hr1 : row = 1 → laws = false) : ∃ τ', fX11_takesText_58 FU (st_put τ 0 18 0) (nI row) (nI P.length) 0 = some (nI P.length, τ') ∧ r_rowsAt τ' row (hbN laws) (mpN laws) P ∧ (∀ a, ¬ a = 0 → ¬ (15 ≤ a ∧ a ≤ 22) → τ' a = τ a) ∧ (∀ j, ¬ j = 18 → τ' 0 j = τ 0 j) ∧ τ' 0 18 = 0 ∧ (∀ j, ¬ j = row → τ' 15 j = τ 15 j) ∧ (∀ a j, 16 ≤ a → a ≤ 20 → ¬ (16 * row ≤ j ∧ j < 16 * row + 16) → τ' a j = τ a j) ∧ (∀ a j, a = 21 ∨ a = 22 → ¬ (600 * row ≤ j ∧ j < 600 * row + 600) → τ' a j = τ a j) := by
  obtain ⟨hC, hM, h34, hW, hV, lF, lX, hP, hok⟩ := h
  have n6 : n ≤ 600 := by have := hx.1; have := hx.2.1; omega
  have cn := hC.2.2.2.2.1
  have o : ∀ a, ¬ a = 0 → st_put τ 0 18 0 a = τ a := fun a ha => sp_ne ha
  obtain ⟨τ', a1, a2, a3, a4, a5, a6⟩ := copy_text (laws := laws) (row := row) (τ := st_put τ 0 18 0) (P := P) (by rw [sp_same, up_ne (by omega)]; exact hM.2.2.2.2.2.1) (by rw [o 21 (by omega), o 22 (by omega)]; exact hM.2.2.2.2.2.2) (by
    intro l q hq
    rw [o 16 (by omega), o 17 (by omega), o 18 (by omega), o 19 (by omega), o 20 (by omega)]
    exact hV l q hq) hP (by omega) hrow hr1
  refine ⟨τ', a1, a2, fun a q1 q2 => by rw [a3 a q2, o a q1], fun j hj => by rw [a3 0 (by omega), sp_same, up_ne hj], by rw [a3 0 (by omega), sp_same, up_same], fun j hj => by rw [a4 j hj, o 15 (by omega)], fun a j q1 q2 q3 => by rw [a5 a j q1 q2 q3, o a (by omega)], fun a j q1 q2 => by rw [a6 a j q1 q2, o a (by omega)]⟩
theorem opp_6 : op_6 Rel := by
  intro σ τ0 h0
  have h := rel_told h0 0
  unfold fX10_laws fX11_laws
  rw [p_nmS]
  generalize hτ : st_put τ0 0 0 0 = τ at h
  obtain ⟨P, Q, x, y, w, ht⟩ := g_txtAt h
  obtain ⟨len, l6, t1, t2, t3, t4⟩ := g_tapeT h
  have ht' := ht
  obtain ⟨fx, fy, fw, n1, n2, n3, e1, e2, e3, g1, g2, g3, g4, g5, g6, g7⟩ := ht'
  have x44 := fW_ge fx
  have y44 := fW_ge fy
  have w44 := fW_ge fw
  unfold fX11_takesText fX11_takesText_20
  rw [p_nmS, p_nmS, if_pos rfl, p_zb1, p_nmS]
  generalize hA : st_put (st_put (st_put τ 0 39 0) 0 40 (-1)) 0 32 1 = A
  obtain ⟨Ao, A0, A32, Af⟩ := start_M (laws := true) hA
  rcases tape_both (laws := true) (T := tpN σ) (len := len) (x := x) (σ := σ) (τ := A) l6 fx t1 e1 t3 (by rw [A0 18 (by omega) (by omega) (by omega)]; exact t2) (by rw [Ao 13 (by omega)]; exact t4) (by rw [Ao 14 (by omega)]; exact g_wM h) A32 with ⟨σ', τ', a1, a2, a3, a4, a5⟩ | ⟨σ', τ', n, c', P', a1, a2, a3, a4, a5, a6⟩
  · rw [show fX4_readTape σ 1 = _ from a1, p_cb, if_pos rfl, a2, p_cb, p_nmS, if_pos rfl, p_nmS, p_nmS]
    rw [show st_put τ' 0 18 0 0 37 = τ' 0 37 by rw [sp_same, up_ne (by omega)], show st_put (st_put τ' 0 18 0) 0 39 (τ' 0 37) 0 38 = τ' 0 38 by rw [sp_same, up_ne (by omega), sp_same, up_ne (by omega)]]
    exact ⟨-1, σ', _, rfl, rfl, text_bad h ht a4 (Af τ' a5).1 a3⟩
  · obtain ⟨fB, f39, f40⟩ := Af τ' a6
    obtain ⟨τ2, b1, b2, b3, b4, b5, b6, b7, b8⟩ := text_new (row := 0) a3 a4 (by omega) (fun q => by omega)
    have nw := new_words a4
    have nk := new_ok a3 a4
    have cl := a4.1
    have pl16 := a4.2.2.2.2.2.2.2.1
    rw [show fX4_readTape σ 1 = _ from a1, p_cb, if_neg n10, a2, p_cb, p_nmS, if_neg (nI_m1 (by omega)), show fX11_takesText_58 FU (st_put τ' 0 18 0) 0 (nI P'.length) 0 = _ from b1, p_cb]
    rw [show σ' 28 0 = nI y by rw [a5.1 28 (by omega) (by omega) (by omega) (by omega)]; exact e2, p_gw fy]
    unfold fX4_exchange
    rw [show σ' 24 7 = nI x by rw [a5.2.1]; exact e1, p_gw fx, p_nmS, p_cr, p_nmS]
    generalize hB : st_put (st_put σ' 24 7 (nI y)) 28 0 (nI x) = B
    have Bo : ∀ a, ¬ a = 24 → ¬ a = 28 → B a = σ' a := fun a q1 q2 => by rw [← hB, sp_ne q2, sp_ne q1]
    have B24 : ∀ j, ¬ j = 7 → B 24 j = σ' 24 j := fun j hj => by rw [← hB, sp_ne (by omega), sp_same, up_ne hj]
    have B7 : B 24 7 = nI y := by rw [← hB, sp_ne (by omega), sp_same, up_same]
    have B280 : B 28 0 = nI x := by rw [← hB, sp_same, up_same]
    have B281 : B 28 1 = σ 28 1 := by rw [← hB, sp_same, up_ne (by omega), sp_ne (by omega), a5.1 28 (by omega) (by omega) (by omega) (by omega)]
    rw [B280, p_gw fx, show B x 0 = nI P'.length by rw [Bo x (by omega) (by omega)]; exact nw.1]
    have fin : ∀ a, ¬ a = 24 → ¬ a = 26 → ¬ a = 27 → ¬ a = 28 → ¬ (x ≤ a ∧ a ≤ x + 5) → B a = σ a := fun a q1 q2 q3 q4 q5 => by rw [Bo a q1 q4, a5.1 a q1 q2 q3 q5]
    refine ⟨_, _, _, rfl, rfl, rel_txt2 h (fun a ha => ?_) (fun a ha => ?_) ?_ B281 b5 ?_ ?_ ?_⟩
    · obtain ⟨q1, q2, q3, q4, _, q6⟩ := tx_C fx a ha
      exact fin a q1 q2 q3 q4 q6
    · obtain ⟨q1, q2⟩ := tx_M a ha
      rw [b3 a q1 (by omega), fB.1 a q1 (by omega)]
    · rw [B24 1 (by omega)]; exact a5.2.2
    · intro j hj; rw [b4 j (by omega), fB.2.1 j hj]
    · rw [B24 8 (by omega), B24 9 (by omega), b4 39 (by omega), b4 40 (by omega), f39, f40]
      exact cl.2.2.2.2.2.2.2.2.2
    · refine ⟨P', Q, y, x, w, fy, fx, fw, fun q => n1 q.symm, n3, n2, B7, B280, by rw [fin 30 (by omega) (by omega) (by omega) (by omega) (by omega)]; exact e3, nk, g2, words_pt nw (fun a q1 q2 => Bo a (by omega) (by omega)), b2, ?_, ?_, ?_⟩
      · exact words_pt g5 (fun a q1 q2 => fin a (by omega) (by omega) (by omega) (by omega) (fW_dis fx fw n2 a q1 q2))
      · refine rows_pt g2 (keep_M (row := 1) (by omega) g2 g6 fB) (b6 1 (by omega)) (fun a j q1 q2 q3 q4 => b7 a j q1 q2 (by omega)) (fun a j q1 q2 q3 => b8 a j q1 (by omega))
      · rw [fin 30 (by omega) (by omega) (by omega) (by omega) (by omega), fin 31 (by omega) (by omega) (by omega) (by omega) (by omega), fin 32 (by omega) (by omega) (by omega) (by omega) (by omega)]
        exact g7
theorem opp_7 : op_7 Rel := by
  intro σ τ0 h0
  have h := rel_told h0 0
  unfold fX10_code fX11_code
  rw [p_nmS]
  generalize hτ : st_put τ0 0 0 0 = τ at h
  obtain ⟨P, Q, x, y, w, ht⟩ := g_txtAt h
  obtain ⟨len, l6, t1, t2, t3, t4⟩ := g_tapeT h
  have ht' := ht
  obtain ⟨fx, fy, fw, n1, n2, n3, e1, e2, e3, g1, g2, g3, g4, g5, g6, g7⟩ := ht'
  have x44 := fW_ge fx
  have y44 := fW_ge fy
  have w44 := fW_ge fw
  unfold fX11_takesText fX11_takesText_20
  rw [p_nmS, p_nmS, if_neg n10, p_zb0, p_nmS]
  generalize hA : st_put (st_put (st_put τ 0 39 0) 0 40 (-1)) 0 32 0 = A
  obtain ⟨Ao, A0, A32, Af⟩ := start_M (laws := false) hA
  rcases tape_both (laws := false) (T := tpN σ) (len := len) (x := x) (σ := σ) (τ := A) l6 fx t1 e1 t3 (by rw [A0 18 (by omega) (by omega) (by omega)]; exact t2) (by rw [Ao 13 (by omega)]; exact t4) (by rw [Ao 14 (by omega)]; exact g_wM h) A32 with ⟨σ', τ', a1, a2, a3, a4, a5⟩ | ⟨σ', τ', n, c', P', a1, a2, a3, a4, a5, a6⟩
  · rw [show fX4_readTape σ 0 = _ from a1, p_cb, if_pos rfl, a2, p_cb, p_nmS, if_pos rfl, p_nmS, p_nmS]
    rw [show st_put τ' 0 18 0 0 37 = τ' 0 37 by rw [sp_same, up_ne (by omega)], show st_put (st_put τ' 0 18 0) 0 39 (τ' 0 37) 0 38 = τ' 0 38 by rw [sp_same, up_ne (by omega), sp_same, up_ne (by omega)]]
    exact ⟨-1, σ', _, rfl, rfl, text_bad h ht a4 (Af τ' a5).1 a3⟩
  · obtain ⟨fB, f39, f40⟩ := Af τ' a6
    obtain ⟨τ2, b1, b2, b3, b4, b5, b6, b7, b8⟩ := text_new (row := 1) a3 a4 (by omega) (fun _ => rfl)
    have nw := new_words a4
    have nk := new_ok a3 a4
    have cl := a4.1
    have pl16 := a4.2.2.2.2.2.2.2.1
    rw [show fX4_readTape σ 0 = _ from a1, p_cb, if_neg n10, a2, p_cb, p_nmS, if_neg (nI_m1 (by omega)), show fX11_takesText_58 FU (st_put τ' 0 18 0) 1 (nI P'.length) 0 = _ from b1, p_cb]
    rw [show σ' 30 0 = nI w by rw [a5.1 30 (by omega) (by omega) (by omega) (by omega)]; exact e3, p_gw fw]
    unfold fX4_exchange
    rw [show σ' 24 7 = nI x by rw [a5.2.1]; exact e1, p_gw fx, p_nmS, p_cr, p_nmS, p_nmS]
    generalize hB : st_put (st_put (st_put σ' 24 7 (nI w)) 30 0 (nI x)) 30 1 0 = B
    have Bo : ∀ a, ¬ a = 24 → ¬ a = 30 → B a = σ' a := fun a q1 q2 => by rw [← hB, sp_ne q2, sp_ne q2, sp_ne q1]
    have B24 : ∀ j, ¬ j = 7 → B 24 j = σ' 24 j := fun j hj => by rw [← hB, sp_ne (by omega), sp_ne (by omega), sp_same, up_ne hj]
    have B7 : B 24 7 = nI w := by rw [← hB, sp_ne (by omega), sp_ne (by omega), sp_same, up_same]
    have B300 : B 30 0 = nI x := by rw [← hB, sp_same, up_ne (by omega), sp_same, up_same]
    have B301 : B 30 1 = 0 := by rw [← hB, sp_same, up_same]
    rw [B300, p_gw fx, show B x 0 = nI P'.length by rw [Bo x (by omega) (by omega)]; exact nw.1]
    have fin : ∀ a, ¬ a = 24 → ¬ a = 26 → ¬ a = 27 → ¬ a = 30 → ¬ (x ≤ a ∧ a ≤ x + 5) → B a = σ a := fun a q1 q2 q3 q4 q5 => by rw [Bo a q1 q4, a5.1 a q1 q2 q3 q5]
    have B28 : B 28 = σ 28 := fin 28 (by omega) (by omega) (by omega) (by omega) (by omega)
    refine ⟨_, _, _, rfl, rfl, rel_txt2 h (fun a ha => ?_) (fun a ha => ?_) ?_ (by rw [B28]) b5 ?_ ?_ ?_⟩
    · obtain ⟨q1, q2, q3, _, q5, q6⟩ := tx_C fx a ha
      exact fin a q1 q2 q3 q5 q6
    · obtain ⟨q1, q2⟩ := tx_M a ha
      rw [b3 a q1 (by omega), fB.1 a q1 (by omega)]
    · rw [B24 1 (by omega)]; exact a5.2.2
    · intro j hj; rw [b4 j (by omega), fB.2.1 j hj]
    · rw [B24 8 (by omega), B24 9 (by omega), b4 39 (by omega), b4 40 (by omega), f39, f40]
      exact cl.2.2.2.2.2.2.2.2.2
    · refine ⟨P, P', w, y, x, fw, fy, fx, fun q => n3 q.symm, fun q => n2 q.symm, fun q => n1 q.symm, B7, by rw [B28]; exact e2, B300, g1, nk, ?_, ?_, words_pt nw (fun a q1 q2 => Bo a (by omega) (by omega)), b2, Or.inl B301⟩
      · exact words_pt g3 (fun a q1 q2 => fin a (by omega) (by omega) (by omega) (by omega) (fW_dis fx fy n1 a q1 q2))
      · refine rows_pt g1 (keep_M (row := 0) (by omega) g1 g4 fB) (b6 0 (by omega)) (fun a j q1 q2 q3 q4 => b7 a j q1 q2 (by omega)) (fun a j q1 q2 q3 => b8 a j q1 (by omega))
