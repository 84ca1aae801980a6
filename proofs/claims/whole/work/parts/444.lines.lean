/-! lines of a text -/
theorem p_gw {α : Type} {y : Nat} (h : fW y) (K : Nat → Option α) : gw (nI y) K = K y := by
  rcases h with rfl | rfl | rfl <;> rfl
theorem drop_at {α : Type} {P : List α} {l : Nat} {q : α} (h : P[l]? = some q) : P.drop l = q :: P.drop (l + 1) := by
  obtain ⟨h1, h2⟩ := List.getElem?_eq_some_iff.mp h
  rw [List.drop_eq_getElem_cons h1, h2]
theorem sum_snoc (L : List Nat) (x : Nat) : (L ++ [x]).sum = L.sum + x := by rw [List.sum_append, List.sum_cons, List.sum_nil, Nat.add_zero]
theorem cdOff_s {P : Pg} {l : Nat} {q : Ln} (h : P[l]? = some q) : cdOff P (l + 1) = cdOff P l + cdLen q := by
  unfold cdOff
  rw [List.take_succ, h, Option.toList_some, List.map_append, List.map_cons, List.map_nil, sum_snoc]
theorem xpOff_s {mp : Nat → Nat} {P : Pg} {l : Nat} {q : Ln} (h : P[l]? = some q) : xpOff mp P (l + 1) = xpOff mp P l + xpLen mp q := by
  unfold xpOff
  rw [List.take_succ, h, Option.toList_some, List.map_append, List.map_cons, List.map_nil, sum_snoc]
theorem off_mono (off : Nat → Nat) (n : Nat) (h : ∀ l, l < n → off l ≤ off (l + 1)) : ∀ d l, l + d ≤ n → off l ≤ off (l + d) := by
  intro d
  induction d with
  | zero => intro l _; exact Nat.le_refl _
  | succ d ih => intro l hl; exact Nat.le_trans (ih l (by omega)) (h (l + d) (by omega))
theorem cdOff_le {P : Pg} {l : Nat} (h : l ≤ P.length) : cdOff P l ≤ cdOff P P.length := by
  have := off_mono (cdOff P) P.length (fun l hl => by rw [cdOff_s (List.getElem?_eq_getElem hl)]; omega) (P.length - l) l (by omega)
  rwa [show l + (P.length - l) = P.length by omega] at this
theorem xpOff_le {mp : Nat → Nat} {P : Pg} {l : Nat} (h : l ≤ P.length) : xpOff mp P l ≤ xpOff mp P P.length := by
  have := off_mono (xpOff mp P) P.length (fun l hl => by rw [xpOff_s (List.getElem?_eq_getElem hl)]; omega) (P.length - l) l (by omega)
  rwa [show l + (P.length - l) = P.length by omega] at this
theorem xp_nil {mp : Nat → Nat} {C : Cd} : (xp mp C).length = 0 ↔ C = [] := by
  constructor
  · intro h
    cases C with
    | nil => rfl
    | cons c C =>
      rw [xp_cons, List.length_append, xp1_len] at h
      split at h <;> omega
  · intro h; subst h; rfl
def sameX (x : Nat) (σ σ' : St) : Prop := ∀ a, ¬ a = x → σ' a = σ a
theorem sameX_r (x : Nat) (σ : St) : sameX x σ σ := fun _ _ => rfl
theorem sameX_t {x : Nat} {σ σ' σ'' : St} (h : sameX x σ σ') (h' : sameX x σ' σ'') : sameX x σ σ'' := fun a ha => by rw [h' a ha, h a ha]
theorem words_fr {b : Nat} {σ σ' : St} {P : Pg} (h : sameX (b + 6) σ σ') (hw : r_wordsAt σ b P) : r_wordsAt σ' b P := by
  unfold r_wordsAt at *
  rw [h b (by omega), h (b + 1) (by omega), h (b + 2) (by omega), h (b + 3) (by omega), h (b + 4) (by omega), h (b + 5) (by omega)]
  exact hw
theorem rows_fr {row hb : Nat} {mp : Nat → Nat} {τ τ' : St} {P : Pg} (h : sameX 25 τ τ') (hw : r_rowsAt τ row hb mp P) : r_rowsAt τ' row hb mp P := by
  unfold r_rowsAt at *
  rw [h 15 (by omega), h 16 (by omega), h 17 (by omega), h 18 (by omega), h 19 (by omega), h 20 (by omega), h 21 (by omega), h 22 (by omega)]
  exact hw
theorem isOf_C {b l h : Nat} {σ : St} {P : Pg} {q : Ln} (hw : r_wordsAt σ b P) (hP : P.length ≤ 16) (hq : P[l]? = some q) (h1 : q.1 < 10) (h2 : h < 10) : fX9_isOf b σ (nI l) (nI h) = some (if q.1 = h then 1 else 0) := by
  obtain ⟨hl, _⟩ := List.getElem?_eq_some_iff.mp hq
  unfold fX9_isOf
  rw [hw.1, wi_t ⟨nI_pos' (by omega), nI_lt hl (by omega)⟩, if_neg n10, p_rdN (by omega) (by omega), (hw.2 l q hq).1]
  by_cases e : q.1 = h
  · rw [if_pos (by rw [e]), if_pos e]
  · rw [if_neg (fun w => e ((nI_eq (by omega) (by omega)).mp w)), if_neg e]
theorem isSo_C {b v nv nh l : Nat} {mp : Nat → Nat} {σ : St} {P : Pg} {q : Ln} {env : Nat → Int32} (hb : ¬ v = b + 6) (hv : aaN v = nv) (hnv : nv ≤ 16) (hw : r_wordsAt σ b P) (hP : okPg nv nh mp P) (hq : P[l]? = some q) (he : ∀ j, j < nv → σ v j = env j) : ∃ σ', fX9_isSo b v σ (nI l) = some (if evB env q then 1 else 0, σ') ∧ sameX (b + 6) σ σ' := by
  obtain ⟨hl, hq2⟩ := List.getElem?_eq_some_iff.mp hq
  have p16 := hP.1
  have hl16 : l < 16 := by omega
  have ok : okLn nv nh q := hP.2.2.2 q (by rw [← hq2]; exact List.getElem_mem hl)
  obtain ⟨r1, r2, r3, _, r5⟩ := hw.2 l q hq
  have o1 := cdOff_s hq
  have o2 := cdOff_le (P := P) (l := l + 1) (by omega)
  have o3 := hP.2.1
  have cl : cdLen q = q.2.2.1.length + q.2.2.2.length := rfl
  unfold fX9_isSo
  rw [hw.1, wi_t ⟨nI_pos' (by omega), nI_lt hl (by omega)⟩, if_neg n10, p_rdN hl16 (by omega), p_rdN hl16 (by omega), p_rdN hl16 (by omega), p_rdN hl16 (by omega), r2, r3]
  by_cases c : q.2.2.2 = []
  · rw [if_pos (by congr 1; rw [o1, cl, c, List.length_nil]; omega)]
    have : evB env q = true := by unfold evB; rw [c]; rfl
    rw [this]
    exact ⟨σ, rfl, sameX_r _ _⟩
  · have len : 0 < q.2.2.2.length := List.length_pos_iff.mpr c
    rw [if_neg (fun w => by have := (nI_eq (by omega) (by omega)).mp w; omega)]
    obtain ⟨σ', e1, e2⟩ := work_val (b := b) (v := v) (env := env) (C := q.2.2.2) (at_ := cdOff P l + q.2.2.1.length) (to := cdOff P (l + 1)) (σ := σ) hb (by omega) hv hnv (ok.2.2.2.2 c) (by omega) (fun i c hi => by
      rw [Nat.add_assoc]
      refine r5 (q.2.2.1.length + i) c ?_
      rw [List.getElem?_append_right (by omega), Nat.add_sub_cancel_left]; exact hi) he
    rw [e1, p_cb]
    have eb : evB env q = (evV env q.2.2.2 != 0) := by unfold evB; rw [show (q.2.2.2 == []) = false from by simpa using c]; rfl
    rw [eb]
    by_cases z : evV env q.2.2.2 = 0
    · rw [if_pos z, if_neg (by simp [z])]; exact ⟨σ', rfl, e2⟩
    · rw [if_neg z, if_pos (by simp [z])]; exact ⟨σ', rfl, e2⟩
theorem valueOf_C {b v nv l : Nat} {mp : Nat → Nat} {σ : St} {P : Pg} {q : Ln} {env : Nat → Int32} (hb : ¬ v = b + 6) (hv : aaN v = nv) (hnv : nv ≤ 16) (hw : r_wordsAt σ b P) (hP : okPg nv 4 mp P) (hq : P[l]? = some q) (he : ∀ j, j < nv → σ v j = env j) : ∃ σ', fX9_valueOf b v σ (nI l) = some (evV env q.2.2.1, σ') ∧ sameX (b + 6) σ σ' := by
  obtain ⟨hl, hq2⟩ := List.getElem?_eq_some_iff.mp hq
  have p16 := hP.1
  have hl16 : l < 16 := by omega
  have ok : okLn nv 4 q := hP.2.2.2 q (by rw [← hq2]; exact List.getElem_mem hl)
  obtain ⟨r1, r2, r3, _, r5⟩ := hw.2 l q hq
  have o1 := cdOff_s hq
  have o2 := cdOff_le (P := P) (l := l + 1) (by omega)
  have o3 := hP.2.1
  have cl : cdLen q = q.2.2.1.length + q.2.2.2.length := rfl
  obtain ⟨σ', e1, e2⟩ := work_val (b := b) (v := v) (env := env) (C := q.2.2.1) (at_ := cdOff P l) (to := cdOff P l + q.2.2.1.length) (σ := σ) hb (by omega) hv hnv (ok.2.2.1 rfl) rfl (fun i c hi => by
      refine r5 i c ?_
      obtain ⟨hi2, _⟩ := List.getElem?_eq_some_iff.mp hi
      rw [List.getElem?_append_left hi2]; exact hi) he
  have main : ∀ y : Int32, y = nI (cdOff P l) → fX9_valueOf_28 b v σ (nI l) y = some (evV env q.2.2.1, σ') := by
    intro y hy
    unfold fX9_valueOf_28
    rw [p_rdN hl16 (by omega), r2, hy, e1]; rfl
  refine ⟨σ', ?_, e2⟩
  unfold fX9_valueOf
  rw [hw.1, wi_t ⟨nI_pos' (by omega), nI_lt hl (by omega)⟩, if_neg n10]
  by_cases z : l = 0
  · subst z; rw [if_pos (show nI 0 = 0 from rfl)]; exact main 0 rfl
  · obtain ⟨k, rfl⟩ : ∃ k, l = k + 1 := ⟨l - 1, by omega⟩
    rw [if_neg (fun w => z ((nI_e0 (by omega)).mp w)), show nI (k + 1) - 1 = nI k from nI_pred k, p_rdN (by omega) (by omega)]
    have hk : P[k]? = some P[k] := List.getElem?_eq_getElem (by omega)
    exact main _ (hw.2 k _ hk).2.2.1
/-- what the laws come to -/
def lawV (env : Nat → Int32) (h : Nat) : Pg → Int32
  | [] => 0
  | q :: r => if q.1 = h ∧ evB env q = true then evV env q.2.2.1 else lawV env h r
theorem cm_s (f : Nat) (σ : St) (a b : Int32) : fX2_comesTo_2 (f + 1) σ a b = fX2_comesTo_2B (fX2_comesTo_2 f) σ a b := rfl
theorem lo_s (f : Nat) (σ : St) (a b : Int32) : fX11_lawOf_2 (f + 1) σ a b = fX11_lawOf_2B (fX11_lawOf_2 f) σ a b := rfl
theorem comes_C {y h : Nat} {P : Pg} {env : Nat → Int32} (hy : fW y) (hP : okPg 9 4 mpL P) (hh : h < 4) : ∀ (d l f : Nat) (σ : St), l + d = P.length → d < f → σ 28 0 = nI y → r_wordsAt σ y P → (∀ j, j < 9 → σ 29 j = env j) → ∃ σ', fX2_comesTo_2 f σ (nI h) (nI l) = some (lawV env h (P.drop l), σ') ∧ sameX (y + 6) σ σ' := by
  have y44 : 44 ≤ y := by rcases hy with rfl | rfl | rfl <;> omega
  have p16 := hP.1
  intro d
  induction d with
  | zero =>
    intro l f σ hl hf e28 hw he
    obtain ⟨f, rfl⟩ : ∃ g, f = g + 1 := ⟨f - 1, by omega⟩
    rw [cm_s]; unfold fX2_comesTo_2B
    rw [e28, p_gw hy, hw.1, if_pos (nI_le (by omega) (by omega)), List.drop_eq_nil_of_le (by omega)]
    exact ⟨σ, rfl, sameX_r _ _⟩
  | succ d ih =>
    intro l f σ hl hf e28 hw he
    obtain ⟨f, rfl⟩ : ∃ g, f = g + 1 := ⟨f - 1, by omega⟩
    have hlt : l < P.length := by omega
    have hq : P[l]? = some P[l] := List.getElem?_eq_getElem hlt
    have ok := hP.2.2.2 P[l] (List.getElem_mem hlt)
    generalize P[l] = q at hq ok
    rw [cm_s]; unfold fX2_comesTo_2B
    simp only [e28, p_gw hy]
    rw [hw.1, if_neg (show ¬ nI P.length ≤ nI l from fun w => absurd ((nI_leI (by omega) (by omega)).mp w) (by omega)), isOf_C hw hP.1 hq (by have := ok.1; omega) (by omega), p_cq, drop_at hq, show nI l + 1 = nI (l + 1) from (nI_succ l).symm]
    by_cases e : q.1 = h
    · rw [if_pos e, if_neg n10]
      obtain ⟨σ1, f1, f2⟩ := isSo_C (nv := 9) (nh := 4) (v := 29) (env := env) (by omega) rfl (by omega) hw hP hq he
      rw [f1, p_cb]
      by_cases eb : evB env q = true
      · rw [if_pos eb, if_neg n10, f2 28 (by omega), e28, p_gw hy]
        obtain ⟨σ2, g1, g2⟩ := valueOf_C (nv := 9) (v := 29) (env := env) (by omega) rfl (by omega) (words_fr f2 hw) hP hq (fun j hj => by rw [f2 29 (by omega)]; exact he j hj)
        rw [g1, p_cb]
        refine ⟨σ2, ?_, sameX_t f2 g2⟩
        unfold lawV; rw [if_pos ⟨e, eb⟩]
      · rw [if_neg eb, if_pos rfl]
        obtain ⟨σ2, g1, g2⟩ := ih (l + 1) f σ1 (by omega) (by omega) (by rw [f2 28 (by omega)]; exact e28) (words_fr f2 hw) (fun j hj => by rw [f2 29 (by omega)]; exact he j hj)
        refine ⟨σ2, ?_, sameX_t f2 g2⟩
        rw [g1]; show some (lawV env h (P.drop (l + 1)), σ2) = some ((if q.1 = h ∧ evB env q = true then evV env q.2.2.1 else lawV env h (P.drop (l + 1))), σ2)
        rw [if_neg (fun w => eb w.2)]
    · rw [if_neg e, if_pos rfl]
      obtain ⟨σ2, g1, g2⟩ := ih (l + 1) f σ (by omega) (by omega) e28 hw he
      refine ⟨σ2, ?_, g2⟩
      rw [g1]; show some (lawV env h (P.drop (l + 1)), σ2) = some ((if q.1 = h ∧ evB env q = true then evV env q.2.2.1 else lawV env h (P.drop (l + 1))), σ2)
      rw [if_neg (fun w => e w.1)]
/-- a line of the model: what is to be worked -/
theorem line_M {row hb nv nh l : Nat} {mp : Nat → Nat} {τ : St} {P : Pg} {q : Ln} {env : Nat → Int32} (hr : row ≤ 2) (hmp : ∀ j, j < nv → mp j < 16) (hnv : nv ≤ 16) (hw : r_rowsAt τ row hb mp P) (hP : okPg nv nh mp P) (hq : P[l]? = some q) (he : ∀ j, j < nv → τ 24 (mp j) = env j) : (¬ q.2.2.2 = [] → ∃ τ', fX11_worth τ (nI row) (nI (xpOff mp P l + (xp mp q.2.2.1).length)) (nI (xpOff mp P (l + 1))) = some (evV env q.2.2.2, τ') ∧ sameX 25 τ τ') ∧ (nh = 4 → ∃ τ', fX11_worth τ (nI row) (nI (xpOff mp P l)) (nI (xpOff mp P l + (xp mp q.2.2.1).length)) = some (evV env q.2.2.1, τ') ∧ sameX 25 τ τ') := by
  obtain ⟨hl, hq2⟩ := List.getElem?_eq_some_iff.mp hq
  have ok : okLn nv nh q := hP.2.2.2 q (by rw [← hq2]; exact List.getElem_mem hl)
  obtain ⟨r1, r2, r3, r4, _, r5⟩ := hw.2 l q hq
  have o1 := xpOff_s (mp := mp) hq
  have o2 := xpOff_le (mp := mp) (P := P) (l := l + 1) (by omega)
  have o3 := hP.2.2.1
  have cl : xpLen mp q = (xp mp q.2.2.1).length + (xp mp q.2.2.2).length := rfl
  constructor
  · intro c
    refine worth_val (C := q.2.2.2) hr (by omega) hmp hnv (ok.2.2.2.2 c) (by omega) (fun i c hi => ?_) he
    have := r5 ((xp mp q.2.2.1).length + i) c (by rw [xp_app, List.getElem?_append_right (by omega), Nat.add_sub_cancel_left]; exact hi)
    rw [show 600 * row + (xpOff mp P l + (xp mp q.2.2.1).length) + i = 600 * row + xpOff mp P l + ((xp mp q.2.2.1).length + i) by omega]
    exact this
  · intro h4
    refine worth_val (C := q.2.2.1) hr (by omega) hmp hnv (ok.2.2.1 h4) rfl (fun i c hi => ?_) he
    obtain ⟨hi2, _⟩ := List.getElem?_eq_some_iff.mp hi
    exact r5 i c (by rw [xp_app, List.getElem?_append_left hi2]; exact hi)
theorem law_M {h : Nat} {P : Pg} {env : Nat → Int32} (hP : okPg 9 4 mpL P) (hh : h < 4) : ∀ (d l f : Nat) (τ : St), l + d = P.length → d < f → r_rowsAt τ 0 0 mpL P → (∀ j, j < 9 → τ 24 j = env j) → ∃ τ', fX11_lawOf_2 f τ (nI h) (nI l) = some (lawV env h (P.drop l), τ') ∧ sameX 25 τ τ' := by
  have p16 := hP.1
  have z3 : ∀ (g : Nat → Int32) (K : Int32 → Option (Int32 × St)), rdK 3 g 0 K = K (g 0) := fun g K => p_rdN (j := 0) (by omega) (by omega) K
  intro d
  induction d with
  | zero =>
    intro l f τ hl hf hw he
    obtain ⟨f, rfl⟩ : ∃ g, f = g + 1 := ⟨f - 1, by omega⟩
    rw [lo_s]; unfold fX11_lawOf_2B
    rw [z3, hw.1, if_pos (nI_le (by omega) (by omega)), List.drop_eq_nil_of_le (by omega)]
    exact ⟨τ, rfl, sameX_r _ _⟩
  | succ d ih =>
    intro l f τ hl hf hw he
    obtain ⟨f, rfl⟩ : ∃ g, f = g + 1 := ⟨f - 1, by omega⟩
    have hlt : l < P.length := by omega
    have hq : P[l]? = some P[l] := List.getElem?_eq_getElem hlt
    have ok := hP.2.2.2 P[l] (List.getElem_mem hlt)
    generalize P[l] = q at hq ok
    obtain ⟨r1, r2, r3, r4, _, r5⟩ := hw.2 l q hq
    rw [show 16 * 0 + l = l by omega] at r1 r2 r3 r4
    have l48 : l < 48 := by omega
    have ql : q.1 < 4 := ok.1
    obtain ⟨W1, W2⟩ := line_M (nh := 4) (env := env) (by omega) (fun j hj => by show j < 16; omega) (by omega) hw hP hq he
    have V : ∀ τ1, sameX 25 τ τ1 → ∃ τ', fX11_lawOf_60 τ1 (nI l) = some (evV env q.2.2.1, τ') ∧ sameX 25 τ τ' := by
      intro τ1 s1
      obtain ⟨_, W3⟩ := line_M (nh := 4) (env := env) (τ := τ1) (by omega) (fun j hj => by show j < 16; omega) (by omega) (rows_fr s1 hw) hP hq (fun j hj => by rw [s1 24 (by omega)]; exact he j hj)
      obtain ⟨τ2, e1, e2⟩ := W3 rfl
      refine ⟨τ2, ?_, sameX_t s1 e2⟩
      unfold fX11_lawOf_60
      rw [p_rdN l48 (by omega), p_rdN l48 (by omega), s1 18 (by omega), s1 19 (by omega), r2, r3, show (0 : Int32) = nI 0 from rfl, e1]; rfl
    have o1 := xpOff_s (mp := mpL) hq
    have o2 := xpOff_le (mp := mpL) (P := P) (l := l + 1) (by omega)
    have o3 := hP.2.2.1
    have cl : xpLen mpL q = (xp mpL q.2.2.1).length + (xp mpL q.2.2.2).length := rfl
    rw [lo_s]; unfold fX11_lawOf_2B
    rw [z3, hw.1, if_neg (show ¬ nI P.length ≤ nI l from fun w => absurd ((nI_leI (by omega) (by omega)).mp w) (by omega)), p_rdN l48 (by omega), p_rdN l48 (by omega), p_rdN l48 (by omega), p_rdN l48 (by omega), p_rdN l48 (by omega), r1, r3, r4, drop_at hq, show nI l + 1 = nI (l + 1) from (nI_succ l).symm, Nat.zero_add]
    by_cases e : q.1 = h
    · rw [if_pos (by rw [e])]
      by_cases c : q.2.2.2 = []
      · have c0 := (xp_nil (mp := mpL)).mpr c
        rw [if_pos (by congr 1; omega)]
        obtain ⟨τ2, e1, e2⟩ := V τ (sameX_r _ _)
        refine ⟨τ2, ?_, e2⟩
        rw [e1]; unfold lawV
        rw [if_pos ⟨e, by unfold evB; rw [c]; rfl⟩]
      · have c0 : ¬ (xp mpL q.2.2.2).length = 0 := fun w => c (xp_nil.mp w)
        rw [if_neg (fun w => by have := (nI_eq (by omega) (by omega)).mp w; omega)]
        obtain ⟨τ1, g1, g2⟩ := W1 c
        rw [show (0 : Int32) = nI 0 from rfl, g1, p_cb]
        have eb : evB env q = (evV env q.2.2.2 != 0) := by unfold evB; rw [show (q.2.2.2 == []) = false from by simpa using c]; rfl
        by_cases z : evV env q.2.2.2 = 0
        · rw [show nI 0 = (0 : Int32) from rfl, if_pos z]
          obtain ⟨τ2, k1, k2⟩ := ih (l + 1) f τ1 (by omega) (by omega) (rows_fr g2 hw) (fun j hj => by rw [g2 24 (by omega)]; exact he j hj)
          refine ⟨τ2, ?_, sameX_t g2 k2⟩
          rw [k1]; show some (lawV env h (P.drop (l + 1)), τ2) = some ((if q.1 = h ∧ evB env q = true then evV env q.2.2.1 else lawV env h (P.drop (l + 1))), τ2)
          rw [if_neg (fun w => by rw [eb] at w; simp [z] at w)]
        · rw [show nI 0 = (0 : Int32) from rfl, if_neg z]
          obtain ⟨τ2, e1, e2⟩ := V τ1 g2
          refine ⟨τ2, ?_, e2⟩
          rw [e1]; unfold lawV
          rw [if_pos ⟨e, by rw [eb]; simp [z]⟩]
    · rw [if_neg (fun w => e ((nI_eq (by omega) (by omega)).mp w))]
      obtain ⟨τ2, k1, k2⟩ := ih (l + 1) f τ (by omega) (by omega) hw he
      refine ⟨τ2, ?_, k2⟩
      rw [k1]; show some (lawV env h (P.drop (l + 1)), τ2) = some ((if q.1 = h ∧ evB env q = true then evV env q.2.2.1 else lawV env h (P.drop (l + 1))), τ2)
      rw [if_neg (fun w => e w.1)]
/-- the code: whether a line is so, for p, or (-1) for anybody -/
def someP (env : Nat → Int32) (h : Nat) (p : Int32) : Pg → Bool
  | [] => false
  | q :: r => (q.1 == h && (p == -1 || p == nI q.2.1) && evB env q) || someP env h p r
theorem so_s (f : Nat) (σ : St) (a b c : Int32) : fX1_someLine_2 (f + 1) σ a b c = fX1_someLine_2B (fX1_someLine_2 f) σ a b c := rfl
theorem iso_s (f : Nat) (σ : St) (a b c : Int32) : fX11_isSo_3 (f + 1) σ a b c = fX11_isSo_3B (fX11_isSo_3 f) σ a b c := rfl
def bI (b : Bool) : Int32 := if b then 1 else 0
theorem isFor_C {b l : Nat} {σ : St} {P : Pg} {q : Ln} {p : Int32} (hw : r_wordsAt σ b P) (hP : P.length ≤ 16) (hq : P[l]? = some q) (h1 : q.2.2.1 = []) : fX9_isFor b σ (nI l) p = some (bI (p == -1 || p == nI q.2.1)) := by
  obtain ⟨hl, _⟩ := List.getElem?_eq_some_iff.mp hq
  unfold fX9_isFor
  rw [hw.1, wi_t ⟨nI_pos' (by omega), nI_lt hl (by omega)⟩, if_neg n10]
  by_cases c : p = -1
  · rw [if_pos c, c]; rfl
  · rw [if_neg c, p_rdN (by omega) (by omega), (hw.2 l q hq).2.2.2.1 h1]
    have c2 : (p == -1) = false := by simpa using c
    rw [c2, Bool.false_or]
    by_cases d : nI q.2.1 = p
    · rw [if_pos d, d]; simp [bI]
    · rw [if_neg d]
      have : (p == nI q.2.1) = false := by simpa using fun w => d w.symm
      rw [this]; rfl
theorem some_C {w h : Nat} {Q : Pg} {env : Nat → Int32} {p : Int32} (hw' : fW w) (hQ : okPg 8 3 mpC Q) (hh : h < 3) : ∀ (d l f : Nat) (σ : St), l + d = Q.length → d < f → σ 30 0 = nI w → r_wordsAt σ w Q → (∀ j, j < 8 → σ 33 j = env j) → ∃ σ', fX1_someLine_2 f σ (nI h) p (nI l) = some (bI (someP env h p (Q.drop l)), σ') ∧ sameX (w + 6) σ σ' := by
  have y44 : 44 ≤ w := by rcases hw' with rfl | rfl | rfl <;> omega
  have p16 := hQ.1
  intro d
  induction d with
  | zero =>
    intro l f σ hl hf e28 hw he
    obtain ⟨f, rfl⟩ : ∃ g, f = g + 1 := ⟨f - 1, by omega⟩
    rw [so_s]; unfold fX1_someLine_2B
    rw [e28, p_gw hw', hw.1, if_pos (nI_le (by omega) (by omega)), List.drop_eq_nil_of_le (by omega)]
    exact ⟨σ, rfl, sameX_r _ _⟩
  | succ d ih =>
    intro l f σ hl hf e28 hw he
    obtain ⟨f, rfl⟩ : ∃ g, f = g + 1 := ⟨f - 1, by omega⟩
    have hlt : l < Q.length := by omega
    have hq : Q[l]? = some Q[l] := List.getElem?_eq_getElem hlt
    have ok := hQ.2.2.2 Q[l] (List.getElem_mem hlt)
    generalize Q[l] = q at hq ok
    have st : someP env h p (q :: Q.drop (l + 1)) = ((q.1 == h && (p == -1 || p == nI q.2.1) && evB env q) || someP env h p (Q.drop (l + 1))) := rfl
    rw [so_s]; unfold fX1_someLine_2B
    simp only [e28, p_gw hw']
    rw [hw.1, if_neg (show ¬ nI Q.length ≤ nI l from fun w => absurd ((nI_leI (by omega) (by omega)).mp w) (by omega)), isOf_C hw hQ.1 hq (by have := ok.1; omega) (by omega), p_cq, drop_at hq, show nI l + 1 = nI (l + 1) from (nI_succ l).symm, isFor_C hw hQ.1 hq (ok.2.2.2.1 rfl).1, p_cq, st]
    by_cases e : q.1 = h
    · have e' : (q.1 == h) = true := by simpa using e
      rw [if_pos e, if_neg n10, e', Bool.true_and]
      cases hb : (p == -1 || p == nI q.2.1) with
      | false =>
        rw [if_pos (show bI false = 0 from rfl), Bool.false_and, Bool.false_or]
        exact ih (l + 1) f σ (by omega) (by omega) e28 hw he
      | true =>
        rw [if_neg (show ¬ bI true = 0 from n10), Bool.true_and]
        obtain ⟨σ1, f1, f2⟩ := isSo_C (nv := 8) (nh := 3) (v := 33) (env := env) (by omega) rfl (by omega) hw hQ hq he
        rw [f1, p_cb]
        cases eb : evB env q with
        | true => rw [if_pos rfl, if_neg n10, Bool.true_or]; exact ⟨σ1, rfl, f2⟩
        | false =>
          rw [if_neg (show ¬ false = true by decide), if_pos rfl, Bool.false_or]
          obtain ⟨σ2, g1, g2⟩ := ih (l + 1) f σ1 (by omega) (by omega) (by rw [f2 30 (by omega)]; exact e28) (words_fr f2 hw) (fun j hj => by rw [f2 33 (by omega)]; exact he j hj)
          exact ⟨σ2, g1, sameX_t f2 g2⟩
    · have e' : (q.1 == h) = false := by simpa using e
      rw [if_neg e, if_pos rfl, e', Bool.false_and, Bool.false_and, Bool.false_or]
      exact ih (l + 1) f σ (by omega) (by omega) e28 hw he
theorem mpC_lt {j : Nat} (h : j < 8) : mpC j < 16 := by unfold mpC; split <;> (try split) <;> omega
theorem some_M {h : Nat} {Q : Pg} {env : Nat → Int32} {p : Int32} (hQ : okPg 8 3 mpC Q) (hh : h < 3) : ∀ (d l f : Nat) (τ : St), l + d = Q.length → d < f → r_rowsAt τ 1 4 mpC Q → (∀ j, j < 8 → τ 24 (mpC j) = env j) → ∃ τ', fX11_isSo_3 f τ (nI (4 + h)) p (nI (16 + l)) = some (bI (someP env h p (Q.drop l)), τ') ∧ sameX 25 τ τ' := by
  have p16 := hQ.1
  have z3 : ∀ (g : Nat → Int32) (K : Int32 → Option (Int32 × St)), rdK 3 g 1 K = K (g 1) := fun g K => p_rdN (j := 1) (by omega) (by omega) K
  intro d
  induction d with
  | zero =>
    intro l f τ hl hf hw he
    obtain ⟨f, rfl⟩ : ∃ g, f = g + 1 := ⟨f - 1, by omega⟩
    rw [iso_s]; unfold fX11_isSo_3B
    rw [z3, hw.1, show (16 : Int32) = nI 16 from rfl, nI_add, if_pos (nI_le (by omega) (by omega)), List.drop_eq_nil_of_le (by omega)]
    exact ⟨τ, rfl, sameX_r _ _⟩
  | succ d ih =>
    intro l f τ hl hf hw he
    obtain ⟨f, rfl⟩ : ∃ g, f = g + 1 := ⟨f - 1, by omega⟩
    have hlt : l < Q.length := by omega
    have hq : Q[l]? = some Q[l] := List.getElem?_eq_getElem hlt
    have ok := hQ.2.2.2 Q[l] (List.getElem_mem hlt)
    generalize Q[l] = q at hq ok
    obtain ⟨r1, r2, r3, r4, r6, r5⟩ := hw.2 l q hq
    rw [show 16 * 1 + l = 16 + l by omega] at r1 r2 r3 r4 r6
    have l48 : 16 + l < 48 := by omega
    have ql : q.1 < 3 := ok.1
    have c := (ok.2.2.2.1 rfl).2
    obtain ⟨W1, _⟩ := line_M (nh := 3) (env := env) (by omega) (fun j hj => mpC_lt hj) (by omega) hw hQ hq he
    obtain ⟨τ1, g1, g2⟩ := W1 c
    have st : someP env h p (q :: Q.drop (l + 1)) = ((q.1 == h && (p == -1 || p == nI q.2.1) && evB env q) || someP env h p (Q.drop (l + 1))) := rfl
    have eb : evB env q = (evV env q.2.2.2 != 0) := by unfold evB; rw [show (q.2.2.2 == []) = false from by simpa using c]; rfl
    have i1 := ih (l + 1) f τ (by omega) (by omega) hw he
    have nx : nI (16 + l) + 1 = nI (16 + (l + 1)) := (nI_succ (16 + l)).symm
    have go : q.1 = h → (p == -1 || p == nI q.2.1) = true → ∃ τ', fX11_isSo_41 (fX11_isSo_3 f) τ (nI (4 + h)) p (nI (16 + l)) = some (bI (someP env h p (q :: Q.drop (l + 1))), τ') ∧ sameX 25 τ τ' := by
      intro e hb
      unfold fX11_isSo_41
      rw [p_rdN l48 (by omega), p_rdN l48 (by omega), r3, r4, show (1 : Int32) = nI 1 from rfl, g1, p_cb, st, hb, show (q.1 == h) = true from by simpa using e, Bool.true_and, Bool.true_and, eb]
      by_cases z : evV env q.2.2.2 = 0
      · rw [if_pos z, show (evV env q.2.2.2 != 0) = false from by simpa using z, Bool.false_or, show nI 1 = (1 : Int32) from rfl, nx]
        obtain ⟨τ2, k1, k2⟩ := ih (l + 1) f τ1 (by omega) (by omega) (rows_fr g2 hw) (fun j hj => by rw [g2 24 (by omega)]; exact he j hj)
        exact ⟨τ2, k1, sameX_t g2 k2⟩
      · rw [if_neg z, show (evV env q.2.2.2 != 0) = true from by simpa using z, Bool.true_or]
        exact ⟨τ1, rfl, g2⟩
    rw [iso_s]; unfold fX11_isSo_3B
    rw [z3, hw.1, show (16 : Int32) + nI Q.length = nI (16 + Q.length) from nI_add 16 _, if_neg (show ¬ nI (16 + Q.length) ≤ nI (16 + l) from fun w => absurd ((nI_leI (by omega) (by omega)).mp w) (by omega)), p_rdN l48 (by omega), p_rdN l48 (by omega), r1, r6 rfl, drop_at hq, nx]
    by_cases e : q.1 = h
    · rw [if_pos (by rw [e])]
      by_cases cp : p = -1
      · rw [if_pos cp]; exact go e (by simp [cp])
      · rw [if_neg cp]
        by_cases d2 : nI q.2.1 = p
        · rw [if_pos d2]; exact go e (by simp [d2])
        · rw [if_neg d2, st, show (p == -1 || p == nI q.2.1) = false from by
            have a1 : (p == -1) = false := by simpa using cp
            have a2 : (p == nI q.2.1) = false := by simpa using fun w => d2 w.symm
            rw [a1, a2]; rfl, Bool.and_false, Bool.false_and, Bool.false_or]
          exact i1
    · rw [if_neg (fun w => e (by have := (nI_eq (by omega) (by omega)).mp w; omega)), st, show (q.1 == h) = false from by simpa using e, Bool.false_and, Bool.false_and, Bool.false_or]
      exact i1
