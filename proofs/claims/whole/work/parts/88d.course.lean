/-! A course: the first row of choices by which one comes to an idea; the class. -/
/-- an hour by a choice: 0 nobody, i + 1 the idea i; none if he is not ready for it -/
def stC (B : Bh) (x w : Nat) (row : Nat → Nat) (h : Nat) : Nat → Option (Nat → Nat)
  | 0 => some (hrB B row x w h (tdM B h) none)
  | i + 1 => bif rdM B row x w h (tdM B h) i then some (hrB B row x w h (tdM B h) (some i)) else none
/-- the first choice that has an end -/
def fsC (f : Nat → Option (List Nat)) : Nat → Nat → Option (List Nat)
  | 0, _ => none
  | c + 1, e => match f e with
    | some l => some (e :: l)
    | none => fsC f c (e + 1)
def cR (B : Bh) (x w y : Nat) : Nat → (Nat → Nat) → Nat → Option (List Nat)
  | 0, row, _ => if 0 < row y then some [] else none
  | m + 1, row, h => fsC (fun e => (stC B x w row h e).bind (fun r => cR B x w y m r (h + 1))) (ni B + 1) 0
theorem cR_s (B : Bh) (x w y m : Nat) (row : Nat → Nat) (h : Nat) : cR B x w y (m + 1) row h = fsC (fun e => (stC B x w row h e).bind (fun r => cR B x w y m r (h + 1))) (ni B + 1) 0 := rfl
theorem fsC_t {f : Nat → Option (List Nat)} {c e : Nat} {l : List Nat} (h : f e = some l) : fsC f (c + 1) e = some (e :: l) := by
  show (match f e with | some l => some (e :: l) | none => fsC f c (e + 1)) = _
  rw [h]
theorem fsC_f {f : Nat → Option (List Nat)} {c e : Nat} (h : f e = none) : fsC f (c + 1) e = fsC f c (e + 1) := by
  show (match f e with | some l => some (e :: l) | none => fsC f c (e + 1)) = _
  rw [h]
theorem fsC_none {f : Nat → Option (List Nat)} : ∀ (c e : Nat), fsC f c e = none → ∀ j, e ≤ j → j < e + c → f j = none := by
  intro c
  induction c with
  | zero => intro e _ j h1 h2; omega
  | succ c ih =>
    intro e h j h1 h2
    cases hf : f e with
    | some l => rw [fsC_t hf] at h; cases h
    | none =>
      rw [fsC_f hf] at h
      by_cases hj : j = e
      · rw [hj]; exact hf
      · exact ih (e + 1) h j (by omega) (by omega)
theorem fsC_no {f : Nat → Option (List Nat)} : ∀ (c e : Nat), (∀ j, e ≤ j → j < e + c → f j = none) → fsC f c e = none := by
  intro c
  induction c with
  | zero => intro e _; rfl
  | succ c ih =>
    intro e h
    rw [fsC_f (h e (Nat.le_refl _) (by omega))]
    exact ih (e + 1) (fun j h1 h2 => h j (by omega) (by omega))
theorem fsC_at {f : Nat → Option (List Nat)} {t : Nat} {l : List Nat} (ht : f t = some l) : ∀ (c e : Nat), e ≤ t → t < e + c → (∀ j, e ≤ j → j < t → f j = none) → fsC f c e = some (t :: l) := by
  intro c
  induction c with
  | zero => intro e h1 h2; omega
  | succ c ih =>
    intro e h1 h2 h3
    by_cases hj : t = e
    · subst hj; exact fsC_t ht
    · rw [fsC_f (h3 e (Nat.le_refl _) (by omega))]
      exact ih (e + 1) (by omega) (by omega) (fun j q1 q2 => h3 j (by omega) q2)
theorem cR_len {B : Bh} {x w y : Nat} : ∀ (m : Nat) (row : Nat → Nat) (h : Nat) (L : List Nat), cR B x w y m row h = some L → L.length = m := by
  intro m
  induction m with
  | zero =>
    intro row h L hL
    unfold cR at hL
    split at hL
    · cases hL; rfl
    · cases hL
  | succ m ih =>
    intro row h L hL
    rw [cR_s] at hL
    have key : ∀ (c e : Nat), fsC (fun e => (stC B x w row h e).bind (fun r => cR B x w y m r (h + 1))) c e = some L → L.length = m + 1 := by
      intro c
      induction c with
      | zero => intro e z; cases z
      | succ c ihc =>
        intro e z
        cases hs : stC B x w row h e with
        | none =>
          rw [fsC_f (by rw [hs]; rfl)] at z
          exact ihc _ z
        | some r =>
          cases hc : cR B x w y m r (h + 1) with
          | none =>
            rw [fsC_f (by rw [hs]; exact hc)] at z
            exact ihc _ z
          | some L2 =>
            rw [fsC_t (l := L2) (by rw [hs]; exact hc)] at z
            cases z
            show L2.length + 1 = _
            rw [ih r (h + 1) L2 hc]
    exact key _ _ hL
/-- the last hour, when he does not know it ahead of it -/
theorem cR_1 {B : Bh} {x w y : Nat} {row : Nat → Nat} {h : Nat} (h0 : row y = 0) (hy : y < ni B) : cR B x w y 1 row h = bif rdM B row x w h (tdM B h) y then some [y + 1] else none := by
  have oth : ∀ e, e ≠ y + 1 → (stC B x w row h e).bind (fun r => cR B x w y 0 r (h + 1)) = none := by
    intro e he
    have z : ∀ o, (∀ i, o = some i → i ≠ y) → cR B x w y 0 (hrB B row x w h (tdM B h) o) (h + 1) = none := by
      intro o ho
      show (if 0 < hrB B row x w h (tdM B h) o y then some [] else none) = none
      rw [hrB_0 h0 ho, if_neg (Nat.lt_irrefl 0)]
    cases e with
    | zero => exact z none (fun i q => by cases q)
    | succ i =>
      show (bif rdM B row x w h (tdM B h) i then some (hrB B row x w h (tdM B h) (some i)) else none).bind _ = none
      cases rdM B row x w h (tdM B h) i with
      | false => rfl
      | true => exact z (some i) (fun j q => by cases q; omega)
  rw [cR_s]
  cases hr : rdM B row x w h (tdM B h) y with
  | false =>
    refine fsC_no _ _ (fun j _ _ => ?_)
    by_cases hj : j = y + 1
    · subst hj
      show (bif rdM B row x w h (tdM B h) y then some (hrB B row x w h (tdM B h) (some y)) else none).bind _ = none
      rw [hr]; rfl
    · exact oth j hj
  | true =>
    refine fsC_at (l := []) ?_ _ _ (Nat.zero_le _) (by omega) (fun j _ q => oth j (by omega))
    show (bif rdM B row x w h (tdM B h) y then some (hrB B row x w h (tdM B h) (some y)) else none).bind _ = some []
    rw [hr]
    show (if 0 < hrB B row x w h (tdM B h) (some y) y then some [] else none) = some []
    have hk := (kpM_le B row x w h (tdM B h) y).1
    have e : hrB B row x w h (tdM B h) (some y) y = kpM B row x w h (tdM B h) y := by
      rw [hrB_s, hr]
      show fadR B (updN row y (kpM B row x w h (tdM B h) y)) x w h (nI y) y = _
      unfold fadR
      rw [if_pos (Or.inr rfl)]
      exact if_pos rfl
    rw [e, if_pos (by omega)]
/-- no shorter one from a choice on, where there is none from here on -/
theorem cR_no {B : Bh} {x w y m e : Nat} {row r : Nat → Nat} {h : Nat} (hn : cR B x w y (m + 1) row h = none) (he : e ≤ ni B) (hs : stC B x w row h e = some r) : cR B x w y m r (h + 1) = none := by
  rw [cR_s] at hn
  have := fsC_none _ _ hn e (Nat.zero_le _) (by omega)
  rw [hs] at this
  exact this
/-- how the class writes a choice -/
def dgV (e : Nat) : Int32 := nI e - 1
theorem dgV_0 : dgV 0 = -1 := rfl
theorem dgV_s (i : Nat) : dgV (i + 1) = nI i := nI_pred i
theorem dgV_1 (e : Nat) : dgV e + 1 = dgV (e + 1) := by unfold dgV; rw [← nI_1, Int32.sub_add_cancel, Int32.add_sub_cancel]
theorem kset_bit {f : Nat → Nat} : ∀ (n j : Nat), j < n → kset n f / 2 ^ j % 2 = if 0 < f j then 1 else 0 := by
  intro n
  induction n with
  | zero => intro j h; omega
  | succ n ih =>
    intro j h
    have hlt := kset_lt n f
    by_cases hj : j = n
    · subst hj
      show (kset j f + (if 0 < f j then 2 ^ j else 0)) / 2 ^ j % 2 = _
      have hp : 0 < 2 ^ j := Nat.two_pow_pos j
      by_cases hf : 0 < f j
      · rw [if_pos hf, if_pos hf, Nat.add_div_right _ hp, Nat.div_eq_of_lt hlt]
      · rw [if_neg hf, if_neg hf, Nat.add_zero, Nat.div_eq_of_lt hlt]
    · show (kset n f + (if 0 < f n then 2 ^ n else 0)) / 2 ^ j % 2 = _
      by_cases hf : 0 < f n
      · rw [if_pos hf, show 2 ^ n = 2 ^ j * (2 * 2 ^ (n - j - 1)) by
          rw [← Nat.mul_assoc, ← Nat.pow_succ, ← Nat.pow_add]
          congr 1
          omega, Nat.add_mul_div_left _ _ (Nat.two_pow_pos j), Nat.add_mul_mod_self_left]
        exact ih j (by omega)
      · rw [if_neg hf, Nat.add_zero]
        exact ih j (by omega)
theorem rset_bit {B : Bh} {row : Nat → Nat} {b w h tide i : Nat} (hi : i < ni B) : rset B row b w h tide / 2 ^ i % 2 = bif rdM B row b w h tide i then 1 else 0 := by
  unfold rset
  rw [kset_bit _ _ hi]
  cases rdM B row b w h tide i <;> rfl
theorem rset_256 {B : Bh} {row : Nat → Nat} {b w h tide : Nat} (hW : WfN B) : rset B row b w h tide < 256 := by
  unfold rset
  exact Nat.lt_of_lt_of_le (kset_lt _ _) (Nat.pow_le_pow_right (by decide) hW.1 : 2 ^ ni B ≤ 2 ^ 8)
theorem rf280 {ρ : Rf} (hρ : RF ρ) {s : Nat} (hs : s < 5) : ρ 280 s = some (281 + s) := by
  rcases (by omega : s = 0 ∨ s = 1 ∨ s = 2 ∨ s = 3 ∨ s = 4) with rfl | rfl | rfl | rfl | rfl <;> exact hρ _ _ _ rfl
theorem rowS {s : Nat} (hs : s < 5) : RowO (281 + s) := by
  rcases (by omega : s = 0 ∨ s = 1 ∨ s = 2 ∨ s = 3 ∨ s = 4) with rfl | rfl | rfl | rfl | rfl <;> exact ⟨rfl, rfl, by decide, by decide, by decide, by decide⟩
/-- from a stage on: the stages up to it and the path ahead of it are kept -/
def CKs (s : Nat) (σ σ' : St) : Prop := CF cX σ σ' ∧ (∀ j, j ≤ s → σ'.1 (281 + j) = σ.1 (281 + j)) ∧ ∀ j, j < s → σ'.1 286 j = σ.1 286 j
theorem CKs.rf (s : Nat) (σ : St) : CKs s σ σ := ⟨CF.rf _ _, fun _ _ => rfl, fun _ _ => rfl⟩
theorem CKs.tr {s : Nat} {σ σ' σ'' : St} (h : CKs s σ σ') (h2 : CKs s σ' σ'') : CKs s σ σ'' := ⟨h.1.tr h2.1, fun j hj => (h2.2.1 j hj).trans (h.2.1 j hj), fun j hj => (h2.2.2 j hj).trans (h.2.2 j hj)⟩
theorem CKs.dn {s : Nat} {σ σ' : St} (h : CKs (s + 1) σ σ') : CKs s σ σ' := ⟨h.1, fun j hj => h.2.1 j (by omega), fun j hj => h.2.2 j (by omega)⟩
theorem CKs.cl {s : Nat} {σ σ' : St} (h : CF cL σ σ') (hs : s < 5) : CKs s σ σ' := ⟨cL_Xs h, fun j hj => funext fun x => h.1 _ x (cL_f (by omega)), fun j _ => h.1 286 j (cL_f (by decide))⟩
section S88d
variable {l : Launch} {X : Cx} {ρ : Rf} {B : Bh} {q : Nat}
def fCh2 (B : Bh) (x y k : Nat) (row : Nat → Nat) (h e : Nat) : Option (List Nat) := (stC B x (wit B x) row h e).bind (fun r => cR B x (wit B x) y k r (h + 1))
def FsQ (B : Bh) (x y k s h : Nat) (row : Nat → Nat) (c e : Nat) (ρ : Rf) (σ : St) : Po := fun v ρ' σ' => v = some (.int (bI (fsC (fCh2 B x y k row (h + s)) c e).isSome)) ∧ ρ' = ρ ∧ CKs s σ σ' ∧ ∀ L, fsC (fCh2 B x y k row (h + s)) c e = some L → ∀ j, j < k + 1 → σ'.1 286 (s + j) = dgV (L.getD j 0)
def RcQ (B : Bh) (x y k s h : Nat) (row : Nat → Nat) (ρ : Rf) (σ : St) : Po := fun v ρ' σ' => v = some (.int (bI (cR B x (wit B x) y k row (h + s)).isSome)) ∧ ρ' = ρ ∧ CKs s σ σ' ∧ ∀ L, cR B x (wit B x) y k row (h + s) = some L → ∀ j, j < k → σ'.1 286 (s + j) = dgV (L.getD j 0)
/-- what is known of the stage behind -/
def RcT (l : Launch) (X : Cx) (ρ : Rf) (B : Bh) (q x y h N k s : Nat) (σ0 : St) : Prop := ∀ (d : Nat) (σ : St) (row : Nat → Nat), s + k = N → CF cX σ0 σ → CRd ρ σ q B → RowR σ (281 + s) row → Rw8 B row → (∀ m, k = m + 1 → cR B x (wit B x) y m row (h + s) = none) → T l X (d + k + 5) 17 [.ref 267, .int (nI x), .int (nI y), .int (nI s), .int (nI N)] 402 402 ρ σ (RcQ B x y k s h row ρ σ)
theorem rc_go {x y h N k s d c e : Nat} {σ0 σ σ1 : St} {row r1 : Nat → Nat} {pl : Option Nat} (hρ : RF ρ) (hW : WfN B) (hWt : WfT B) (hWf : WfF B) (hh : h ≤ 999) (hN : N ≤ 4) (hx : x < nb B) (hy : y < ni B) (ih : RcT l X ρ B q x y h N k (s + 1) σ0) (hs : s + (k + 1) = N) (hc : CF cX σ0 σ) (hR : CRd ρ σ q B) (hrow : RowR σ (281 + s) row) (hw8 : Rw8 B row) (hno : cR B x (wit B x) y k row (h + s) = none)
    (hec : e + c = ni B) (hdg : dgV e = plV pl) (hpl : ∀ i, pl = some i → i < ni B) (hst : stC B x (wit B x) row (h + s) e = some r1) (hr1 : r1 = hrB B row x (wit B x) (h + s) (tdM B (h + s)) pl) (hk1 : CKs s σ σ1) (hk0 : 0 < k)
    (hnext : ∀ σ2, CKs s σ σ2 → Ev l X (d + (k + 1) + 5) 17 116 [.ref 267, .int (nI x), .int (nI y), .int (nI s), .int (nI N), .ref 265, .int (nI (h + s)), .int (nI (wit B x)), .int (nI (tdM B (h + s))), .int (nI (rset B row x (wit B x) (h + s) (tdM B (h + s)))), .int (dgV (e + 1))] [] 402 402 402 ρ σ2 (FsQ B x y k s h row c (e + 1) ρ σ)) :
    Ev l X (d + (k + 1) + 5) 17 148 [.ref 267, .int (nI x), .int (nI y), .int (nI s), .int (nI N), .ref 265, .int (nI (h + s)), .int (nI (wit B x)), .int (nI (tdM B (h + s))), .int (nI (rset B row x (wit B x) (h + s) (tdM B (h + s)))), .int (dgV e)] [] 402 402 402 ρ σ1 (FsQ B x y k s h row (c + 1) e ρ σ) := by
  have n8 := hW.1
  have n6 := hW.2.1
  have hw9 := (hWt.2.1 x hx).2
  have hs4 : s < 4 := by omega
  rw [hdg]
  have row1 : RowR σ1 (281 + s) row := fun i hi => by rw [hk1.2.1 s (Nat.le_refl _)]; exact hrow i hi
  refine Ev_aload rfl rfl rfl ?_
  refine Ev_getR rfl (by first | rfl | assumption) (hρ _ _ _ rfl) ?_
  refine Ev_iload rfl rfl ?_
  refine Ev_iload rfl rfl ?_
  refine Ev_iast rfl (by first | rfl | assumption) (vp_in_nI (n := s) (show s < 4 by omega) (by decide)) ?_
  rw [nI_clamp (show s < 2 ^ 31 by omega)]
  refine Ev_aload rfl rfl rfl ?_
  refine Ev_getR rfl (by first | rfl | assumption) (hρ _ _ _ rfl) ?_
  refine Ev_iload rfl rfl ?_
  refine Ev_aald (t := 4) rfl (Or.inl rfl) (by first | rfl | assumption) (vp_in_nI (n := s) (show s < 5 by omega) (by decide)) (by rw [nI_clamp (by omega)]; exact rf280 hρ (by omega) : _ = some (281 + s)) ?_
  refine Ev_aload rfl rfl rfl ?_
  refine Ev_getR rfl (by first | rfl | assumption) (hρ _ _ _ rfl) ?_
  refine Ev_iload rfl rfl ?_
  refine Ev_const rfl ?_
  refine Ev_iadd rfl ?_
  refine Ev_norm (nI_1 s) ?_
  refine Ev_aald (t := 4) rfl (Or.inl rfl) (by first | rfl | assumption) (vp_in_nI (n := s + 1) (show s + 1 < 5 by omega) (by decide)) (by rw [nI_clamp (by omega)]; exact rf280 hρ (by omega) : _ = some (281 + (s + 1))) ?_
  refine Ev_callS rfl rfl rfl rfl (same_n 402) (t_copyRow _ (rowS (show s < 5 by omega)).1 (rowS (show s + 1 < 5 by omega)).1 (rowS (show s < 5 by omega)).2.1 (rowS (show s + 1 < 5 by omega)).2.1 (by decide)) ?_
  rintro v170 ρ170 σ170 ⟨rfl, e170, f, hf, f1, f2⟩
  obtain rfl := e170.symm
  subst hf
  have k2 : CKs s σ1 (sI σ1 286 (upd (σ1.1 286) s (plV pl))) := ⟨CF.put _ _ (cX_t (by decide) (by decide)), fun j hj => sR_1 _ _ (by omega), fun j hj => by rw [sR_0, pk_un (by omega)]⟩
  have k3 : CKs s (sI σ1 286 (upd (σ1.1 286) s (plV pl))) (sI (sI σ1 286 (upd (σ1.1 286) s (plV pl))) (281 + (s + 1)) f) := ⟨CF.cell _ f (fun j => cX_t (by omega) (by omega)), fun j hj => sR_1 _ _ (by omega), fun j hj => by rw [sR_1 _ _ (by omega)]⟩
  have k4 := hk1.tr (k2.tr k3)
  have r4 : RowR (sI (sI σ1 286 (upd (σ1.1 286) s (plV pl))) (281 + (s + 1)) f) (281 + (s + 1)) row := fun i hi => by rw [sR_0, f1 i hi, sR_1 _ _ (by omega)]; exact row1 i hi
  refine Ev_aload rfl rfl rfl ?_
  refine Ev_aload rfl rfl rfl ?_
  refine Ev_getR rfl (by first | rfl | assumption) (hρ _ _ _ rfl) ?_
  refine Ev_iload rfl rfl ?_
  refine Ev_const rfl ?_
  refine Ev_iadd rfl ?_
  refine Ev_norm (nI_1 s) ?_
  refine Ev_aald (t := 4) rfl (Or.inl rfl) (by first | rfl | assumption) (vp_in_nI (n := s + 1) (show s + 1 < 5 by omega) (by decide)) (by rw [nI_clamp (by omega)]; exact rf280 hρ (by omega) : _ = some (281 + (s + 1))) ?_
  refine Ev_iload rfl rfl ?_
  refine Ev_iload rfl rfl ?_
  refine Ev_iload rfl rfl ?_
  refine Ev_iload rfl rfl ?_
  refine Ev_iload rfl rfl ?_
  refine Ev_callV rfl rfl rfl rfl rfl (same_n 402) (t_pass _ (hR.cx k4.1) hW hWt hWf (rowS (show s + 1 < 5 by omega)) r4 hw8 hw9 (by omega) (tdM_le B (h + s)) hx hpl) ?_
  rintro v192 ρ192 σ192 ⟨rfl, e192, s192, r192⟩
  obtain rfl := e192.symm
  have k5 : CKs s (sI (sI σ1 286 (upd (σ1.1 286) s (plV pl))) (281 + (s + 1)) f) σ192 := ⟨s192.wk (fun k j hk => by
    unfold cLr
    rw [cL_X hk]
    exact nbeq (fun z => by rw [z, cX_t (by omega) (by omega)] at hk; cases hk)), fun j hj => funext fun z => s192.1 _ z (cLr_f (by omega) (by omega)), fun j hj => s192.1 286 j (cLr_f (by omega) (by omega))⟩
  have k6 := k4.tr k5
  have p6 : σ192.1 286 s = dgV e := by
    rw [s192.1 286 s (cLr_f (by omega) (by omega)), sR_1 _ _ (by omega), sR_0, pk_us, hdg]
  rw [← hr1] at r192
  have w8 : Rw8 B r1 := by
    rw [hr1]
    exact ⟨fun j => hrB_le hw8.1 j, fun i hi => hrB_0 (hw8.2 i hi) (fun j hj => by have := hpl j hj; omega)⟩
  refine Ev_pop rfl (fun _ q => nomatch q) ?_
  refine Ev_aload rfl rfl rfl ?_
  refine Ev_iload rfl rfl ?_
  refine Ev_iload rfl rfl ?_
  refine Ev_iload rfl rfl ?_
  refine Ev_const rfl ?_
  refine Ev_iadd rfl ?_
  refine Ev_norm (nI_1 s) ?_
  refine Ev_iload rfl rfl ?_
  refine Ev_callS rfl rfl rfl rfl (same_n 402) (ih (d + 0) σ192 r1 (by omega) (hc.tr k6.1) (hR.cx k6.1) r192 w8 (fun m hm => by
  subst hm
  have := cR_no hno (show e ≤ ni B by omega) hst
  rw [show h + (s + 1) = h + s + 1 by omega]
  exact this)) ?_
  rintro v204 ρ204 σ204 ⟨rfl, e204, k204, p204⟩
  obtain rfl := e204.symm
  rw [show h + (s + 1) = h + s + 1 by omega] at p204 ⊢
  refine Ev_if_eq rfl (fun h207 => ?_) (fun h207 => ?_)
  · refine Ev_iincE rfl rfl (show plV pl + 1 = dgV (e + 1) by rw [← hdg]; exact dgV_1 e) ?_
    refine Ev_goto rfl ?_
    have hz : fCh2 B x y k row (h + s) e = none := by
      unfold fCh2; rw [hst]
      show cR B x (wit B x) y k r1 (h + s + 1) = none
      cases hq : cR B x (wit B x) y k r1 (h + s + 1) with
      | none => rfl
      | some L => rw [hq] at h207; exact absurd h207 (show ¬ bI true = 0 by decide)
    unfold FsQ
    rw [fsC_f hz]
    exact hnext _ (k6.tr k204.dn)
  · refine Ev_const rfl ?_
    exact Ev_ireturn rfl rfl rfl rfl (by
    cases hq : cR B x (wit B x) y k r1 (h + s + 1) with
    | none => rw [hq] at h207; exact absurd rfl h207
    | some L1 =>
      have hz : fCh2 B x y k row (h + s) e = some L1 := by unfold fCh2; rw [hst]; exact hq
      unfold FsQ
      rw [fsC_t hz]
      refine ⟨rfl, rfl, k6.tr k204.dn, fun L hL j hj => ?_⟩
      cases hL
      cases j with
      | zero => rw [Nat.add_zero, k204.2.2 s (Nat.lt_succ_self s)]; exact p6
      | succ j =>
        have := p204 L1 hq j (by omega)
        rw [show s + (j + 1) = s + 1 + j by omega]
        exact this)
theorem rc_loop {x y h N k s d : Nat} {σ0 σ : St} {row : Nat → Nat} (hρ : RF ρ) (hW : WfN B) (hWt : WfT B) (hWf : WfF B) (hh : h ≤ 999) (hN : N ≤ 4) (hx : x < nb B) (hy : y < ni B) (ih : RcT l X ρ B q x y h N k (s + 1) σ0) (hs : s + (k + 1) = N) (hc : CF cX σ0 σ) (hR : CRd ρ σ q B) (hrow : RowR σ (281 + s) row) (hw8 : Rw8 B row) (hno : cR B x (wit B x) y k row (h + s) = none) (hk0 : 0 < k) :
    ∀ (c e : Nat) (σ1 : St), e + c = ni B + 1 → CKs s σ σ1 →
    Ev l X (d + (k + 1) + 5) 17 116 [.ref 267, .int (nI x), .int (nI y), .int (nI s), .int (nI N), .ref 265, .int (nI (h + s)), .int (nI (wit B x)), .int (nI (tdM B (h + s))), .int (nI (rset B row x (wit B x) (h + s) (tdM B (h + s)))), .int (dgV e)] [] 402 402 402 ρ σ1 (FsQ B x y k s h row c e ρ σ) := by
  have n8 := hW.1
  have n6 := hW.2.1
  have hrd8 := rset_256 (B := B) (row := row) (b := x) (w := wit B x) (h := h + s) (tide := tdM B (h + s)) hW
  intro c
  induction c with
  | zero =>
    intro e σ1 hec hk1
    have he : e = ni B + 1 := by omega
    subst he
    have hR1 := hR.cx hk1.1
    rw [dgV_s]
    refine Ev_iload rfl rfl ?_
    refine Ev_aload rfl rfl rfl ?_
    refine Ev_getR rfl (by first | rfl | assumption) hR1.2.2.1 ?_
    refine Ev_getI rfl (by rcases hR1.2.1 with rfl | rfl <;> rfl) ?_
    refine Ev_norm hR1.2.2.2.1.1 ?_
    refine Ev_icmp_ge rfl (fun h126 => ?_) (fun h126 => absurd (nI_le (Nat.le_refl _) (by omega)) h126)
    refine Ev_const rfl ?_
    exact Ev_ireturn rfl rfl rfl rfl ⟨rfl, rfl, hk1, fun L hL => by cases hL⟩
  | succ c ihc =>
    intro e σ1 hec hk1
    have hR1 := hR.cx hk1.1
    cases e with
    | zero =>
      rw [dgV_0]
      refine Ev_iload rfl rfl ?_
      refine Ev_aload rfl rfl rfl ?_
      refine Ev_getR rfl (by first | rfl | assumption) hR1.2.2.1 ?_
      refine Ev_getI rfl (by rcases hR1.2.1 with rfl | rfl <;> rfl) ?_
      refine Ev_norm hR1.2.2.2.1.1 ?_
      refine Ev_icmp_ge rfl (fun h126 => absurd h126 (fun z => by
      rw [Int32.le_iff_toInt_le, nI_toInt (by omega)] at z
      have e : (-1 : Int32).toInt = -1 := rfl
      omega)) (fun h126 => ?_)
      refine Ev_iload rfl rfl ?_
      refine Ev_const rfl ?_
      refine Ev_icmp_eq rfl (fun h132 => ?_) (fun h132 => absurd rfl h132)
      exact rc_go (pl := none) (e := 0) hρ hW hWt hWf hh hN hx hy ih hs hc hR hrow hw8 hno (by omega) rfl (fun i q => by cases q) rfl rfl hk1 hk0 (fun σ2 k2 => ihc 1 σ2 (by omega) k2)
    | succ i =>
      rw [dgV_s]
      have hi : i < ni B := by omega
      refine Ev_iload rfl rfl ?_
      refine Ev_aload rfl rfl rfl ?_
      refine Ev_getR rfl (by first | rfl | assumption) hR1.2.2.1 ?_
      refine Ev_getI rfl (by rcases hR1.2.1 with rfl | rfl <;> rfl) ?_
      refine Ev_norm hR1.2.2.2.1.1 ?_
      refine Ev_icmp_ge rfl (fun h126 => absurd h126 (nI_ge (by omega) (by omega))) (fun h126 => ?_)
      refine Ev_iload rfl rfl ?_
      refine Ev_const rfl ?_
      refine Ev_icmp_eq rfl (fun h132 => absurd h132 (nI_m1 (by omega))) (fun h132 => ?_)
      refine Ev_iload rfl rfl ?_
      refine Ev_iload rfl rfl ?_
      refine Ev_ishr rfl ?_
      refine Ev_const rfl ?_
      refine Ev_iand rfl ?_
      refine Ev_norm (sh_8 hrd8 (show i < 8 by omega)) ?_
      refine Ev_if_ne rfl (fun h142 => ?_) (fun h142 => ?_)
      · have hrd : rdM B row x (wit B x) (h + s) (tdM B (h + s)) i = true := by
          rw [rset_bit hi] at h142
          cases hq : rdM B row x (wit B x) (h + s) (tdM B (h + s)) i with
          | true => rfl
          | false => rw [hq] at h142; exact absurd rfl h142
        have := rc_go (pl := some i) (e := i + 1) hρ hW hWt hWf hh hN hx hy ih hs hc hR hrow hw8 hno (by omega) (dgV_s i) (fun j q => by cases q; exact hi) (by show (bif _ then _ else _) = _; rw [hrd]; rfl) rfl hk1 hk0 (fun σ2 k2 => ihc (i + 1 + 1) σ2 (by omega) k2)
        rw [dgV_s] at this
        exact this
      · refine Ev_goto rfl ?_
        refine Ev_iincE rfl rfl (show nI i + 1 = dgV (i + 1 + 1) by rw [dgV_s]; exact nI_1 i) ?_
        refine Ev_goto rfl ?_
        have hrd : rdM B row x (wit B x) (h + s) (tdM B (h + s)) i = false := by
          rw [rset_bit hi] at h142
          cases hq : rdM B row x (wit B x) (h + s) (tdM B (h + s)) i with
          | false => rfl
          | true => rw [hq] at h142; exact absurd (by decide) h142
        have hz : fCh2 B x y k row (h + s) (i + 1) = none := by
          show (bif rdM B row x (wit B x) (h + s) (tdM B (h + s)) i then _ else none).bind _ = none
          rw [hrd]; rfl
        unfold FsQ
        rw [fsC_f hz]
        exact ihc (i + 1 + 1) σ1 (by omega) hk1
theorem rc_tail {x y h N k s d : Nat} {σ0 σ σ81 : St} {row : Nat → Nat} (hρ : RF ρ) (hW : WfN B) (hWt : WfT B) (hWf : WfF B) (hh : h ≤ 999) (hN : N ≤ 4) (hx : x < nb B) (hy : y < ni B) (ih : RcT l X ρ B q x y h N k (s + 1) σ0) (hs : s + (k + 1) = N) (hc : CF cX σ0 σ) (hR : CRd ρ σ q B) (hrow : RowR σ (281 + s) row) (hw8 : Rw8 B row) (hno : cR B x (wit B x) y k row (h + s) = none)
    (k81 : CKs s σ σ81) (st81 : Stl σ81 B row x (wit B x) (h + s) (tdM B (h + s))) :
    Ev l X (d + (k + 1) + 5) 17 84 [.ref 267, .int (nI x), .int (nI y), .int (nI s), .int (nI N), .ref 265, .int (nI (h + s)), .int (nI (wit B x)), .int (nI (tdM B (h + s))), .float 0, .float 0] [] 402 402 402 ρ σ81 (RcQ B x y (k + 1) s h row ρ σ) := by
  have n8 := hW.1
  have n6 := hW.2.1
  have hw9 := (hWt.2.1 x hx).2
  have hs4 : s < 4 := by omega
  refine Ev_iload rfl rfl ?_
  refine Ev_iload rfl rfl ?_
  refine Ev_const rfl ?_
  refine Ev_isub rfl ?_
  refine Ev_norm (show _ = nI (N - 1) from pk_sub (a := N) (b := 1) (by omega)) ?_
  refine Ev_icmp_ne rfl (fun h89 => ?_) (fun h89 => ?_)
  · have hk0 : 0 < k := Nat.pos_of_ne_zero (fun z => h89 (by rw [show N - 1 = s by omega]))
    refine Ev_aload rfl rfl rfl ?_
    refine Ev_callV rfl rfl rfl rfl rfl (same_n 402) (t_readyBits _ (hR.cx k81.1) hW hWt hWf st81 hw9 (by omega) (tdM_le B (h + s)) hx) ?_
    rintro v108 ρ108 σ108 ⟨rfl, e108, s108⟩
    obtain rfl := e108.symm
    refine Ev_istore rfl ?_
    refine Ev_const rfl ?_
    refine Ev_istore rfl ?_
    exact rc_loop hρ hW hWt hWf hh hN hx hy ih hs hc hR hrow hw8 hno hk0 (ni B + 1) 0 σ108 (by omega) (k81.tr ⟨cA0_X s108, fun j hj => funext fun z => s108.1 _ z (cA0_f (by omega)), fun j hj => s108.1 286 j (cA0_f (by decide))⟩)
  · refine Ev_aload rfl rfl rfl ?_
    refine Ev_getR rfl (by first | rfl | assumption) (hρ _ _ _ rfl) ?_
    refine Ev_iload rfl rfl ?_
    refine Ev_iload rfl rfl ?_
    refine Ev_iast rfl (by first | rfl | assumption) (vp_in_nI (n := s) (show s < 4 by omega) (by decide)) ?_
    rw [nI_clamp (show s < 2 ^ 31 by omega)]
    have k98 : CKs s σ81 (sI σ81 286 (upd (σ81.1 286) s (nI y))) := ⟨CF.put _ _ (cX_t (by decide) (by decide)), fun j hj => sR_1 _ _ (by omega), fun j hj => by rw [sR_0, pk_un (by omega)]⟩
    refine Ev_aload rfl rfl rfl ?_
    refine Ev_iload rfl rfl ?_
    refine Ev_callV rfl rfl rfl rfl rfl (same_n 402) (t_isReady _ ((hR.cx k81.1).cx k98.1) hW hWt hWf (st81.put _ (by decide)) hw9 (by omega) (tdM_le B (h + s)) hx hy) ?_
    rintro v102 ρ102 σ102 ⟨rfl, e102, s102⟩
    obtain rfl := e102.symm
    exact Ev_ireturn rfl rfl (narZ _) rfl (by
    have hk0 : k = 0 := by
      have := (nI_eq (by omega) (by omega)).mp (Decidable.not_not.mp h89)
      omega
    subst hk0
    have hy0 : row y = 0 := by
      unfold cR at hno
      split at hno
      · cases hno
      · omega
    have k102 : CKs s σ σ102 := (k81.tr k98).tr ⟨cA0_X s102, fun j hj => funext fun z => s102.1 _ z (cA0_f (by omega)), fun j hj => s102.1 286 j (cA0_f (by decide))⟩
    unfold RcQ
    rw [cR_1 hy0 hy]
    cases hrd : rdM B row x (wit B x) (h + s) (tdM B (h + s)) y with
    | false => exact ⟨rfl, rfl, k102, fun L hL => by cases hL⟩
    | true =>
      refine ⟨rfl, rfl, k102, fun L hL j hj => ?_⟩
      cases hL
      have hj : j = 0 := by omega
      subst hj
      rw [Nat.add_zero, s102.1 286 s (cA0_f (by decide)), sR_0, pk_us]
      exact (dgV_s y).symm)
theorem t_isReached {x y h N : Nat} {σ0 : St} (hρ : RF ρ) (hW : WfN B) (hWt : WfT B) (hWf : WfF B) (hhr : σ0.1 32 0 = nI h) (hh : h ≤ 999) (hN : N ≤ 4) (hx : x < nb B) (hy : y < ni B) : ∀ (k s : Nat), RcT l X ρ B q x y h N k s σ0 := by
  have n8 := hW.1
  have n6 := hW.2.1
  have hw9 := (hWt.2.1 x hx).2
  intro k
  induction k with
  | zero =>
    intro s d σ row hs hc hR hrow hw8 hno
    have hs : s = N := by omega
    subst hs
    have h99 := hw8.1 y
    refine T_of rfl ?_
    refine Ev_iload rfl rfl ?_
    refine Ev_iload rfl rfl ?_
    refine Ev_icmp_ge rfl (fun h3 => ?_) (fun h3 => absurd (nI_le (Nat.le_refl _) (by omega)) h3)
    refine Ev_aload rfl rfl rfl ?_
    refine Ev_getR rfl (by first | rfl | assumption) (hρ _ _ _ rfl) ?_
    refine Ev_iload rfl rfl ?_
    refine Ev_aald (t := 4) rfl (Or.inl rfl) (by first | rfl | assumption) (vp_in_nI (n := s) (show s < 5 by omega) (by decide)) (by rw [nI_clamp (by omega)]; exact rf280 hρ (by omega) : _ = some (281 + s)) ?_
    refine Ev_iload rfl rfl ?_
    refine Ev_iald rfl ((rowS (show s < 5 by omega)).1) (by rw [(rowS (show s < 5 by omega)).2.1]; exact vp_in_nI (n := y) (show y < 8 by omega) (by decide)) ?_
    refine Ev_norm (by rw [nI_clamp (by omega)]; exact hrow y (by omega) : _ = nI (row y)) ?_
    refine Ev_if_le rfl (fun h19 => ?_) (fun h19 => ?_)
    · refine Ev_const rfl ?_
      exact Ev_ireturn rfl rfl rfl rfl ⟨by
      have hz : ¬ 0 < row y := fun z => absurd h19 (nI_nle z (by omega))
      unfold cR; rw [if_neg hz]; rfl, rfl, CKs.rf _ _, fun L hL j hj => absurd hj (Nat.not_lt_zero j)⟩
    · refine Ev_const rfl ?_
      refine Ev_goto rfl ?_
      exact Ev_ireturn rfl rfl rfl rfl ⟨by
      have hz : 0 < row y := Nat.pos_of_ne_zero (fun z => h19 (by rw [z]; decide))
      unfold cR; rw [if_pos hz]; rfl, rfl, CKs.rf _ _, fun L hL j hj => absurd hj (Nat.not_lt_zero j)⟩
  | succ k ih =>
    intro s d σ row hs hc hR hrow hw8 hno
    have hno := hno k rfl
    have hs4 : s < 4 := by omega
    have hhr1 : σ.1 32 0 = nI h := by rw [hc.1 32 _ (cX_p (by decide))]; exact hhr
    refine T_of rfl ?_
    refine Ev_iload rfl rfl ?_
    refine Ev_iload rfl rfl ?_
    refine Ev_icmp_ge rfl (fun h3 => absurd h3 (nI_ge (by omega) (by omega))) (fun h3 => ?_)
    refine Ev_iload rfl rfl ?_
    refine Ev_const rfl ?_
    refine Ev_icmp_lt rfl (fun h8 => ?_) (fun h8 => absurd (nI_lt (b := 4) hs4 (by decide)) h8)
    refine Ev_aload rfl rfl rfl ?_
    refine Ev_getR rfl (by first | rfl | assumption) (hρ _ _ _ rfl) ?_
    refine Ev_astore rfl rfl ?_
    refine Ev_aload rfl rfl rfl ?_
    refine Ev_getR rfl (by first | rfl | assumption) (hρ _ _ _ rfl) ?_
    refine Ev_getI rfl (by first | rfl | assumption) ?_
    refine Ev_norm hhr1 ?_
    refine Ev_iload rfl rfl ?_
    refine Ev_iadd rfl ?_
    refine Ev_norm (nI_add h s) ?_
    refine Ev_istore rfl ?_
    refine Ev_aload rfl rfl rfl ?_
    refine Ev_getR rfl (by first | rfl | assumption) hR.2.2.1 ?_
    refine Ev_getR rfl (by rcases hR.2.1 with rfl | rfl <;> rfl) (by rcases hR.2.1 with rfl | rfl <;> exact hρ _ _ _ rfl : _ = some (q + 7)) ?_
    refine Ev_iload rfl rfl ?_
    refine Ev_iald rfl (by rcases hR.2.1 with rfl | rfl <;> rfl) (by rcases hR.2.1 with rfl | rfl <;> exact vp_in_nI (n := x) (show x < 6 by omega) (by decide)) ?_
    refine Ev_norm (by rw [nI_clamp (by omega)]; exact ev_wit hR hx : _ = nI (wit B x)) ?_
    refine Ev_istore rfl ?_
    refine Ev_aload rfl rfl rfl ?_
    refine Ev_iload rfl rfl ?_
    refine Ev_callV rfl rfl rfl rfl rfl (same_n 402) (t_tideAt _ hR hWf (show h + s ≤ 2000 by omega)) ?_
    rintro v61 ρ61 σ61 ⟨rfl, e61, s61, -, -⟩
    obtain rfl := e61.symm
    refine Ev_istore rfl ?_
    refine Ev_aload rfl rfl rfl ?_
    refine Ev_aload rfl rfl rfl ?_
    refine Ev_getR rfl (by first | rfl | assumption) (hρ _ _ _ rfl) ?_
    refine Ev_iload rfl rfl ?_
    refine Ev_aald (t := 4) rfl (Or.inl rfl) (by first | rfl | assumption) (vp_in_nI (n := s) (show s < 5 by omega) (by decide)) (by rw [nI_clamp (by omega)]; exact rf280 hρ (by omega) : _ = some (281 + s)) ?_
    refine Ev_iload rfl rfl ?_
    refine Ev_iload rfl rfl ?_
    refine Ev_iload rfl rfl ?_
    refine Ev_iload rfl rfl ?_
    refine Ev_callV rfl rfl rfl rfl rfl (same_n 402) (t_settle _ (hR.cl s61) hW hx (rowS (show s < 5 by omega)) (fun i hi => by rw [s61.1 _ _ (cL_f (by omega))]; exact hrow i hi) hw8) ?_
    rintro v81 ρ81 σ81 ⟨rfl, e81, s81, st81⟩
    obtain rfl := e81.symm
    have k81 : CKs s σ σ81 := (CKs.cl s61 (by omega)).tr (CKs.cl s81 (by omega))
    exact rc_tail hρ hW hWt hWf hh hN hx hy (ih (s + 1)) hs hc hR hrow hw8 hno k81 st81
/-- the first number of hours that does -/
def crN (B : Bh) (x w y : Nat) (row : Nat → Nat) (h : Nat) : Nat → Nat → Option (Nat × List Nat)
  | 0, _ => none
  | m + 1, n => match cR B x w y n row h with
    | some L => some (n, L)
    | none => crN B x w y row h m (n + 1)
def cNh : Option (Nat × List Nat) → Int32
  | none => -1
  | some p => nI p.1
theorem fc_loop {d x y h M : Nat} {σ0 : St} {row : Nat → Nat} {R : Option (Nat × List Nat)} (hρ : RF ρ) (hW : WfN B) (hWt : WfT B) (hWf : WfF B) (hhr : σ0.1 32 0 = nI h) (hh : h ≤ 999) (hM : M ≤ 4) (hx : x < nb B) (hy : y < ni B) (h8 : Rw8 B row) :
    ∀ (m n : Nat) (σ : St), n + m = M + 1 → CF cX σ0 σ → CRd ρ σ q B → RowR σ 281 row → (∀ n', n = n' + 1 → cR B x (wit B x) y n' row h = none) → crN B x (wit B x) y row h m n = R →
    Ev l X (d + 10) 16 27 [.ref 267, .int (nI x), .int (nI y), .int (nI M), .int (nI n)] [] 402 402 402 ρ σ (fun v ρ' σ' => v = some (.int (cNh R)) ∧ ρ' = ρ ∧ CF cX σ0 σ' ∧ ∀ n L, R = some (n, L) → n ≤ 4 ∧ ∀ j, j < n → σ'.1 286 j = dgV (L.getD j 0)) := by
  intro m
  induction m with
  | zero =>
    intro n σ hn hc hR hrow hno he
    have hn : n = M + 1 := by omega
    subst hn
    have he : none = R := he
    subst he
    refine Ev_iload rfl rfl ?_
    refine Ev_iload rfl rfl ?_
    refine Ev_icmp_gt rfl (fun h30 => ?_) (fun h30 => absurd (nI_lt (Nat.lt_succ_self M) (by omega)) h30)
    refine Ev_const rfl ?_
    exact Ev_ireturn rfl rfl rfl rfl ⟨rfl, rfl, hc, fun n L z => by cases z⟩
  | succ m ih =>
    intro n σ hn hc hR hrow hno he
    have hT := t_isReached (l := l) (X := X) (q := q) (N := n) hρ hW hWt hWf hhr hh (by omega) hx hy n 0 (d + (4 - n)) σ row (by omega) hc hR hrow h8 (fun m hm => hno m hm)
    unfold RcQ at hT
    rw [show d + (4 - n) + n + 5 = d + 9 by omega, show h + 0 = h from rfl] at hT
    refine Ev_iload rfl rfl ?_
    refine Ev_iload rfl rfl ?_
    refine Ev_icmp_gt rfl (fun h30 => absurd h30 (nI_nlt (by omega) (by omega))) (fun h30 => ?_)
    refine Ev_aload rfl rfl rfl ?_
    refine Ev_iload rfl rfl ?_
    refine Ev_iload rfl rfl ?_
    refine Ev_const rfl ?_
    refine Ev_iload rfl rfl ?_
    refine Ev_callS rfl rfl rfl rfl (same_n 402) hT ?_
    rintro v39 ρ39 σ39 ⟨rfl, e39, k39, p39⟩
    obtain rfl := e39.symm
    refine Ev_if_eq rfl (fun h42 => ?_) (fun h42 => ?_)
    · refine Ev_iincE rfl rfl (nI_1 n) ?_
      refine Ev_goto rfl ?_
      have hz : cR B x (wit B x) y n row h = none := by
        cases hq : cR B x (wit B x) y n row h with
        | none => rfl
        | some L => rw [hq] at h42; exact absurd h42 (show ¬ bI true = 0 by decide)
      have he : (match cR B x (wit B x) y n row h with | some L => some (n, L) | none => crN B x (wit B x) y row h m (n + 1)) = R := he
      rw [hz] at he
      exact ih (n + 1) σ39 (by omega) (hc.tr k39.1) (hR.cx k39.1) (fun i hi => by rw [show (281 : Nat) = 281 + 0 from rfl, k39.2.1 0 (Nat.le_refl _)]; exact hrow i hi) (fun n' hn' => by rw [show n' = n by omega]; exact hz) he
    · refine Ev_iload rfl rfl ?_
      exact Ev_ireturn rfl rfl rfl rfl (by
      cases hq : cR B x (wit B x) y n row h with
      | none => rw [hq] at h42; exact absurd rfl h42
      | some L =>
        have he : (match cR B x (wit B x) y n row h with | some L => some (n, L) | none => crN B x (wit B x) y row h m (n + 1)) = R := he
        rw [hq] at he
        have he : some (n, L) = R := he
        subst he
        refine ⟨rfl, rfl, hc.tr k39.1, fun n' L' z => ?_⟩
        cases z
        refine ⟨by omega, fun j hj => ?_⟩
        have := p39 L hq j hj
        rwa [Nat.zero_add] at this)
theorem t_findCourse (d : Nat) {σ : St} {x y h : Nat} {S : Str} (hR : CRd ρ σ q B) (hW : WfN B) (hWt : WfT B) (hWf : WfF B) (hS : CStr σ S) (hSw : WfS B S) (hhr : σ.1 32 0 = nI h) (hh : h ≤ 999) (hx : x < nb B) (hy : y < ni B) :
    T l X (d + 10) 16 [.ref 267, .int (nI x), .int (nI y)] 402 402 ρ σ (fun v ρ' σ' => v = some (.int (cNh (crN B x (wit B x) y (S x) h (most60 h 4 + 1) 0))) ∧ ρ' = ρ ∧ CF cX σ σ' ∧ ∀ n L, crN B x (wit B x) y (S x) h (most60 h 4 + 1) 0 = some (n, L) → n ≤ 4 ∧ ∀ j, j < n → σ'.1 286 j = dgV (L.getD j 0)) := by
  have hρ := hR.1
  have n6 := hW.2.1
  have hm : most60 h 4 ≤ 4 := by unfold most60; split <;> omega
  refine T_of rfl ?_
  refine Ev_aload rfl rfl rfl ?_
  refine Ev_getR rfl (by first | rfl | assumption) (hρ _ _ _ rfl) ?_
  refine Ev_getR rfl (by first | rfl | assumption) (hρ _ _ _ rfl) ?_
  refine Ev_iload rfl rfl ?_
  refine Ev_aald (t := 4) rfl (Or.inl rfl) (by first | rfl | assumption) (vp_in_nI (n := x) (show x < 6 by omega) (by decide)) (by rw [nI_clamp (by omega)]; exact rf33 hρ (by omega) : _ = some (34 + x)) ?_
  refine Ev_aload rfl rfl rfl ?_
  refine Ev_getR rfl (by first | rfl | assumption) (hρ _ _ _ rfl) ?_
  refine Ev_const rfl ?_
  refine Ev_aald (t := 4) rfl (Or.inl rfl) (by first | rfl | assumption) (vp_in_nI (n := 0) (by decide) (by decide)) (hρ _ _ _ rfl : _ = some 281) ?_
  refine Ev_callS rfl rfl rfl rfl (same_n 402) (t_copyRow _ (rowN (show x < 6 by omega)).1 rfl (rowN (show x < 6 by omega)).2.1 rfl (by decide)) ?_
  rintro v15 ρ15 σ15 ⟨rfl, e15, f, hf, f1, f2⟩
  obtain rfl := e15.symm
  subst hf
  have s1 : CF cX σ (sI σ 281 f) := CF.cell σ f (fun j => cX_t (by decide) (by decide))
  refine Ev_aload rfl rfl rfl ?_
  refine Ev_const rfl ?_
  refine Ev_callV rfl rfl rfl rfl rfl (same_n 402) (t_hoursToCome _ (m := 4) hρ (by rw [s1.1 32 _ (cX_p (by decide))]; exact hhr) hh (by decide)) ?_
  rintro v20 ρ20 σ20 ⟨rfl, e20, g20⟩
  obtain rfl := e20.symm
  obtain rfl := g20.symm
  refine Ev_istore rfl ?_
  refine Ev_const rfl ?_
  refine Ev_istore rfl ?_
  exact fc_loop (d := d) hρ hW hWt hWf hhr hh hm hx hy (hSw.row x) (most60 h 4 + 1) 0 _ (by omega) s1 (hR.cx s1) (fun i hi => by rw [sR_0, f1 i hi]; exact hS x (by omega) i hi) (fun n' z => by cases z) rfl
end S88d
