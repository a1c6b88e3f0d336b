/-! A beach read by the reference: ideas, needs, bathers, the plan. -/
/-- cells and fields that a statement touches -/
def cRe (q : Nat) : Bool := Nat.beq q 356 || Nat.beq q 358 || Nat.beq q 359 || Nat.beq q 360 || Nat.beq q 361 || Nat.beq q 362 || Nat.beq q 363 || Nat.beq q 364 || cQ q
def fRe (j : Nat) : Bool := fTx j || Nat.beq j 48 || Nat.beq j 50 || fQ j
def MRe (σ σ' : St) : Prop := (∀ q, q ≠ 326 → cRe q = false → σ'.1 q = σ.1 q) ∧ (∀ q, q ≠ 357 → q ≠ 400 → σ'.2 q = σ.2 q) ∧ ∀ j, fRe j = false → σ'.1 326 j = σ.1 326 j
theorem MRe.rf (σ : St) : MRe σ σ := ⟨fun _ _ _ => rfl, fun _ _ _ => rfl, fun _ _ => rfl⟩
theorem MRe.tr {σ σ' σ'' : St} (h : MRe σ σ') (h2 : MRe σ' σ'') : MRe σ σ'' := ⟨fun q hq hc => (h2.1 q hq hc).trans (h.1 q hq hc), fun q hq hq2 => (h2.2.1 q hq hq2).trans (h.2.1 q hq hq2), fun j hj => (h2.2.2 j hj).trans (h.2.2 j hj)⟩
theorem MF.k {C Fd : Nat → Bool} {σ σ' : St} (h : MF C Fd σ σ') (hC : ∀ q, cRe q = false → C q = false) (hF : ∀ j, fRe j = false → Fd j = false) : MRe σ σ' := ⟨fun q hq hc => h.1 q hq (hC q hc), fun q _ hq2 => h.2.1 q hq2, fun j hj => h.2.2 j (hF j hj)⟩
theorem fRe_f {j : Nat} (h : fRe j = false) : fTx j = false ∧ Nat.beq j 48 = false ∧ Nat.beq j 50 = false ∧ fQ j = false := by
  unfold fRe at h
  simp only [Bool.or_eq_false_iff] at h
  exact ⟨h.1.1.1, h.1.1.2, h.1.2, h.2⟩
theorem cRe_q {q : Nat} (h : cRe q = false) : cQ q = false := by
  unfold cRe at h
  rw [Bool.or_eq_false_iff] at h
  exact h.2
theorem MX.k {σ σ' : St} (h : MX σ σ') : MRe σ σ' := MF.k h (fun _ _ => rfl) (fun j hj => (fRe_f hj).1)
theorem MB.k {σ σ' : St} (h : MB σ σ') : MRe σ σ' := MF.k h (fun q hq => cRe_q hq) (fun j hj => by
  obtain ⟨h1, -, -, h4⟩ := fRe_f hj
  unfold fQ at h4
  simp only [Bool.or_eq_false_iff] at h4
  unfold fNB fCW
  rw [h1, h4.1.1.1, h4.1.1.2, h4.1.2]
  rfl)
theorem MRe.cell {σ : St} {k : Nat} (f : Nat → Int32) (hk : k ≠ 326) (hC : cRe k = true) : MRe σ (sI σ k f) := MF.k (MF.cell (C := fun q => Nat.beq q k) (Fd := fun _ => false) f hk (Nat.beq_refl k)) (fun q hq => nbeq (fun z => by rw [z, hC] at hq; cases hq)) (fun _ _ => rfl)
theorem MRe.put {σ : St} {f : Nat} (x : Int32) (hF : fRe f = true) : MRe σ (sI σ 326 (upd (σ.1 326) f x)) := MF.k (MF.put (C := fun _ => false) (Fd := fun j => Nat.beq j f) x (Nat.beq_refl f)) (fun _ _ => rfl) (fun j hj => nbeq (fun z => by rw [z, hF] at hj; cases hj))
theorem MRe.name {σ : St} (g : Nat → Int64) : MRe σ (sL σ 357 g) := ⟨fun _ _ _ => rfl, fun q hq _ => if_neg hq, fun _ _ => rfl⟩
theorem Wds.k {σ σ' : St} (H : Wds σ) (hs : MRe σ σ') : Wds σ' := H.eq (fun p hp => hs.1 p.1 (by have := (wdS_ok p hp).1; omega) ((show ∀ p, p ∈ wdS → cRe p.1 = false by decide) p hp))
theorem MTt.k {σ σ' : St} {U : Tx} {s : Rdg} (H : MTt σ U s) (hs : MF (fun q => cRe q && !(cQ q)) (fun j => Nat.beq j 48 || Nat.beq j 50) σ σ') : MTt σ' U s := by
  obtain ⟨h1, h2, h3⟩ := H
  refine ⟨by rw [hs.2.2 _ rfl]; exact h1, fun j hj => by rw [hs.1 327 (by decide) rfl]; exact h2 j hj, ?_⟩
  cases s with
  | inl e => unfold MRs at h3 ⊢; rw [hs.2.2 5 rfl, hs.2.2 6 rfl, hs.2.2 2 rfl]; exact h3
  | inr p => unfold MRs at h3 ⊢; rw [hs.2.2 5 rfl, hs.2.2 6 rfl, hs.2.2 2 rfl, hs.2.2 4 rfl]; exact h3
/-- the same but for cells of what is told -/
theorem MTt.kc {σ σ' : St} {U : Tx} {s : Rdg} (H : MTt σ U s) (h1 : σ'.1 327 = σ.1 327) (h2 : ∀ j, j ∈ [3, 5, 6, 2, 4] → σ'.1 326 j = σ.1 326 j) : MTt σ' U s := by
  obtain ⟨g1, g2, g3⟩ := H
  refine ⟨by rw [h2 3 (by decide)]; exact g1, fun j hj => by rw [h1]; exact g2 j hj, ?_⟩
  cases s with
  | inl e => unfold MRs at g3 ⊢; rw [h2 5 (by decide), h2 6 (by decide), h2 2 (by decide)]; exact g3
  | inr p => unfold MRs at g3 ⊢; rw [h2 5 (by decide), h2 6 (by decide), h2 2 (by decide), h2 4 (by decide)]; exact g3
theorem updL_s (f : Nat → Int64) (k : Nat) (x : Int64) : vp_updL f k x k = x := if_pos rfl
theorem updL_n {f : Nat → Int64} {k j : Nat} {x : Int64} (h : j ≠ k) : vp_updL f k x j = f j := if_neg h
theorem sL_0 (σ : St) (k : Nat) (f : Nat → Int64) : (sL σ k f).2 k = f := if_pos rfl
/-! with a fault all that is asked for leaves it -/
theorem aNm_l (U : Tx) (e : Nat × Nat) : aNm U (.inl e) = .inl e := rfl
theorem aWd_l (U : Tx) {w : List Nat} (e : Nat × Nat) : aWd U w (.inl e) = .inl e := by unfold aWd; split <;> rfl
theorem aNu_l (U : Tx) (m : Nat) (e : Nat × Nat) : aNu U m (.inl e) = .inl e := rfl
theorem nwN_l (U : Tx) (B : Bh) (e : Nat × Nat) : nwN U B (.inl e) = .inl e := by unfold nwN; split <;> rfl
theorem tdN_l (U : Tx) (n : Nat) (f : Nat → List Nat) (e : Nat × Nat) : tdN U n f (.inl e) = .inl e := by unfold tdN; split <;> rfl
theorem not_inl {s : Rdg} (h : isOk s = false) : ∃ e, s = .inl e := by
  cases s with
  | inl e => exact ⟨e, rfl⟩
  | inr p => cases h
theorem idR_l {U : Tx} {a : Nat} {x : Rdg × Bh} {e : Nat × Nat} (h : idS a x = .inl e) : (idR U a x).1 = .inl e := by
  show aNu U 9 (aWd U (kw 2) (nwN U x.2 (idS a x))) = _
  rw [h, nwN_l, aWd_l, aNu_l]
theorem ndR_l {U : Tx} {a : Nat} {x : Rdg × Bh} {e : Nat × Nat} (h : ndS a x = .inl e) : (ndR U a x).1 = .inl e := by
  have e1 : ndC U a x = .inl e := by
    show tdN U _ _ (aWd U (kw 4) (tdN U _ _ (ndS a x))) = _
    rw [h, tdN_l, aWd_l, tdN_l]
  unfold ndR
  rw [if_neg (fun z => by rw [e1] at z; cases z.1)]
  exact e1
theorem btR_l {U : Tx} {a : Nat} {x : Rdg × Bh} {e : Nat × Nat} (h : btS a x = .inl e) : (btR U a x).1 = .inl e := by
  show aNu U 9 (aWd U (kw 7) (aNu U 9 (aWd U (kw 6) (nwN U x.2 (btS a x))))) = _
  rw [h, nwN_l, aWd_l, aNu_l, aWd_l, aNu_l]
theorem plR_l {U : Tx} {a : Nat} {x : Rdg × Bh} {e : Nat × Nat} (h : plS a x = .inl e) : (plR U a x).1 = .inl e := by
  show tdN U _ _ (aWd U (kw 9) (tdN U _ _ (plS a x))) = _
  rw [h, tdN_l, aWd_l, tdN_l]
/-! what is told anew stands in the cells -/
theorem MNew.adI {σ σ' : St} {B : Bh} {nm : List Nat} {dp : Nat} (H : MNew σ B) (h1 : σ'.2 357 = vp_updL (σ.2 357) (ni B) (lI ((n27 0 nm : Nat) : Int))) (h2 : σ'.1 358 = upd (σ.1 358) (ni B) (nI dp)) (h3 : σ'.1 359 = upd (σ.1 359) (ni B) (nI 0)) (h4 : σ'.1 356 = upd (σ.1 356) 0 (nI (ni B + 1)))
    (h5 : ∀ q, q ∈ [360, 361, 362, 363, 364] → σ'.1 q = σ.1 q) (h6 : σ'.1 326 48 = σ.1 326 48) (hn : ni B < 8) : MNew σ' (adI B nm dp) := by
  obtain ⟨g1, ⟨g2, g3⟩, ⟨g4, g5, g6⟩, g7, g8⟩ := H
  refine ⟨fun q hq => ?_, ⟨fun i hi => ?_, fun b hb => ?_⟩, ⟨fun i hi => ?_, fun b hb => ?_, fun k hk => ?_⟩, ?_, ?_⟩
  · rw [h4]
    show upd (σ.1 356) 0 (nI (ni B + 1)) q = nI (upF B.1 0 (ni B + 1) q)
    by_cases hz : q = 0
    · subst hz; rw [pk_us, upF_s]
    · rw [pk_un hz, upF_n hz]; exact g1 q hq
  · have hi : i < ni B + 1 := hi
    rw [h1]
    show vp_updL (σ.2 357) (ni B) _ i = lI ((n27 0 (upF B.2.2.1 (ni B) nm i) : Nat) : Int)
    by_cases hz : i = ni B
    · rw [hz, updL_s, upF_s]
    · rw [updL_n hz, upF_n hz]; exact g2 i (by omega)
  · have hb : b < nb B := hb
    rw [h1, updL_n (by omega)]
    exact g3 b hb
  · have hi : i < ni B + 1 := hi
    rw [h2, h3]
    show upd (σ.1 358) (ni B) (nI dp) i = nI (upF (B.2.1 0) (ni B) dp i) ∧ upd (σ.1 359) (ni B) (nI 0) i = nI (upF (B.2.1 1) (ni B) 0 i)
    by_cases hz : i = ni B
    · rw [hz, pk_us, upF_s, pk_us, upF_s]; exact ⟨rfl, rfl⟩
    · rw [pk_un hz, upF_n hz, pk_un hz, upF_n hz]; exact g4 i (by omega)
  · rw [h5 360 (by decide)]; exact g5 b hb
  · rw [h5 361 (by decide)]; exact g6 k hk
  · unfold MNf; rw [h5 362 (by decide), h5 363 (by decide), h5 364 (by decide)]; exact g7
  · rw [h6]; exact g8
theorem MNew.adN {σ σ' : St} {B : Bh} {a b : Nat} (H : MNew σ B) (h3 : σ'.1 359 = upd (σ.1 359) b (nI (nee B b ||| 2 ^ a))) (h4 : σ'.1 356 = upd (σ.1 356) 2 (nI (nn B + 1)))
    (h5 : ∀ q, q ∈ [358, 360, 361, 362, 363, 364] → σ'.1 q = σ.1 q) (h1 : σ'.2 357 = σ.2 357) (h6 : σ'.1 326 48 = σ.1 326 48) : MNew σ' (adN B a b) := by
  obtain ⟨g1, g2, ⟨g4, g5, g6⟩, g7, g8⟩ := H
  refine ⟨fun q hq => ?_, by unfold MNm; rw [h1]; exact g2, ⟨fun i hi => ?_, fun b hb => ?_, fun k hk => ?_⟩, ?_, ?_⟩
  · rw [h4]
    show upd (σ.1 356) 2 (nI (nn B + 1)) q = nI (upF B.1 2 (nn B + 1) q)
    by_cases hz : q = 2
    · subst hz; rw [pk_us, upF_s]
    · rw [pk_un hz, upF_n hz]; exact g1 q hq
  · rw [h3, h5 358 (by decide)]
    refine ⟨(g4 i hi).1, ?_⟩
    show upd (σ.1 359) b (nI (nee B b ||| 2 ^ a)) i = nI (upF (B.2.1 1) b (nee B b ||| 2 ^ a) i)
    by_cases hz : i = b
    · rw [hz, pk_us, upF_s]
    · rw [pk_un hz, upF_n hz]; exact (g4 i hi).2
  · rw [h5 360 (by decide)]; exact g5 b hb
  · rw [h5 361 (by decide)]; exact g6 k hk
  · unfold MNf; rw [h5 362 (by decide), h5 363 (by decide), h5 364 (by decide)]; exact g7
  · rw [h6]; exact g8
theorem MNew.adB {σ σ' : St} {B : Bh} {nm : List Nat} {lu wi : Nat} (H : MNew σ B) (h1 : σ'.2 357 = vp_updL (σ.2 357) (8 + nb B) (lI ((n27 0 nm : Nat) : Int))) (h2 : σ'.1 360 = upd (upd (σ.1 360) (2 * nb B) (nI lu)) (2 * nb B + 1) (nI wi)) (h4 : σ'.1 356 = upd (σ.1 356) 1 (nI (nb B + 1)))
    (h5 : ∀ q, q ∈ [358, 359, 361, 362, 363, 364] → σ'.1 q = σ.1 q) (h6 : σ'.1 326 48 = σ.1 326 48) (hn : ni B ≤ 8) : MNew σ' (adB B nm lu wi) := by
  obtain ⟨g1, ⟨g2, g3⟩, ⟨g4, g5, g6⟩, g7, g8⟩ := H
  refine ⟨fun q hq => ?_, ⟨fun i hi => ?_, fun b hb => ?_⟩, ⟨fun i hi => ?_, fun b hb => ?_, fun k hk => ?_⟩, ?_, ?_⟩
  · rw [h4]
    show upd (σ.1 356) 1 (nI (nb B + 1)) q = nI (upF B.1 1 (nb B + 1) q)
    by_cases hz : q = 1
    · subst hz; rw [pk_us, upF_s]
    · rw [pk_un hz, upF_n hz]; exact g1 q hq
  · have hi : i < ni B := hi
    rw [h1, updL_n (by omega)]
    exact g2 i hi
  · have hb : b < nb B + 1 := hb
    rw [h1]
    show vp_updL (σ.2 357) (8 + nb B) _ (8 + b) = lI ((n27 0 (upF B.2.2.2.1 (nb B) nm b) : Nat) : Int)
    by_cases hz : b = nb B
    · rw [hz, updL_s, upF_s]
    · rw [updL_n (by omega), upF_n hz]; exact g3 b (by omega)
  · rw [h5 358 (by decide), h5 359 (by decide)]; exact g4 i hi
  · have hb : b < nb B + 1 := hb
    rw [h2]
    show upd (upd (σ.1 360) (2 * nb B) (nI lu)) (2 * nb B + 1) (nI wi) (2 * b) = nI (upF (B.2.1 2) (nb B) lu b) ∧ upd (upd (σ.1 360) (2 * nb B) (nI lu)) (2 * nb B + 1) (nI wi) (2 * b + 1) = nI (upF (B.2.1 3) (nb B) wi b)
    by_cases hz : b = nb B
    · rw [hz, pk_un (by omega), pk_us, upF_s, pk_us, upF_s]; exact ⟨rfl, rfl⟩
    · rw [pk_un (by omega), pk_un (by omega), upF_n hz, pk_un (by omega), pk_un (by omega), upF_n hz]; exact g5 b (by omega)
  · rw [h5 361 (by decide)]; exact g6 k hk
  · unfold MNf; rw [h5 362 (by decide), h5 363 (by decide), h5 364 (by decide)]; exact g7
  · rw [h6]; exact g8
theorem MNew.adP {σ σ' : St} {B : Bh} {b0 i0 : Nat} (H : MNew σ B) (h2 : σ'.1 361 = upd (upd (σ.1 361) (2 * np B) (nI b0)) (2 * np B + 1) (nI i0)) (h4 : σ'.1 356 = upd (σ.1 356) 3 (nI (np B + 1)))
    (h5 : ∀ q, q ∈ [358, 359, 360, 362, 363, 364] → σ'.1 q = σ.1 q) (h1 : σ'.2 357 = σ.2 357) (h6 : σ'.1 326 48 = σ.1 326 48) : MNew σ' (adP B b0 i0) := by
  obtain ⟨g1, g2, ⟨g4, g5, g6⟩, g7, g8⟩ := H
  refine ⟨fun q hq => ?_, by unfold MNm; rw [h1]; exact g2, ⟨fun i hi => ?_, fun b hb => ?_, fun k hk => ?_⟩, ?_, ?_⟩
  · rw [h4]
    show upd (σ.1 356) 3 (nI (np B + 1)) q = nI (upF B.1 3 (np B + 1) q)
    by_cases hz : q = 3
    · subst hz; rw [pk_us, upF_s]
    · rw [pk_un hz, upF_n hz]; exact g1 q hq
  · rw [h5 358 (by decide), h5 359 (by decide)]; exact g4 i hi
  · rw [h5 360 (by decide)]; exact g5 b hb
  · have hk : k < np B + 1 := hk
    rw [h2]
    show upd (upd (σ.1 361) (2 * np B) (nI b0)) (2 * np B + 1) (nI i0) (2 * k) = nI (upF (B.2.1 4) (np B) b0 k) ∧ upd (upd (σ.1 361) (2 * np B) (nI b0)) (2 * np B + 1) (nI i0) (2 * k + 1) = nI (upF (B.2.1 5) (np B) i0 k)
    by_cases hz : k = np B
    · rw [hz, pk_un (by omega), pk_us, upF_s, pk_us, upF_s]; exact ⟨rfl, rfl⟩
    · rw [pk_un (by omega), pk_un (by omega), upF_n hz, pk_un (by omega), pk_un (by omega), upF_n hz]; exact g6 k (by omega)
  · unfold MNf; rw [h5 362 (by decide), h5 363 (by decide), h5 364 (by decide)]; exact g7
  · rw [h6]; exact g8
/-- cells of the new beach change, those of the old one don't -/
theorem MOld.up {σ σ' : St} {B : Bh} (H : MOld σ B) (h1 : ∀ j, 5 ≤ j → σ'.1 356 j = σ.1 356 j) (h2 : ∀ j, 8 ≤ j → σ'.1 358 j = σ.1 358 j ∧ σ'.1 359 j = σ.1 359 j) (h3 : ∀ j, 12 ≤ j → σ'.1 360 j = σ.1 360 j) (h4 : ∀ j, 4 ≤ j → σ'.1 362 j = σ.1 362 j ∧ σ'.1 363 j = σ.1 363 j) (h5 : ∀ j, 1600 ≤ j → σ'.1 364 j = σ.1 364 j) (h6 : ∀ j, 16 ≤ j → σ'.2 357 j = σ.2 357 j) : MOld σ' B := by
  obtain ⟨g1, g2, g3, g4, g5⟩ := H
  refine ⟨fun q hq => by rw [h1 _ (by omega)]; exact g1 q hq, ⟨fun i hi => by rw [(h2 _ (by omega)).1, (h2 _ (by omega)).2]; exact g2.1 i hi, fun b hb => by rw [h3 _ (by omega), h3 _ (by omega)]; exact g2.2 b hb⟩, fun k hk => ?_, fun i hi => by rw [h6 _ (by omega)]; exact g4 i hi, fun b hb => by rw [h6 _ (by omega)]; exact g5 b hb⟩
  have g := g3 k hk
  cases hf : frm B k with
  | none => rw [hf] at g; simp only at g ⊢; rw [(h4 _ (by omega)).1]; exact g
  | some cs =>
    rw [hf] at g
    obtain ⟨a, b, k1, k2, k3, k4, k5⟩ := g
    exact ⟨a, b, by rw [(h4 _ (by omega)).1]; exact k1, by rw [(h4 _ (by omega)).2]; exact k2, k3, k4, fun q hq => by rw [h5 _ (by omega)]; exact k5 q hq⟩
section S88zv
variable {l : Launch} {X : Cx} {ρ : Rf} {U : Tx} {Bo B : Bh}
/-- what a statement leaves -/
def StQ (U : Tx) (Bo : Bh) (ρ : Rf) (σ : St) (y : Rdg × Bh) : Po := fun v ρ' σ' => v = none ∧ ρ' = ρ ∧ MTt σ' U y.1 ∧ Wds σ' ∧ MOld σ' Bo ∧ (isOk y.1 = true → MNew σ' y.2) ∧ MRe σ σ'
theorem m_ideaTold (d : Nat) {σ : St} {s : Rdg} {a : Nat} (hρ : RF ρ) (hT : TxW U) (hB : WfB B) (hI : Ivr U s) (H : MSt σ U Bo B s) :
    T l X (d + 5) 183 [.ref 326, .int (nI a)] 402 402 ρ σ (StQ U Bo ρ σ (idR U a (s, B))) := by
  have hn8 := hB.1.1
  cases ho : isOk (idS a (s, B)) with
  | false =>
    obtain ⟨e, he⟩ := not_inl ho
    have eR := idR_l (U := U) he
    refine T_of rfl ?_
    refine Ev_aload rfl rfl rfl ?_
    refine Ev_const rfl ?_
    refine Ev_const rfl ?_
    refine Ev_iload rfl rfl ?_
    refine Ev_callV rfl rfl rfl rfl rfl (same_n 402) (m_isFull _ (kind := 0) (room := 8) (a := a) (s := s) hρ hB (by decide) (by decide) hn8 H) ?_
    rintro v5 ρ5 σ5 ⟨rfl, e5, s5, c5⟩
    refine Ev_norm (congrArg (fun b => bI (!b)) ho : _ = bI true) ?_
    obtain rfl := e5.symm
    refine Ev_if_eq rfl (fun h8 => absurd h8 (show ¬ bI true = 0 by decide)) (fun h8 => ?_)
    exact Ev_return rfl rfl rfl (by
    have s5 : MTt σ5 U (idS a (s, B)) := s5
    rw [he] at s5
    exact ⟨rfl, rfl, by rw [eR]; exact s5, H.2.1.mx c5, (H.mx s5 c5).2.2.1, (fun z => by rw [eR] at z; cases z), c5.k⟩)
  | true =>
    obtain ⟨r1, r2⟩ := room_ok ho
    have r1 : idS a (s, B) = s := r1
    have r2 : ni B < 8 := r2
    have eI : idS a (s, B) = s := r1
    have hI3 : Ivr U (aWd U (kw 2) (nwN U B s)) := Ivr_aW (Ivr_nw hI) (by decide)
    have eR : idR U a (s, B) = (aNu U 9 (aWd U (kw 2) (nwN U B s)), adI B (vNm U s) (vNu U 9 (aWd U (kw 2) (nwN U B s)))) := by
      unfold idR idB idA
      rw [eI]
    rw [eR]
    refine T_of rfl ?_
    refine Ev_aload rfl rfl rfl ?_
    refine Ev_const rfl ?_
    refine Ev_const rfl ?_
    refine Ev_iload rfl rfl ?_
    refine Ev_callV rfl rfl rfl rfl rfl (same_n 402) (m_isFull _ (kind := 0) (room := 8) (a := a) (s := s) hρ hB (by decide) (by decide) hn8 H) ?_
    rintro v5 ρ5 σ5 ⟨rfl, e5, s5, c5⟩
    refine Ev_norm (congrArg (fun b => bI (!b)) ho : _ = bI false) ?_
    obtain rfl := e5.symm
    have s5 : MTt σ5 U (idS a (s, B)) := s5
    rw [r1] at s5
    refine Ev_if_eq rfl (fun h8 => ?_) (fun h8 => absurd rfl h8)
    refine Ev_aload rfl rfl rfl ?_
    refine Ev_callV rfl rfl rfl rfl rfl (same_n 402) (m_newName _ hρ hT hB hI (H.mx s5 c5)) ?_
    rintro v13 ρ13 σ13 ⟨⟨x, rfl, hx⟩, e13, s13, n13, c13⟩
    obtain rfl := e13.symm
    refine Ev_lstore rfl ?_
    refine Ev_aload rfl rfl rfl ?_
    refine Ev_aload rfl rfl rfl ?_
    refine Ev_getR rfl (by first | rfl | assumption) (hρ _ _ _ rfl) ?_
    refine Ev_callV rfl rfl rfl rfl rfl (same_n 402) (m_asks _ hρ hT ((H.2.1.mx c5).mx c13) (k := 330) (w := kw 2) (by decide) s13) ?_
    rintro v22 ρ22 σ22 ⟨rfl, e22, s22, c22⟩
    obtain rfl := e22.symm
    rw [mAk_a (Ivr_nw hI) (by decide)] at s22
    refine Ev_aload rfl rfl rfl ?_
    refine Ev_const rfl ?_
    refine Ev_const rfl ?_
    refine Ev_callV rfl rfl rfl rfl rfl (same_n 402) (m_number _ (most := 9) hρ hT (by decide) s22) ?_
    rintro v29 ρ29 σ29 ⟨⟨y, rfl, hy⟩, e29, s29, c29⟩
    obtain rfl := e29.symm
    rw [mNu_a hI3] at s29 hy
    refine Ev_istore rfl ?_
    have cc : MX σ σ29 := ((c5.tr c13).tr c22).tr c29
    have H29 := H.mx s29 cc
    cases hf : isOk (aNu U 9 (aWd U (kw 2) (nwN U B s))) with
    | false =>
      obtain ⟨e, he⟩ := not_inl hf
      obtain ⟨z, hz, hz0⟩ := MTt.badE (e := e) (by rw [← he]; exact s29)
      refine Ev_aload rfl rfl rfl ?_
      refine Ev_getI rfl (by first | rfl | assumption) ?_
      refine Ev_norm hz ?_
      refine Ev_if_eq rfl (fun h38 => absurd h38 hz0) (fun h38 => ?_)
      exact Ev_return rfl rfl rfl ⟨rfl, rfl, s29, H29.2.1, H29.2.2.1, (fun z => by have z : isOk (aNu U 9 (aWd U (kw 2) (nwN U B s))) = true := z; rw [hf] at z; cases z), cc.k⟩
    | true =>
      have hy := hy hf
      rw [vU_m hI3 hf] at hy
      have hx := hx (aW_ok (aN_ok hf).1).1
      subst hx hy
      have hz : σ29.1 326 5 = 0 := by
        cases hs : aNu U 9 (aWd U (kw 2) (nwN U B s)) with
        | inl e => rw [hs] at hf; cases hf
        | inr p => rw [hs] at s29; exact s29.bad0
      refine Ev_aload rfl rfl rfl ?_
      refine Ev_getI rfl (by first | rfl | assumption) ?_
      refine Ev_norm hz ?_
      refine Ev_if_eq rfl (fun h38 => ?_) (fun h38 => absurd rfl h38)
      refine Ev_aload rfl rfl rfl ?_
      refine Ev_getR rfl (by first | rfl | assumption) (hρ _ _ _ rfl) ?_
      refine Ev_const rfl ?_
      refine Ev_iald rfl (by first | rfl | assumption) (vp_in_nI (n := 0) (by decide) (by decide)) ?_
      refine Ev_norm (show _ = nI (ni B) from H29.2.2.2.1 0 (by decide)) ?_
      refine Ev_istore rfl ?_
      refine Ev_aload rfl rfl rfl ?_
      refine Ev_getR rfl (by first | rfl | assumption) (hρ _ _ _ rfl) ?_
      refine Ev_iload rfl rfl ?_
      refine Ev_lload rfl rfl ?_
      refine Ev_last rfl (by first | rfl | assumption) (vp_in_nI (n := ni B) (show ni B < 32 by omega) (by decide)) ?_
      refine Ev_aload rfl rfl rfl ?_
      refine Ev_getR rfl (by first | rfl | assumption) (hρ _ _ _ rfl) ?_
      refine Ev_iload rfl rfl ?_
      refine Ev_iload rfl rfl ?_
      refine Ev_iast rfl (by first | rfl | assumption) (vp_in_nI (n := ni B) (show ni B < 16 by omega) (by decide)) ?_
      refine Ev_aload rfl rfl rfl ?_
      refine Ev_getR rfl (by first | rfl | assumption) (hρ _ _ _ rfl) ?_
      refine Ev_iload rfl rfl ?_
      refine Ev_const rfl ?_
      refine Ev_iast rfl (by first | rfl | assumption) (vp_in_nI (n := ni B) (show ni B < 16 by omega) (by decide)) ?_
      refine Ev_aload rfl rfl rfl ?_
      refine Ev_getR rfl (by first | rfl | assumption) (hρ _ _ _ rfl) ?_
      refine Ev_const rfl ?_
      refine Ev_dup2 rfl (fun _ q => nomatch q) (fun _ q => nomatch q) ?_
      refine Ev_iald rfl (by first | rfl | assumption) (vp_in_nI (n := 0) (by decide) (by decide)) ?_
      refine Ev_norm (show _ = nI (ni B) by rw [sR_1 _ _ (by decide), sR_1 _ _ (by decide)]; exact H29.2.2.2.1 0 (by decide)) ?_
      refine Ev_const rfl ?_
      refine Ev_iadd rfl ?_
      refine Ev_norm (nI_1 (ni B)) ?_
      refine Ev_iast rfl (by first | rfl | assumption) (vp_in_nI (n := 0) (by decide) (by decide)) ?_
      exact Ev_return rfl rfl rfl (by
      rw [nI_clamp (show ni B < 2 ^ 31 by omega)]
      refine ⟨rfl, rfl, s29.kc ?_ ?_, ?_, ?_, fun _ => H29.2.2.2.adI (nm := vNm U s) ?_ ?_ ?_ ?_ ?_ ?_ r2, (((cc.k.tr (MRe.name _)).tr (MRe.cell _ (by decide) rfl)).tr (MRe.cell _ (by decide) rfl)).tr (MRe.cell _ (by decide) rfl)⟩
      · rw [sR_1 _ _ (by decide), sR_1 _ _ (by decide), sR_1 _ _ (by decide)]; rfl
      · intro j hj; rw [sR_1 _ _ (by decide), sR_1 _ _ (by decide), sR_1 _ _ (by decide)]; rfl
      · exact H29.2.1.k ((((MRe.name _)).tr (MRe.cell _ (by decide) rfl)).tr (MRe.cell _ (by decide) rfl) |>.tr (MRe.cell _ (by decide) rfl))
      · refine H29.2.2.1.up (fun j hj => ?_) (fun j hj => ⟨?_, ?_⟩) (fun j hj => ?_) (fun j hj => ⟨?_, ?_⟩) (fun j hj => ?_) (fun j hj => ?_)
        · rw [sR_0, pk_un (by have : (0 : Int32).toNatClampNeg = 0 := rfl; omega), sR_1 _ _ (by decide), sR_1 _ _ (by decide)]; rfl
        · rw [sR_1 _ _ (by decide), sR_1 _ _ (by decide), sR_0, pk_un (by omega)]; rfl
        · rw [sR_1 _ _ (by decide), sR_0, pk_un (by omega), sR_1 _ _ (by decide)]; rfl
        · rw [sR_1 _ _ (by decide), sR_1 _ _ (by decide), sR_1 _ _ (by decide)]; rfl
        · rw [sR_1 _ _ (by decide), sR_1 _ _ (by decide), sR_1 _ _ (by decide)]; rfl
        · rw [sR_1 _ _ (by decide), sR_1 _ _ (by decide), sR_1 _ _ (by decide)]; rfl
        · rw [sR_1 _ _ (by decide), sR_1 _ _ (by decide), sR_1 _ _ (by decide)]; rfl
        · show (sL σ29 357 (vp_updL (σ29.2 357) (ni B) (lI ((n27 0 (vNm U s) : Nat) : Int)))).2 357 j = _; rw [sL_0, updL_n (by omega)]
      · show (sL σ29 357 (vp_updL (σ29.2 357) (ni B) (lI ((n27 0 (vNm U s) : Nat) : Int)))).2 357 = _; rw [sL_0]
      · rw [sR_1 _ _ (by decide), sR_1 _ _ (by decide), sR_0]; rfl
      · rw [sR_1 _ _ (by decide), sR_0, sR_1 _ _ (by decide)]; rfl
      · rw [sR_0, sR_1 _ _ (by decide), sR_1 _ _ (by decide)]; rfl
      · intro q hq
        simp only [List.mem_cons, List.not_mem_nil, or_false] at hq
        rcases hq with rfl | rfl | rfl | rfl | rfl <;> (rw [sR_1 _ _ (by decide), sR_1 _ _ (by decide), sR_1 _ _ (by decide)]; rfl)
      · rw [sR_1 _ _ (by decide), sR_1 _ _ (by decide), sR_1 _ _ (by decide)]; rfl)
end S88zv
