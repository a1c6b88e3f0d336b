/-! What always holds between the class and the reference, out of one abstract state. -/
/-- a moment: the hour, the strengths, the plan, what is kept -/
abbrev Mo : Type := Nat × Str × (Nat → Nat) × (Nat × (Nat → Nat))
/-- the beach; now; what can be undone (how much; the k-th latest); what is found (rows; their bytes); the seed; the tape; what was refused; the fault, its place; the image -/
abbrev Ab : Type := Bh × Mo × (Nat × (Nat → Mo)) × (Nat × (Nat → Nat)) × Nat × (Nat × (Nat → Nat)) × (Nat → Int32) × (Nat × Int32) × (Nat × (Nat → Nat))
def aB (A : Ab) : Bh := A.1
def aN (A : Ab) : Mo := A.2.1
def aP (A : Ab) : Nat × (Nat → Mo) := A.2.2.1
def aF (A : Ab) : Nat × (Nat → Nat) := A.2.2.2.1
def aX (A : Ab) : Nat := A.2.2.2.2.1
def aT (A : Ab) : Nat × (Nat → Nat) := A.2.2.2.2.2.1
def aR (A : Ab) : Nat → Int32 := A.2.2.2.2.2.2.1
def aE (A : Ab) : Nat × Int32 := A.2.2.2.2.2.2.2.1
def aG (A : Ab) : Nat × (Nat → Nat) := A.2.2.2.2.2.2.2.2
def mkA (B : Bh) (N : Mo) (P : Nat × (Nat → Mo)) (F : Nat × (Nat → Nat)) (x : Nat) (T : Nat × (Nat → Nat)) (R : Nat → Int32) (E : Nat × Int32) (I : Nat × (Nat → Nat)) : Ab := (B, N, P, F, x, T, R, E, I)
def WfM (B : Bh) (m : Mo) : Prop := m.1 ≤ 999 ∧ WfS B m.2.1 ∧ WfP B m.2.2.1 ∧ m.2.2.2.1 ≤ 40
def WfB (B : Bh) : Prop := WfN B ∧ WfT B ∧ WfF B ∧ (∀ b, wit B b ≤ 9) ∧ (∀ i, i < ni B → nee B i < 2 ^ i) ∧ (∀ i, i < ni B → (nmI B i).length ≤ 6 ∧ 0 < (nmI B i).length ∧ ∀ c ∈ nmI B i, 1 ≤ c ∧ c ≤ 26) ∧ ∀ b, b < nb B → (nmB B b).length ≤ 6 ∧ 0 < (nmB B b).length ∧ ∀ c ∈ nmB B b, 1 ≤ c ∧ c ≤ 26
def WfA (A : Ab) : Prop := WfB (aB A) ∧ WfM (aB A) (aN A) ∧ ((aP A).1 ≤ 20 ∧ ∀ k, k < (aP A).1 → WfM (aB A) ((aP A).2 k)) ∧
  ((aF A).1 ≤ 16 ∧ ∀ k, k < (aF A).1 → (aF A).2 (4 * k) ≤ 30 ∧ (aF A).2 (4 * k + 1) < nb (aB A) ∧ (aF A).2 (4 * k + 2) < ni (aB A) ∧ (aF A).2 (4 * k + 3) ≤ 99) ∧
  aX A < 2147483648 ∧ ((aT A).1 ≤ 1600 ∧ ∀ j, (aT A).2 j < 256) ∧ ((aG A).1 ≤ 83 ∧ ∀ j, (aG A).2 j < 256)
/-- a byte as the class's array holds it -/
def sb (v : Nat) : Int32 := (nI v).toInt8.toInt32
theorem sb_and : ∀ v, v < 256 → sb v &&& 255 = nI v := by decide +kernel
/-- the roots: from an idea on down -/
def rfRo (B : Bh) : Nat → Nat → Nat
  | 0, s => s
  | k + 1, s => rfRo B k (if s / 2 ^ k % 2 = 1 then s ||| nee B k else s)
def roM (B : Bh) (i : Nat) : Nat := rfRo B i (nee B i)
/-- a name as the class's number, as the reference's -/
def n5 : List Nat → Nat
  | [] => 0
  | c :: r => c + 32 * n5 r
def n27 (v : Nat) : List Nat → Nat
  | [] => v
  | c :: r => n27 (27 * v + c) r
/-! the class -/
def CMo (σ : St) (m : Nat) (B : Bh) (N : Mo) : Prop := σ.1 m 0 = nI N.1 ∧ (∀ b, b < 6 → RowR σ (m + 2 + b) (N.2.1 b)) ∧ CPl σ m B N.2.2.1 ∧ CKp σ m N.2.2.2
def CNam (σ : St) (q : Nat) (B : Bh) : Prop := (∀ i, i < ni B → σ.1 (q + 1) i = nI (n5 (nmI B i)) ∧ σ.1 (q + 4) i = nI (roM B i)) ∧ ∀ b, b < nb B → σ.1 (q + 5) b = nI (n5 (nmB B b))
def CPas (σ : St) (B : Bh) (P : Nat × (Nat → Mo)) : Prop := σ.1 43 2 = nI P.1 ∧ ∃ o, o < 20 ∧ σ.1 43 1 = nI o ∧ ∀ k, k < P.1 → CMo σ (45 + 11 * ((o + (P.1 - 1 - k)) % 20)) B (P.2 k)
def CFnd (σ : St) (F : Nat × (Nat → Nat)) : Prop := σ.1 267 12 = nI F.1 ∧ ∀ j, j < 4 * F.1 → σ.1 315 j = nI (F.2 j)
def CTap (σ : St) (T : Nat × (Nat → Nat)) : Prop := σ.1 0 1 = nI T.1 ∧ ∀ j, j < T.1 → σ.1 1 j = sb (T.2 j)
def CImg (σ : St) (I : Nat × (Nat → Nat)) : Prop := σ.1 0 12 = nI I.1 ∧ ∀ j, j < I.1 → σ.1 324 j &&& 255 = nI (I.2 j)
def RC (q : Nat) (ρ : Rf) (σ : St) (A : Ab) : Prop := (ρ 0 2 = some q ∧ ρ 0 3 = some (19 - q)) ∧ CRd ρ σ q (aB A) ∧ CNam σ q (aB A) ∧ CMo σ 32 (aB A) (aN A) ∧ CPas σ (aB A) (aP A) ∧ CFnd σ (aF A) ∧ σ.1 0 16 = nI (aX A) ∧ CTap σ (aT A) ∧ (∀ j, j < 6 → σ.1 325 j = aR A j) ∧ (σ.1 0 14 = nI (aE A).1 ∧ σ.1 0 15 = (aE A).2) ∧ CImg σ (aG A)
/-! the reference -/
def MMo (f : Nat → Int32) (B : Bh) (N : Mo) : Prop := f 0 = nI N.1 ∧ (∀ b i, b < 6 → i < 8 → f (1 + 8 * b + i) = nI (N.2.1 b i)) ∧ (∀ j, j < 2 * np B → f (49 + j) = nI (N.2.2.1 j)) ∧ f 81 = nI N.2.2.2.1 ∧ KpR f 82 N.2.2.2
/-- the words that the reference compares with: they stand as at first -/
def wdS : List (Nat × List Nat) := [(329, [105, 100, 101, 97]), (330, [100, 101, 112, 116, 104]), (331, [110, 101, 101, 100]), (332, [102, 111, 114]), (333, [98, 97, 116, 104, 101, 114]), (334, [108, 117, 110, 103]), (335, [119, 105, 116, 115]), (336, [112, 108, 97, 110]), (337, [105, 110]), (338, [116, 105, 100, 101]), (339, [107, 101, 101, 112, 115]), (340, [102, 97, 100, 101, 115]), (341, [98, 101, 97, 114, 115]), (342, [115, 113, 117, 97, 108, 108]), (343, [104, 111, 117, 114]), (344, [107, 110, 111, 119, 110]), (345, [115, 116, 114, 101, 110, 103, 116, 104]), (346, [114, 111, 111, 116, 101, 100]), (347, [110, 117, 109, 98, 101, 114]), (348, [107, 110, 111, 119, 115]), (349, [114, 101, 97, 100, 121]), (350, [111, 114]), (351, [97, 110, 100]), (352, [110, 111, 116]), (353, [97, 108, 108]), (354, [109, 105, 110]), (355, [109, 97, 120]), (375, [102, 105, 114, 115, 116]), (376, [108, 97, 115, 116]), (377, [111, 102, 116, 101, 110]), (378, [116, 111, 116, 97, 108]), (379, [109, 111, 115, 116]), (380, [108, 101, 97, 115, 116]), (381, [110, 111, 116]), (382, [97, 110, 100]), (383, [111, 114]), (384, [97, 108, 108]), (385, [109, 105, 110]), (386, [109, 97, 120]), (387, [104, 111, 117, 114]), (388, [100, 101, 112, 116, 104]), (389, [119, 105, 116, 115]), (390, [107, 110, 111, 119, 110]), (391, [108, 117, 110, 103]), (392, [116, 105, 100, 101]), (393, [115, 116, 114, 101, 110, 103, 116, 104]), (394, [114, 111, 111, 116, 101, 100]), (395, [110, 117, 109, 98, 101, 114]), (396, [107, 110, 111, 119, 115]), (397, [114, 101, 97, 100, 121])]
def Wds (σ : St) : Prop := ∀ p, p ∈ wdS → ∀ j, j < p.2.length → σ.1 p.1 j = nI (p.2.getD j 0)
theorem wdS_ok : ∀ p, p ∈ wdS → 326 < p.1 ∧ p.1 < 402 := by decide
def wdX (C : Nat → Bool) : Bool := wdS.any (fun p => C p.1)
theorem wdX_f {C : Nat → Bool} (h : wdX C = false) : ∀ p, p ∈ wdS → C p.1 = false := by
  intro p hp
  unfold wdX at h
  rw [List.any_eq_false] at h
  exact Bool.not_eq_true _ ▸ (by simpa using h p hp)
theorem Wds.eq {σ σ' : St} (H : Wds σ) (h : ∀ p, p ∈ wdS → σ'.1 p.1 = σ.1 p.1) : Wds σ' := fun p hp j hj => by rw [h p hp]; exact H p hp j hj
def MNam (σ : St) (B : Bh) : Prop := (∀ i, i < ni B → σ.2 357 (16 + i) = lI ((n27 0 (nmI B i) : Nat) : Int)) ∧ (∀ b, b < nb B → σ.2 357 (24 + b) = lI ((n27 0 (nmB B b) : Nat) : Int)) ∧ Wds σ
def MPas (σ : St) (B : Bh) (P : Nat × (Nat → Mo)) : Prop := σ.1 326 73 = nI P.1 ∧ ∃ w, w < 20 ∧ σ.1 326 74 = nI w ∧ ∀ k, k < P.1 → MMo (fun j => σ.1 374 (242 * ((w + 20 - k) % 20) + j)) B (P.2 k)
def MFnd (σ : St) (F : Nat × (Nat → Nat)) : Prop := σ.1 326 69 = nI F.1 ∧ ∀ j, j < 4 * F.1 → σ.1 372 j = nI (F.2 j)
def MTap (σ : St) (T : Nat × (Nat → Nat)) : Prop := σ.1 326 1 = nI T.1 ∧ ∀ j, j < T.1 → σ.1 327 j = nI (T.2 j)
def MImg (σ : St) (I : Nat × (Nat → Nat)) : Prop := σ.1 326 110 = nI I.1 ∧ ∀ j, j < I.1 → σ.1 401 j = nI (I.2 j)
def RM (ρ : Rf) (σ : St) (A : Ab) : Prop := RF ρ ∧ (MNum σ (aB A) ∧ MTab σ (aB A) ∧ MFrm σ (aB A) ∧ MNam σ (aB A)) ∧ (σ.1 326 53 = -1 ∧ σ.1 326 60 = 0) ∧ MMo (σ.1 365) (aB A) (aN A) ∧ MPas σ (aB A) (aP A) ∧ MFnd σ (aF A) ∧ σ.2 326 75 = lI ((aX A : Nat) : Int) ∧ MTap σ (aT A) ∧ (∀ j, j < 6 → σ.1 328 j = aR A j) ∧ (σ.1 326 7 = nI (aE A).1 ∧ σ.1 326 8 = (aE A).2) ∧ MImg σ (aG A)
def InvA : Iv := fun ρ σ => ∃ (A : Ab) (q : Nat), WfA A ∧ RC q ρ σ A ∧ RM ρ σ A
/-- the reference's own cells are as they were -/
def upM (σ σ' : St) : Prop := (∀ k, 326 ≤ k → σ'.1 k = σ.1 k) ∧ σ'.2 = σ.2
/-- the class's own cells are as they were -/
def upC (σ σ' : St) : Prop := ∀ k, k < 326 → σ'.1 k = σ.1 k
theorem upM.rf (σ : St) : upM σ σ := ⟨fun _ _ => rfl, rfl⟩
theorem upC.rf (σ : St) : upC σ σ := fun _ _ => rfl
theorem upM.tr {σ σ' σ'' : St} (h : upM σ σ') (h2 : upM σ' σ'') : upM σ σ'' := ⟨fun k hk => (h2.1 k hk).trans (h.1 k hk), h2.2.trans h.2⟩
theorem upC.tr {σ σ' σ'' : St} (h : upC σ σ') (h2 : upC σ' σ'') : upC σ σ'' := fun k hk => (h2 k hk).trans (h k hk)
theorem upM.put (σ : St) {k : Nat} (f : Nat → Int32) (hk : k < 326) : upM σ (sI σ k f) := ⟨fun k' hk' => sR_1 _ _ (by omega), rfl⟩
theorem upC.put (σ : St) {k : Nat} (f : Nat → Int32) (hk : 326 ≤ k) : upC σ (sI σ k f) := fun k' hk' => sR_1 _ _ (by omega)
theorem upC.putL (σ : St) (k : Nat) (f : Nat → Int64) : upC σ (sL σ k f) := fun _ _ => rfl
theorem CF.upM {C : Nat → Nat → Bool} {σ σ' : St} (h : CF C σ σ') (hC : ∀ k j, 326 ≤ k → C k j = false) : upM σ σ' := ⟨fun k hk => funext fun j => h.1 k j (hC k j hk), h.2⟩
theorem MF.upC {C Fd : Nat → Bool} {σ σ' : St} (h : MF C Fd σ σ') (hC : ∀ k, k < 326 → C k = false) : upC σ σ' := fun k hk => h.1 k (by omega) (hC k hk)
theorem RM.up {ρ ρ' : Rf} {σ σ' : St} {A : Ab} (H : RM ρ σ A) (hr : RF ρ') (h : upM σ σ') : RM ρ' σ' A := by
  obtain ⟨-, ⟨h1, h2, h3, h4⟩, h5, h6, h7, h8, h9, h10, h11, h12, h13⟩ := H
  have e : ∀ k, 326 ≤ k → σ'.1 k = σ.1 k := h.1
  refine ⟨hr, ⟨?_, ?_, ?_, ?_⟩, ?_, ?_, ?_, ?_, ?_, ?_, ?_, ?_, ?_⟩
  · unfold MNum at h1 ⊢; rw [e _ (by decide)]; exact h1
  · unfold MTab at h2 ⊢; rw [e _ (by decide), e _ (by decide), e _ (by decide)]; exact h2
  · unfold MFrm at h3 ⊢; rw [e _ (by decide), e _ (by decide), e _ (by decide)]; exact h3
  · exact ⟨by rw [h.2]; exact h4.1, by rw [h.2]; exact h4.2.1, h4.2.2.eq (fun p hp => e p.1 (Nat.le_of_lt (wdS_ok p hp).1))⟩
  · rw [e 326 (by decide)]; exact h5
  · rw [e _ (by decide)]; exact h6
  · unfold MPas at h7 ⊢; rw [e 326 (by decide), e _ (by decide)]; exact h7
  · unfold MFnd at h8 ⊢; rw [e 326 (by decide), e _ (by decide)]; exact h8
  · rw [h.2]; exact h9
  · unfold MTap at h10 ⊢; rw [e 326 (by decide), e _ (by decide)]; exact h10
  · rw [e _ (by decide)]; exact h11
  · rw [e 326 (by decide)]; exact h12
  · unfold MImg at h13 ⊢; rw [e 326 (by decide), e _ (by decide)]; exact h13
theorem RowR.eq {σ σ' : St} {r : Nat} {row : Nat → Nat} (H : RowR σ r row) (h : σ'.1 r = σ.1 r) : RowR σ' r row := fun i hi => by rw [h]; exact H i hi
theorem CMo.eq {σ σ' : St} {m : Nat} {B : Bh} {N : Mo} (H : CMo σ m B N) (h : ∀ r, r < 11 → σ'.1 (m + r) = σ.1 (m + r)) : CMo σ' m B N := by
  obtain ⟨h1, h2, h3, h4⟩ := H
  have e0 : σ'.1 m = σ.1 m := h 0 (by decide)
  refine ⟨by rw [e0]; exact h1, fun b hb => (h2 b hb).eq (by rw [show m + 2 + b = m + (2 + b) by omega]; exact h _ (by omega)), ⟨by rw [e0]; exact h3.1, fun k hk => by rw [h 8 (by decide), h 9 (by decide)]; exact h3.2 k hk⟩, by rw [e0]; exact h4.1, h4.2.1, by rw [h 10 (by decide)]; exact h4.2.2⟩
theorem CRd.eq {ρ : Rf} {σ σ' : St} {q : Nat} {B : Bh} (H : CRd ρ σ q B) (h : ∀ k, (1 < k ∧ k < 32 ∧ k ≠ 16 ∧ k ≠ 31) ∨ k = 266 → σ'.1 k = σ.1 k) (ρ' : Rf) (hr : RF ρ') (hb : ρ' 265 1 = ρ 265 1) : CRd ρ' σ' q B := by
  obtain ⟨-, h2, h3, h4, h5, h6, R, h7, h8⟩ := H
  have eq : ∀ r, r < 15 → r ≠ 14 → σ'.1 (q + r) = σ.1 (q + r) := fun r hr hr2 => h _ (Or.inl (by omega))
  have e0 : σ'.1 q = σ.1 q := eq 0 (by decide) (by decide)
  refine ⟨hr, h2, by rw [hb]; exact h3, by unfold CNum at h4 ⊢; rw [e0]; exact h4, ?_, ?_, R, h7, by rw [h 266 (Or.inr rfl)]; exact h8⟩
  · unfold CTab at h5 ⊢; rw [eq 2 (by decide) (by decide), eq 3 (by decide) (by decide), eq 6 (by decide) (by decide), eq 7 (by decide) (by decide)]; exact h5
  · unfold CFrm at h6 ⊢; rw [eq 12 (by decide) (by decide), eq 13 (by decide) (by decide), eq 11 (by decide) (by decide)]; exact h6
theorem RC.up {q : Nat} {ρ : Rf} {σ σ' : St} {A : Ab} (H : RC q ρ σ A) (h : upC σ σ') : RC q ρ σ' A := by
  obtain ⟨h1, h2, h3, h4, h5, h6, h7, h8, h9, h10, h11⟩ := H
  have hq := h2.2.1
  have eq : ∀ r, r < 15 → σ'.1 (q + r) = σ.1 (q + r) := fun r hr => h _ (by omega)
  refine ⟨h1, h2.eq (fun k hk => h k (by omega)) ρ h2.1 rfl, ?_, h4.eq (fun r hr => h _ (by omega)), ?_, ?_, ?_, ?_, ?_, ?_, ?_⟩
  · unfold CNam at h3 ⊢; rw [eq 1 (by decide), eq 4 (by decide), eq 5 (by decide)]; exact h3
  · obtain ⟨g1, o, g2, g3, g4⟩ := h5
    exact ⟨by rw [h 43 (by decide)]; exact g1, o, g2, by rw [h 43 (by decide)]; exact g3, fun k hk => (g4 k hk).eq (fun r hr => h _ (by have := Nat.mod_lt (o + ((aP A).1 - 1 - k)) (show 0 < 20 by decide); omega))⟩
  · unfold CFnd at h6 ⊢; rw [h 267 (by decide), h 315 (by decide)]; exact h6
  · rw [h 0 (by decide)]; exact h7
  · unfold CTap at h8 ⊢; rw [h 0 (by decide), h 1 (by decide)]; exact h8
  · rw [h 325 (by decide)]; exact h9
  · rw [h 0 (by decide)]; exact h10
  · unfold CImg at h11 ⊢; rw [h 0 (by decide), h 324 (by decide)]; exact h11
/-- one call, out of its two sides -/
theorem op_of {l : Launch} {X : Cx} {c m : Nat} {as : List Value} (H : ∀ A q ρ σ, WfA A → RC q ρ σ A → RF ρ → ∃ (r : Int32) (A' : Ab), WfA A' ∧ T l X 100 c (.ref 0 :: as) 402 402 ρ σ (fun v ρ' σ' => v = some (.int r) ∧ RF ρ' ∧ upM σ σ' ∧ ∃ q', RC q' ρ' σ' A') ∧
    ∀ ρ σ, RM ρ σ A → T l X 100 m (.ref 326 :: as) 402 402 ρ σ (fun v ρ' σ' => v = some (.int r) ∧ ρ' = ρ ∧ upC σ σ' ∧ RM ρ' σ' A')) : OpI l X InvA c m as := by
  rintro ρ σ ⟨A, q, hA, hC, hM⟩
  obtain ⟨r, A', hA', h1, h2⟩ := H A q ρ σ hA hC hM.1
  refine ⟨r, fun ρ' σ' => ∃ q', RC q' ρ' σ' A' ∧ RM ρ' σ' A, h1.mono (fun v ρ' σ' hq => ?_), ?_⟩
  · obtain ⟨g1, g2, g3, q', g4⟩ := hq
    exact ⟨g1, q', g4, hM.up g2 g3⟩
  · rintro ρ' σ' ⟨q', g1, g2⟩
    refine (h2 ρ' σ' g2).mono (fun v ρ2 σ2 hq => ?_)
    obtain ⟨e1, e2, e3, e4⟩ := hq
    subst e2
    exact ⟨e1, A', q', hA', g1.up e3, e4⟩
theorem op_ofL {l : Launch} {X : Cx} {c m : Nat} {as : List Value} (H : ∀ A q ρ σ, WfA A → RC q ρ σ A → RF ρ → ∃ (r : Int64) (A' : Ab), WfA A' ∧ T l X 100 c (.ref 0 :: as) 402 402 ρ σ (fun v ρ' σ' => v = some (.long r) ∧ RF ρ' ∧ upM σ σ' ∧ ∃ q', RC q' ρ' σ' A') ∧
    ∀ ρ σ, RM ρ σ A → T l X 100 m (.ref 326 :: as) 402 402 ρ σ (fun v ρ' σ' => v = some (.long r) ∧ ρ' = ρ ∧ upC σ σ' ∧ RM ρ' σ' A')) : OpL l X InvA c m as := by
  rintro ρ σ ⟨A, q, hA, hC, hM⟩
  obtain ⟨r, A', hA', h1, h2⟩ := H A q ρ σ hA hC hM.1
  refine ⟨r, fun ρ' σ' => ∃ q', RC q' ρ' σ' A' ∧ RM ρ' σ' A, h1.mono (fun v ρ' σ' hq => ?_), ?_⟩
  · obtain ⟨g1, g2, g3, q', g4⟩ := hq
    exact ⟨g1, q', g4, hM.up g2 g3⟩
  · rintro ρ' σ' ⟨q', g1, g2⟩
    refine (h2 ρ' σ' g2).mono (fun v ρ2 σ2 hq => ?_)
    obtain ⟨e1, e2, e3, e4⟩ := hq
    subst e2
    exact ⟨e1, A', q', hA', g1.up e3, e4⟩
