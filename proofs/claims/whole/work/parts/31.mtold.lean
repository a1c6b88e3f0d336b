/-! The reference's formulas, from outside: what they leave. -/
/-- the fields that asking leaves behind it -/
def fS (j : Nat) : Bool := Nat.beq j 50 || Nat.beq j 106 || Nat.beq j 55 || Nat.beq j 56 || Nat.beq j 57
/-- the same state, but for what asking leaves -/
def MSc (σ σ' : St) : Prop := (∀ q, q ≠ 326 → σ'.1 q = σ.1 q) ∧ (∀ q, q ≠ 400 → σ'.2 q = σ.2 q) ∧ ∀ j, fS j = false → σ'.1 326 j = σ.1 326 j
theorem MSc.rf (σ : St) : MSc σ σ := ⟨fun _ _ => rfl, fun _ _ => rfl, fun _ _ => rfl⟩
theorem MSc.tr {σ σ' σ'' : St} (h : MSc σ σ') (h2 : MSc σ' σ'') : MSc σ σ'' := ⟨fun q hq => (h2.1 q hq).trans (h.1 q hq), fun q hq => (h2.2.1 q hq).trans (h.2.1 q hq), fun j hj => (h2.2.2 j hj).trans (h.2.2 j hj)⟩
theorem MSc.mp (σ : St) (g : Nat → Int64) (n : Nat) : MSc σ (MP σ g n) := by
  refine ⟨fun q hq => MP_q σ g n hq, fun q hq => if_neg hq, fun j hj => MP_f σ g n (fun q => ?_)⟩
  rw [q] at hj
  exact absurd hj (by decide)
theorem MSc.put (σ : St) {f : Nat} (x : Int32) (hf : fS f = true) : MSc σ (sI σ 326 (upd (σ.1 326) f x)) := by
  refine ⟨fun q hq => sR_1 σ _ hq, fun q hq => rfl, fun j hj => ?_⟩
  rw [sR_0, pk_un]
  intro q
  rw [q, hf] at hj
  exact absurd hj (by decide)
/-- what is read of the reference's cells when nothing is asked for -/
def MRd (σ : St) (B : Bh) (S : Str) (W : Nat → Nat) (h : Nat) : Prop := MNum σ B ∧ MTab σ B ∧ MStr σ S ∧ MWit σ B W ∧ σ.1 365 0 = nI h
theorem MRd.sc {σ σ' : St} {B : Bh} {S : Str} {W : Nat → Nat} {h : Nat} (H : MRd σ B S W h) (hs : MSc σ σ') : MRd σ' B S W h := by
  obtain ⟨h1, h2, h3, h4, h5⟩ := H
  refine ⟨fun q hq => ?_, ⟨fun i hi => ?_, fun b hb => ?_⟩, fun b i hb hi => ?_, fun b hb => ?_, ?_⟩
  · rw [hs.1 356 (by decide)]; exact h1 q hq
  · rw [hs.1 358 (by decide), hs.1 359 (by decide)]; exact h2.1 i hi
  · rw [hs.1 360 (by decide)]; exact h2.2 b hb
  · rw [hs.1 365 (by decide)]; exact h3 b i hb hi
  · rw [hs.2.2 53 rfl, hs.2.2 54 rfl, hs.1 360 (by decide)]; exact h4 b hb
  · rw [hs.1 365 (by decide)]; exact h5
/-- the formula k that is told -/
def MFrm (σ : St) (B : Bh) : Prop := ∀ k, k < 4 → match frm B k with
  | none => σ.1 362 (4 + k) = -1
  | some cs => ∃ a b, σ.1 362 (4 + k) = nI a ∧ σ.1 363 (4 + k) = nI b ∧ a + cs.length = b ∧ b ≤ 1600 ∧ ∀ q, q < cs.length → σ.1 364 (1600 + (a + q)) = nI (mc (cs.getD q 0))
theorem nI_m1 {n : Nat} (h : n < 2 ^ 31) : ¬ nI n = -1 := fun q => by
  have := nI_toInt h
  rw [q] at this
  have h2 : (-1 : Int32).toInt = -1 := by decide
  omega
theorem MFrm.sc {σ σ' : St} {B : Bh} (H : MFrm σ B) (hs : MSc σ σ') : MFrm σ' B := fun k hk => by
  have h := H k hk
  cases hf : frm B k with
  | none => rw [hf] at h; simp only at h ⊢; rw [hs.1 362 (by decide)]; exact h
  | some cs =>
    rw [hf] at h
    obtain ⟨a, b, h1, h2, h3, h4, h5⟩ := h
    refine ⟨a, b, ?_, ?_, h3, h4, fun q hq => ?_⟩
    · rw [hs.1 362 (by decide)]; exact h1
    · rw [hs.1 363 (by decide)]; exact h2
    · rw [hs.1 364 (by decide)]; exact h5 q hq
theorem MP_0 (σ : St) : sI σ 326 (upd (σ.1 326) 106 0) = MP σ (σ.2 400) 0 := by
  refine Prod.ext rfl (funext fun q => ?_)
  show σ.2 q = if q = 400 then σ.2 400 else σ.2 q
  by_cases h : q = 400
  · rw [if_pos h, h]
  · rw [if_neg h]
section S31
variable {l : Launch} {X : Cx} {ρ : Rf} {σ : St} {B : Bh} {S : Str} {W : Nat → Nat}
theorem m_isTold (d : Nat) (hρ : RF ρ) (hF : MFrm σ B) {k : Nat} (hk : k < 4) : T l X d 203 [.ref 326, .int (nI k)] 402 402 ρ σ (Rs (.int (bI (frm B k).isSome)) ρ σ) := by
  have h := hF k hk
  refine T_of rfl ?_
  refine Ev_aload rfl rfl rfl ?_
  refine Ev_getR rfl (by first | rfl | assumption) (hρ _ _ _ rfl) ?_
  refine Ev_const rfl ?_
  refine Ev_iload rfl rfl ?_
  refine Ev_iadd rfl ?_
  refine Ev_norm (nI_add 4 k) ?_
  refine Ev_iald rfl (by first | rfl | assumption) (vp_in_nI (n := 4 + k) (show 4 + k < 8 by omega) (by decide)) ?_
  rw [nI_clamp (show 4 + k < 2 ^ 31 by omega)]
  refine Ev_const rfl ?_
  refine Ev_icmp_eq rfl (fun h9 => ?_) (fun h9 => ?_)
  · refine Ev_const rfl ?_
    exact Ev_ireturn rfl rfl rfl rfl ⟨by
    cases hf : frm B k with
    | none => rfl
    | some cs =>
      rw [hf] at h
      obtain ⟨a, b, h1, h2, h3, h4, h5⟩ := h
      rw [h1] at h9
      exact absurd h9 (nI_m1 (by omega)), rfl, rfl⟩
  · refine Ev_const rfl ?_
    refine Ev_goto rfl ?_
    exact Ev_ireturn rfl rfl rfl rfl ⟨by
    cases hf : frm B k with
    | none => rw [hf] at h; exact absurd h h9
    | some cs => rfl, rfl, rfl⟩
theorem m_codesTell (d : Nat) {h tide k a i v R : Nat} (hρ : RF ρ) (hR : MRd σ B S W h) (hF : MFrm σ B) (hW : WfN B) (hWt : WfT B) (hbd : ∀ b i, S b i ≤ 99) (hWb : ∀ b, W b ≤ 9) (hh : h ≤ 2000) (ht : tide ≤ 9) (hv : v ≤ 99) (hk : k < 4) {cs : List Nat} {tf : List Bool} (hcs : frm B k = some cs) (hty : wty k cs [] = some tf) (htf : tf ≠ [])
    (hM : MSee σ B h tide k a i v) : T l X (d + 4) 204 [.ref 326, .int (nI k)] 402 402 ρ σ (fun w ρ' σ' => w = some (.long (lI (evF (fun s => ((seeF B (S a) a (W a) h tide i v R s : Nat) : Int)) cs))) ∧ ρ' = ρ ∧ MSc σ σ') := by
  have hf := hF k hk
  rw [hcs] at hf
  obtain ⟨a0, b, h1, h2, h3, h4, h5⟩ := hf
  have hs1 : MSc σ (sI σ 326 (upd (σ.1 326) 50 (nI k))) := MSc.put σ (nI k) rfl
  obtain ⟨r1, r2, r3, r4, r5⟩ := hR.sc hs1
  have hA : MAll (sI σ 326 (upd (σ.1 326) 50 (nI k))) B S W h tide k a i v := by
    obtain ⟨m1, m2, m3, m4, m5⟩ := hM
    refine ⟨r1, r2, r3, r4, r5, fun q => ?_, fun q => ?_, fun q => ?_, fun q => ?_⟩
    · rw [sR_0, pk_un (by decide)]; exact m2 q
    · rw [sR_0, pk_un (by decide)]; exact m3 q
    · rw [sR_0, pk_un (by decide)]; exact m4 q
    · rw [sR_0, pk_un (by decide)]; exact m5 q
  refine T_of rfl ?_
  refine Ev_aload rfl rfl rfl ?_
  refine Ev_iload rfl rfl ?_
  refine Ev_putI rfl (by first | rfl | assumption) ⟨rfl, rfl⟩ rfl ?_
  refine Ev_aload rfl rfl rfl ?_
  refine Ev_const rfl ?_
  refine Ev_putI rfl (by first | rfl | assumption) ⟨rfl, rfl⟩ rfl ?_
  refine Ev_st rfl (MP_0 (sI σ 326 (upd (σ.1 326) 50 (nI k)))) ?_
  refine Ev_aload rfl rfl rfl ?_
  refine Ev_getR rfl (by first | rfl | assumption) (hρ _ _ _ rfl) ?_
  refine Ev_const rfl ?_
  refine Ev_iload rfl rfl ?_
  refine Ev_iadd rfl ?_
  refine Ev_norm (nI_add 4 k) ?_
  refine Ev_iald rfl (by first | rfl | assumption) (vp_in_nI (n := 4 + k) (show 4 + k < 8 by omega) (by decide)) ?_
  refine Ev_norm (by rw [nI_clamp (by omega), MP_q _ _ _ (by decide), sR_1 _ _ (by decide)]; exact h1 : _ = nI a0) ?_
  refine Ev_istore rfl ?_
  exact Ev.mono (w_loop (R := R) hρ hk h4 (by rw [sR_1 _ _ (by decide)]; exact h2) hA hW hWt hbd hWb hh ht hv htf cs a0 [] [] _ _ h3 (fun q hq => by rw [sR_1 _ _ (by decide)]; exact h5 q hq) hty (by decide) trivial (PileL.nil _)) (fun w ρ' σ' hq => ⟨hq.1, hq.2.1, by
  obtain ⟨g, n, e⟩ := hq.2.2
  rw [e]
  exact hs1.tr (MSc.mp _ g n)⟩)
end S31
