/-! An hour, hours: the reference. -/
/-- the plan: P (2k) the bather of row k, P (2k + 1) its idea -/
def WfP (B : Bh) (P : Nat → Nat) : Prop := ∀ k, k < np B → P (2 * k) < nb B ∧ P (2 * k + 1) < ni B
def pfM (B : Bh) (P : Nat → Nat) (h b : Nat) : Option Nat := if np B = 0 then none else if P (2 * (h % np B)) = b then some (P (2 * (h % np B) + 1)) else none
def updN (f : Nat → Nat) (k v : Nat) (j : Nat) : Nat := if j = k then v else f j
/-- a bather's hour, what he is ducked in ahead of it; by which strength, 0 if not -/
def hrB (B : Bh) (row : Nat → Nat) (b w h tide : Nat) : Option Nat → Nat → Nat
  | none => fadR B row b w h (-1)
  | some i => bif rdM B row b w h tide i then fadR B (updN row i (kpM B row b w h tide i)) b w h (nI i) else fadR B row b w h (-1)
theorem hrB_n (B : Bh) (row : Nat → Nat) (b w h tide : Nat) : hrB B row b w h tide none = fadR B row b w h (-1) := rfl
theorem hrB_s (B : Bh) (row : Nat → Nat) (b w h tide i : Nat) : hrB B row b w h tide (some i) = bif rdM B row b w h tide i then fadR B (updN row i (kpM B row b w h tide i)) b w h (nI i) else fadR B row b w h (-1) := rfl
def dkB (B : Bh) (row : Nat → Nat) (b w h tide : Nat) : Option Nat → Nat
  | none => 0
  | some i => bif rdM B row b w h tide i then kpM B row b w h tide i else 0
theorem dkB_s (B : Bh) (row : Nat → Nat) (b w h tide i : Nat) : dkB B row b w h tide (some i) = bif rdM B row b w h tide i then kpM B row b w h tide i else 0 := rfl
def hrS (B : Bh) (P : Nat → Nat) (S : Str) (W : Nat → Nat) (h tide : Nat) : Str := fun b => if b < nb B then hrB B (S b) b (W b) h tide (pfM B P h b) else S b
theorem pfM_ok {B : Bh} {P : Nat → Nat} (hP : WfP B P) {h b i : Nat} (hq : pfM B P h b = some i) : 0 < np B ∧ b = P (2 * (h % np B)) ∧ i = P (2 * (h % np B) + 1) ∧ b < nb B ∧ i < ni B := by
  unfold pfM at hq
  by_cases h0 : np B = 0
  · rw [if_pos h0] at hq; cases hq
  · rw [if_neg h0] at hq
    by_cases h1 : P (2 * (h % np B)) = b
    · rw [if_pos h1] at hq
      have hl := hP (h % np B) (Nat.mod_lt _ (Nat.pos_of_ne_zero h0))
      exact ⟨Nat.pos_of_ne_zero h0, h1.symm, (Option.some.inj hq).symm, h1 ▸ hl.1, (Option.some.inj hq) ▸ hl.2⟩
    · rw [if_neg h1] at hq; cases hq
theorem kpM_le (B : Bh) (row : Nat → Nat) (b w h tide i : Nat) : 1 ≤ kpM B row b w h tide i ∧ kpM B row b w h tide i ≤ 99 := btw_le (by decide) _
theorem updN_le {f : Nat → Nat} {k v : Nat} (hf : ∀ j, f j ≤ 99) (hv : v ≤ 99) (j : Nat) : updN f k v j ≤ 99 := by
  unfold updN
  by_cases h : j = k
  · rw [if_pos h]; exact hv
  · rw [if_neg h]; exact hf j
theorem hrB_le {B : Bh} {row : Nat → Nat} {b w h tide : Nat} {o : Option Nat} (hr : ∀ j, row j ≤ 99) (j : Nat) : hrB B row b w h tide o j ≤ 99 := by
  cases o with
  | none => exact fadR_le (hr j)
  | some i =>
    rw [hrB_s]
    cases rdM B row b w h tide i
    · exact fadR_le (hr j)
    · exact fadR_le (updN_le hr (kpM_le _ _ _ _ _ _ _).2 j)
theorem fadR_0 {B : Bh} {row : Nat → Nat} {b w h : Nat} {but : Int32} {i : Nat} (hr : row i = 0) : fadR B row b w h but i = 0 := by
  unfold fadR
  rw [if_pos (Or.inl hr), hr]
theorem hrB_0 {B : Bh} {row : Nat → Nat} {b w h tide : Nat} {o : Option Nat} {j : Nat} (hr : row j = 0) (ho : ∀ i, o = some i → i ≠ j) : hrB B row b w h tide o j = 0 := by
  cases o with
  | none => exact fadR_0 hr
  | some i =>
    rw [hrB_s]
    cases rdM B row b w h tide i
    · exact fadR_0 hr
    · exact fadR_0 (by unfold updN; rw [if_neg (Ne.symm (ho i rfl))]; exact hr)
theorem hrS_wf {B : Bh} {P : Nat → Nat} {S : Str} {W : Nat → Nat} {h tide : Nat} (hP : WfP B P) (hS : WfS B S) : WfS B (hrS B P S W h tide) := by
  intro b i
  unfold hrS
  by_cases hb : b < nb B
  · rw [if_pos hb]
    refine ⟨hrB_le (fun j => (hS b j).1) i, fun hq => ?_⟩
    have hi : ni B ≤ i := hq.elim (fun q => absurd hb (by omega)) id
    exact hrB_0 ((hS b i).2 (Or.inr hi)) (fun k hk => by have := (pfM_ok hP hk).2.2.2.2; omega)
  · rw [if_neg hb]; exact hS b i
def fH (j : Nat) : Bool := fS j || Nat.beq j 58 || Nat.beq j 61
theorem fS_fH (j : Nat) (h : fH j = false) : fS j = false := by
  unfold fH at h
  rw [Bool.or_eq_false_iff, Bool.or_eq_false_iff] at h
  exact h.1.1
theorem sSc_mf {C Fd : Nat → Bool} {σ σ' : St} (h : MSc σ σ') (hF : ∀ j, Fd j = false → fS j = false) : MF C Fd σ σ' := h.mf hF
/-- the strengths while bathers fade one behind another -/
def mixS (F S : Str) (k : Nat) : Str := fun b => if b < k then F b else S b
theorem mixS_0 (F S : Str) : mixS F S 0 = S := by
  funext b
  unfold mixS
  rw [if_neg (by omega)]
def butF (who what : Int32) (b : Nat) : Int32 := if nI b = who then what else -1
section S41
variable {l : Launch} {X : Cx} {ρ : Rf} {B : Bh} {S : Str} {W : Nat → Nat}
theorem hg_loop {d : Nat} {h tide : Nat} {pl who what : Int32} {F : Str} (hρ : RF ρ) (hW : WfN B) (hWt : WfT B) (hWf : WfF B) (hS : WfS B S) (hWb : ∀ b, W b ≤ 9) (hh : h ≤ 2000) (ht9 : tide ≤ 9) (hF0 : ∀ b, b < nb B → ∀ i, F b i = fadR B (S b) b (W b) h (butF who what b) i) (σ0 : St) :
    ∀ (m k : Nat) (σ : St), k + m = nb B → MF cAN fH σ0 σ → MRd σ B (mixS F S k) W h → MFrm σ B → σ.1 326 58 = nI tide → (∀ j, 49 ≤ j → σ.1 365 j = σ0.1 365 j) →
    σ.1 326 61 = σ0.1 326 61 →
    Ev l X (d + 7) 212 112 [.ref 326, .int pl, .int who, .int what, .int (nI k)] [] 402 402 402 ρ σ (fun v ρ' σ' => v = none ∧ ρ' = ρ ∧ MF cAN fH σ0 σ' ∧ MRd σ' B (mixS F S (nb B)) W (h + 1) ∧ (∀ j, 49 ≤ j → σ'.1 365 j = σ0.1 365 j) ∧ σ'.1 326 61 = σ0.1 326 61) := by
  have h8 := hW.1
  have h6 := hW.2.1
  intro m
  induction m with
  | zero =>
    intro k σ hk hs hR hFm hti hj hdm
    have hk : k = nb B := by omega
    subst hk
    refine Ev_iload rfl rfl ?_
    refine Ev_aload rfl rfl rfl ?_
    refine Ev_callV rfl rfl rfl rfl rfl (same_n 402) (m_batherMany _ hρ hR.1) ?_
    rintro v115 ρ115 σ115 ⟨rfl, e115, g115⟩
    obtain rfl := e115.symm
    obtain rfl := g115.symm
    refine Ev_icmp_ge rfl (fun h118 => ?_) (fun h118 => absurd (nI_le (by omega) (by omega)) h118)
    refine Ev_aload rfl rfl rfl ?_
    refine Ev_getR rfl (by first | rfl | assumption) (hρ _ _ _ rfl) ?_
    refine Ev_const rfl ?_
    refine Ev_dup2 rfl (fun _ q => nomatch q) (fun _ q => nomatch q) ?_
    refine Ev_iald rfl (by first | rfl | assumption) (vp_in_nI (n := 0) (by decide) (by decide)) ?_
    refine Ev_norm hR.2.2.2.2 ?_
    refine Ev_const rfl ?_
    refine Ev_iadd rfl ?_
    refine Ev_norm (nI_1 h) ?_
    refine Ev_iast rfl (by first | rfl | assumption) (vp_in_nI (n := 0) (by decide) (by decide)) ?_
    exact Ev_return rfl rfl rfl ⟨rfl, rfl, by
    have hm : MF cAN fH σ (sI σ 365 (upd (σ.1 365) ((0 : Int32).toNatClampNeg) (nI (h + 1)))) := MF.cell _ (by decide) rfl
    refine ⟨hs.tr hm, hR.mfn hm rfl rfl (fun b i hb hi => ?_) ?_, fun j hq => ?_, ?_⟩
    · rw [sR_0, show (0 : Int32).toNatClampNeg = 0 from rfl, pk_un (by omega)]; exact hR.2.2.1 b i hb hi
    · rw [sR_0, show (0 : Int32).toNatClampNeg = 0 from rfl, pk_us]
    · rw [sR_0, show (0 : Int32).toNatClampNeg = 0 from rfl, pk_un (by omega)]; exact hj j hq
    · rw [sR_1 _ _ (by decide)]; exact hdm⟩
  | succ m ih =>
    intro k σ hk hs hR hFm hti hj hdm
    have hkb : k < nb B := by omega
    have hmix : mixS F S k k = S k := by unfold mixS; rw [if_neg (Nat.lt_irrefl k)]
    have hle : ∀ b i, mixS F S k b i ≤ 99 := by
      intro b i
      unfold mixS
      by_cases hb : b < k
      · rw [if_pos hb, hF0 b (by omega)]; exact fadR_le (hS b i).1
      · rw [if_neg hb]; exact (hS b i).1
    have nxt : ∀ bt : Int32, bt = butF who what k → ∀ σ1 : St, MF cAN fS σ σ1 → (∀ i, i < ni B → σ1.1 365 (1 + 8 * k + i) = nI (fadR B (mixS F S k k) k (W k) h bt i)) → (∀ j, ¬ (1 + 8 * k ≤ j ∧ j < 1 + 8 * k + ni B) → σ1.1 365 j = σ.1 365 j) →
        Ev l X (d + 7) 212 112 [.ref 326, .int pl, .int who, .int what, .int (nI (k + 1))] [] 402 402 402 ρ σ1 (fun v ρ' σ' => v = none ∧ ρ' = ρ ∧ MF cAN fH σ0 σ' ∧ MRd σ' B (mixS F S (nb B)) W (h + 1) ∧ (∀ j, 49 ≤ j → σ'.1 365 j = σ0.1 365 j) ∧ σ'.1 326 61 = σ0.1 326 61) := by
      intro bt hbt σ1 hs1 hr1 hr2
      have hs2 : MF cAN fH σ σ1 := hs1.wk (fun _ q => q) fS_fH
      have hst : MStr σ1 (mixS F S (k + 1)) := by
        intro b i hb hi
        by_cases hbk : b = k
        · subst hbk
          have e : mixS F S (b + 1) b i = fadR B (S b) b (W b) h (butF who what b) i := by unfold mixS; rw [if_pos (by omega), hF0 b hkb]
          rw [e]
          by_cases hin : i < ni B
          · rw [hr1 i hin, hmix, hbt]
          · rw [hr2 _ (by omega), hR.2.2.1 b i hb hi, hmix, fadR_0 ((hS b i).2 (Or.inr (by omega))), (hS b i).2 (Or.inr (by omega))]
        · have e : mixS F S (k + 1) b i = mixS F S k b i := by
            unfold mixS
            by_cases hq : b < k
            · rw [if_pos hq, if_pos (by omega)]
            · rw [if_neg hq, if_neg (by omega)]
          rw [e, hr2 _ (by omega)]
          exact hR.2.2.1 b i hb hi
      refine ih (k + 1) σ1 (by omega) (hs.tr hs2) (hR.mfn hs2 rfl rfl hst ?_) (hFm.mf hs2 rfl) (by rw [hs1.2.2 58 rfl]; exact hti) (fun j hq => ?_) (by rw [hs1.2.2 61 rfl]; exact hdm)
      · rw [hr2 0 (by omega)]; exact hR.2.2.2.2
      · rw [hr2 j (by omega)]; exact hj j hq
    refine Ev_iload rfl rfl ?_
    refine Ev_aload rfl rfl rfl ?_
    refine Ev_callV rfl rfl rfl rfl rfl (same_n 402) (m_batherMany _ hρ hR.1) ?_
    rintro v115 ρ115 σ115 ⟨rfl, e115, g115⟩
    obtain rfl := e115.symm
    obtain rfl := g115.symm
    refine Ev_icmp_ge rfl (fun h118 => absurd h118 (nI_ge (by omega) (by omega))) (fun h118 => ?_)
    refine Ev_aload rfl rfl rfl ?_
    refine Ev_iload rfl rfl ?_
    refine Ev_iload rfl rfl ?_
    refine Ev_iload rfl rfl ?_
    refine Ev_icmp_ne rfl (fun h127 => ?_) (fun h127 => ?_)
    · refine Ev_const rfl ?_
      refine Ev_callV rfl rfl rfl rfl rfl (same_n 402) (m_fade _ hρ hR hFm hW hWt hWf hle hWb hh hkb) ?_
      rintro v135 ρ135 σ135 ⟨rfl, e135, hs1, hr1, hr2⟩
      obtain rfl := e135.symm
      refine Ev_iincE rfl rfl (nI_1 k) ?_
      refine Ev_goto rfl ?_
      exact nxt _ (by unfold butF; rw [if_neg h127]) _ hs1 hr1 hr2
    · refine Ev_iload rfl rfl ?_
      refine Ev_goto rfl ?_
      refine Ev_callV rfl rfl rfl rfl rfl (same_n 402) (m_fade _ hρ hR hFm hW hWt hWf hle hWb hh hkb) ?_
      rintro v135 ρ135 σ135 ⟨rfl, e135, hs1, hr1, hr2⟩
      obtain rfl := e135.symm
      refine Ev_iincE rfl rfl (nI_1 k) ?_
      refine Ev_goto rfl ?_
      exact nxt _ (by unfold butF; rw [if_pos (Decidable.not_not.mp h127)]) _ hs1 hr1 hr2
/-- the row of the plan that is due: who, in what, by which strength he is ducked (0: he is not) -/
def dWho (B : Bh) (P : Nat → Nat) (h : Nat) : Nat := P (2 * (h % np B))
def dWat (B : Bh) (P : Nat → Nat) (h : Nat) : Nat := P (2 * (h % np B) + 1)
def dkN (B : Bh) (P : Nat → Nat) (S : Str) (W : Nat → Nat) (h tide : Nat) : Nat := if np B = 0 then 0 else dkB B (S (dWho B P h)) (dWho B P h) (W (dWho B P h)) h tide (some (dWat B P h))
def kpH (B : Bh) (P : Nat → Nat) (S : Str) (W : Nat → Nat) (h tide : Nat) (K : Nat × (Nat → Nat)) : Nat × (Nat → Nat) := if dkN B P S W h tide = 0 then K else kpA h (dWho B P h) (dWat B P h) (dkN B P S W h tide) K
def dkC (B : Bh) (P : Nat → Nat) (S : Str) (W : Nat → Nat) (h tide : Nat) : Nat := if dkN B P S W h tide = 0 then 0 else 1
/-- thought of (nothing is kept), or not -/
def MKp (σ : St) (th : Bool) (K : Nat × (Nat → Nat)) : Prop := (th = true → σ.1 326 60 = 1) ∧ (th = false → σ.1 326 60 = 0 ∧ K.1 ≤ 40 ∧ σ.1 365 81 = nI K.1 ∧ KpR (σ.1 365) 82 K)
theorem kpA_40 {h b i v : Nat} {K : Nat × (Nat → Nat)} (hk : K.1 ≤ 40) : (kpA h b i v K).1 ≤ 40 := by
  unfold kpA
  by_cases hc : K.1 = 40
  · rw [if_pos hc]; exact Nat.le_refl _
  · rw [if_neg hc]; show K.1 + 1 ≤ 40; omega
theorem m_isKeptB (d : Nat) {b i h : Nat} {K : Nat × (Nat → Nat)} {σ : St} {th : Bool} (hρ : RF ρ) (hK : MKp σ th K) (hS : MStr σ S) (hb : b < 6) (hi : i < 8) (hh : σ.1 365 0 = nI h) :
    T l X (d + 1) 211 [.ref 326, .int (nI b), .int (nI i)] 402 402 ρ σ (fun v ρ' σ' => v = none ∧ ρ' = ρ ∧ ∃ g, σ' = sI σ 365 g ∧ (∀ j, j < 81 → g j = σ.1 365 j) ∧ (th = true → g = σ.1 365) ∧ MKp (sI σ 365 g) th (kpA h b i (S b i) K)) := by
  cases th with
  | true =>
    refine (m_isKeptNo _ (hK.1 rfl)).mono (fun v ρ' σ' hq => ?_)
    obtain ⟨rfl, rfl, rfl⟩ := hq
    exact ⟨rfl, rfl, σ'.1 365, (sI_self _ _).symm, fun _ _ => rfl, fun _ => rfl, by rw [sI_self]; exact ⟨hK.1, fun q => by cases q⟩⟩
  | false =>
    obtain ⟨k1, k2, k3, k4⟩ := hK.2 rfl
    refine (m_isKept _ hρ k1 hS hb hi hh k2 k4 k3).mono (fun v ρ' σ' hq => ?_)
    obtain ⟨rfl, rfl, g, rfl, g1, g2, g3⟩ := hq
    exact ⟨rfl, rfl, g, rfl, g1, (fun q => by cases q), (fun q => by cases q), fun _ => ⟨by rw [sR_1 _ _ (by decide)]; exact k1, kpA_40 k2, by rw [sR_0]; exact g2, by rw [sR_0]; exact g3⟩⟩
/-- what is left behind an hour -/
def HgQ (B : Bh) (P : Nat → Nat) (S : Str) (W : Nat → Nat) (h tide : Nat) (th : Bool) (K : Nat × (Nat → Nat)) (ρ : Rf) (σ : St) : Po := fun v ρ' σ' => v = none ∧ ρ' = ρ ∧ MF cAN fH σ σ' ∧ MRd σ' B (hrS B P S W h tide) W (h + 1) ∧ (∀ j, 49 ≤ j → j < 81 → σ'.1 365 j = σ.1 365 j) ∧ (th = true → ∀ j, 81 ≤ j → σ'.1 365 j = σ.1 365 j) ∧ MKp σ' th (kpH B P S W h tide K) ∧ σ'.1 326 61 = σ.1 326 61 + nI (dkC B P S W h tide)
theorem MKp.mf {C Fd : Nat → Bool} {σ σ' : St} {th : Bool} {K : Nat × (Nat → Nat)} (H : MKp σ th K) (hs : MF C Fd σ σ') (hF : Fd 60 = false) (hj : ∀ j, 81 ≤ j → σ'.1 365 j = σ.1 365 j) : MKp σ' th K := by
  refine ⟨fun q => by rw [hs.2.2 _ hF]; exact H.1 q, fun q => ?_⟩
  obtain ⟨k1, k2, k3, k4⟩ := H.2 q
  exact ⟨by rw [hs.2.2 _ hF]; exact k1, k2, by rw [hj 81 (by decide)]; exact k3, fun j hq => by rw [hj _ (by omega)]; exact k4 j hq⟩
theorem mk_put {σ : St} {b i x : Nat} {S : Str} (hS : MStr σ S) (hb : b < 6) (hi : i < 8) : MStr (sI σ 365 (upd (σ.1 365) (1 + 8 * b + i) (nI x))) (fun b' => if b' = b then updN (S b) i x else S b') := by
  intro b' i' hb' hi'
  rw [sR_0]
  by_cases hq : b' = b
  · subst hq
    simp only [if_true]
    unfold updN
    by_cases hq2 : i' = i
    · subst hq2; rw [if_pos rfl, pk_us]
    · rw [if_neg hq2, pk_un (by omega)]; exact hS b' i' hb' hi'
  · simp only [if_neg hq]
    rw [pk_un (by omega)]; exact hS b' i' hb' hi'
def dkS (σ : St) (b i x : Nat) : St := sI (sI σ 365 (upd (σ.1 365) (1 + 8 * b + i) (nI x))) 326 (upd ((sI σ 365 (upd (σ.1 365) (1 + 8 * b + i) (nI x))).1 326) 61 ((sI σ 365 (upd (σ.1 365) (1 + 8 * b + i) (nI x))).1 326 61 + 1))
theorem dkS_mf (σ : St) (b i x : Nat) : MF cAN fH σ (dkS σ b i x) := (MF.cell _ (by decide) rfl).tr (MF.put _ rfl)
theorem dkS_now (σ : St) (b i x : Nat) : (dkS σ b i x).1 365 = upd (σ.1 365) (1 + 8 * b + i) (nI x) := by unfold dkS; rw [sR_1 _ _ (by decide), sR_0]
theorem dkS_td (σ : St) (b i x : Nat) : (dkS σ b i x).1 326 58 = σ.1 326 58 := by unfold dkS; rw [sR_0, pk_un (by decide), sR_1 _ _ (by decide)]
theorem dkS_dm (σ : St) (b i x : Nat) : (dkS σ b i x).1 326 61 = σ.1 326 61 + 1 := by unfold dkS; rw [sR_0, pk_us, sR_1 _ _ (by decide)]
theorem m_hourGoes (d : Nat) {h tide : Nat} {σ : St} {P : Nat → Nat} {th : Bool} {K : Nat × (Nat → Nat)} (hρ : RF ρ) (hR : MRd σ B S W h) (hF : MFrm σ B) (hW : WfN B) (hWt : WfT B) (hWf : WfF B) (hS : WfS B S) (hP : WfP B P) (hPc : ∀ j, j < 2 * np B → σ.1 365 (49 + j) = nI (P j)) (hWb : ∀ b, W b ≤ 9) (hh : h ≤ 2000) (hti : σ.1 326 58 = nI tide) (ht9 : tide ≤ 9) (hK : MKp σ th K) :
    T l X (d + 7) 212 [.ref 326, .int 1] 402 402 ρ σ (HgQ B P S W h tide th K ρ σ) := by
  have h8 := hW.1
  have h6 := hW.2.1
  have h16 := hW.2.2.2.1
  have hle : ∀ b i, S b i ≤ 99 := fun b i => (hS b i).1
  -- none is ducked
  have kNo : dkN B P S W h tide = 0 → (∀ b, b < nb B → hrS B P S W h tide b = fadR B (S b) b (W b) h (-1)) → ∀ σ1, MSc σ σ1 → Ev l X (d + 7) 212 112 [.ref 326, .int 1, .int (-1), .int (-1), .int (nI 0)] [] 402 402 402 ρ σ1 (HgQ B P S W h tide th K ρ σ) := by
    intro h0 hrs σ1 hsc
    have hs1 : MF cAN fH σ σ1 := hsc.mf fS_fH
    refine Ev.mono (hg_loop (F := fun b => fadR B (S b) b (W b) h (-1)) hρ hW hWt hWf hS hWb hh ht9 (fun b _ i => by unfold butF; rw [ite_self]) σ1 (nb B) 0 σ1 (by omega) (MF.rf _ _ _) (by rw [mixS_0]; exact hR.sc hsc) (hF.sc hsc) (by rw [hsc.2.2 58 rfl]; exact hti) (fun _ _ => rfl) rfl) (fun v ρ' σ' hq => ?_)
    obtain ⟨rfl, rfl, q1, q2, q3, q4⟩ := hq
    have hj : ∀ j, 49 ≤ j → σ'.1 365 j = σ.1 365 j := fun j hj => by rw [q3 j hj, hsc.1 365 (by decide)]
    refine ⟨rfl, rfl, hs1.tr q1, ?_, fun j h1 h2 => hj j h1, fun _ j h1 => hj j (by omega), ?_, ?_⟩
    · have e : mixS (fun b => fadR B (S b) b (W b) h (-1)) S (nb B) = hrS B P S W h tide := by
        funext b
        unfold mixS
        by_cases hb : b < nb B
        · rw [if_pos hb, hrs b hb]
        · rw [if_neg hb]; unfold hrS; rw [if_neg hb]
      rw [← e]; exact q2
    · unfold kpH; rw [if_pos h0]
      exact hK.mf (hs1.tr q1) rfl (fun j h1 => hj j (by omega))
    · unfold dkC; rw [if_pos h0, q4, hsc.2.2 61 rfl]
      exact (Int32.add_zero _).symm
  by_cases h0 : np B = 0
  · have hd : dkN B P S W h tide = 0 := by unfold dkN; rw [if_pos h0]
    refine T_of rfl ?_
    refine Ev_const rfl ?_
    refine Ev_istore rfl ?_
    refine Ev_const rfl ?_
    refine Ev_istore rfl ?_
    refine Ev_iload rfl rfl ?_
    refine Ev_if_eq rfl (fun h5 => absurd h5 (by decide)) (fun h5 => ?_)
    refine Ev_aload rfl rfl rfl ?_
    refine Ev_callV rfl rfl rfl rfl rfl (same_n 402) (m_planMany _ hρ hR.1) ?_
    rintro v9 ρ9 σ9 ⟨rfl, e9, g9⟩
    obtain rfl := e9.symm
    obtain rfl := g9.symm
    refine Ev_if_le rfl (fun h12 => ?_) (fun h12 => absurd (show nI (np B) ≤ 0 by rw [h0]; decide) h12)
    refine Ev_const rfl ?_
    refine Ev_istore rfl ?_
    exact kNo hd (fun b hb => by unfold hrS pfM; rw [if_pos hb, if_pos h0]; rfl) σ (MSc.rf σ)
  · have hnp := Nat.pos_of_ne_zero h0
    have hr := Nat.mod_lt h hnp
    obtain ⟨hwb, hwi⟩ := hP _ hr
    have hc1 : σ.1 365 (49 + 2 * (h % np B)) = nI (dWho B P h) := hPc _ (by omega)
    have hc2 : σ.1 365 (49 + 2 * (h % np B) + 1) = nI (dWat B P h) := hPc (2 * (h % np B) + 1) (by omega)
    have hwb' : dWho B P h < nb B := hwb
    have hwi' : dWat B P h < ni B := hwi
    have hpf : ∀ b, b < nb B → pfM B P h b = if b = dWho B P h then some (dWat B P h) else none := by
      intro b hb
      unfold pfM
      rw [if_neg h0]
      by_cases hq : b = dWho B P h
      · rw [if_pos hq, if_pos (show P (2 * (h % np B)) = b from hq.symm)]; rfl
      · rw [if_neg hq, if_neg (fun q => hq (show b = P (2 * (h % np B)) from q.symm))]
    have kYes : rdM B (S (dWho B P h)) (dWho B P h) (W (dWho B P h)) h tide (dWat B P h) = true → ∀ σ1, MSc σ σ1 → ∀ g, (∀ j, j < 81 → g j = (dkS σ1 (dWho B P h) (dWat B P h) (kpM B (S (dWho B P h)) (dWho B P h) (W (dWho B P h)) h tide (dWat B P h))).1 365 j) → (th = true → g = (dkS σ1 (dWho B P h) (dWat B P h) (kpM B (S (dWho B P h)) (dWho B P h) (W (dWho B P h)) h tide (dWat B P h))).1 365) →
        MKp (sI (dkS σ1 (dWho B P h) (dWat B P h) (kpM B (S (dWho B P h)) (dWho B P h) (W (dWho B P h)) h tide (dWat B P h))) 365 g) th (kpA h (dWho B P h) (dWat B P h) (kpM B (S (dWho B P h)) (dWho B P h) (W (dWho B P h)) h tide (dWat B P h)) K) →
        Ev l X (d + 7) 212 112 [.ref 326, .int 1, .int (nI (dWho B P h)), .int (nI (dWat B P h)), .int (nI 0)] [] 402 402 402 ρ (sI (dkS σ1 (dWho B P h) (dWat B P h) (kpM B (S (dWho B P h)) (dWho B P h) (W (dWho B P h)) h tide (dWat B P h))) 365 g) (HgQ B P S W h tide th K ρ σ) := by
      intro hrd σ1 hsc g hg1 hg2 hg3
      generalize hx : kpM B (S (dWho B P h)) (dWho B P h) (W (dWho B P h)) h tide (dWat B P h) = x at *
      have hx99 : 1 ≤ x ∧ x ≤ 99 := hx ▸ kpM_le _ _ _ _ _ _ _
      have hdk : dkN B P S W h tide = x := by unfold dkN; rw [if_neg h0, dkB_s, hrd]; exact hx
      generalize hS1 : (fun b' => if b' = dWho B P h then updN (S (dWho B P h)) (dWat B P h) x else S b' : Str) = S1
      have hS1w : S1 (dWho B P h) = updN (S (dWho B P h)) (dWat B P h) x := by rw [← hS1]; exact if_pos rfl
      have hS1n : ∀ b, b ≠ dWho B P h → S1 b = S b := fun b hb => by rw [← hS1]; exact if_neg hb
      have hS1f : WfS B S1 := by
        intro b i
        by_cases hb : b = dWho B P h
        · rw [hb, hS1w]
          refine ⟨updN_le (hle _) hx99.2 i, fun q => ?_⟩
          unfold updN
          rw [if_neg (by omega)]
          exact (hS _ i).2 q
        · rw [hS1n b hb]; exact hS b i
      have hs1 : MF cAN fH σ σ1 := hsc.mf fS_fH
      have hs2 : MF cAN fH σ (sI (dkS σ1 (dWho B P h) (dWat B P h) x) 365 g) := (hs1.tr (dkS_mf _ _ _ _)).tr (MF.cell _ (by decide) rfl)
      have hst : MStr (dkS σ1 (dWho B P h) (dWat B P h) x) S1 := by
        intro b i hb hi
        have := mk_put (x := x) (hR.sc hsc).2.2.1 (b := dWho B P h) (i := dWat B P h) (by omega) (by omega) b i hb hi
        rw [sR_0] at this
        rw [dkS_now, this, ← hS1]
      have hst2 : MStr (sI (dkS σ1 (dWho B P h) (dWat B P h) x) 365 g) S1 := fun b i hb hi => by rw [sR_0, hg1 _ (by omega)]; exact hst b i hb hi
      have hlow : ∀ j, j = 0 ∨ 49 ≤ j → (dkS σ1 (dWho B P h) (dWat B P h) x).1 365 j = σ.1 365 j := fun j hj => by rw [dkS_now, pk_un (by omega), hsc.1 365 (by decide)]
      refine Ev.mono (hg_loop (F := fun b => fadR B (S1 b) b (W b) h (butF (nI (dWho B P h)) (nI (dWat B P h)) b)) hρ hW hWt hWf hS1f hWb hh ht9 (fun b _ i => rfl) _ (nb B) 0 _ (by omega) (MF.rf _ _ _) (by rw [mixS_0]; exact hR.mfn hs2 rfl rfl hst2 (by rw [sR_0, hg1 0 (by decide), hlow 0 (Or.inl rfl)]; exact hR.2.2.2.2)) (hF.mf hs2 rfl) (by rw [sR_1 _ _ (by decide), dkS_td, hsc.2.2 58 rfl]; exact hti) (fun _ _ => rfl) rfl) (fun v ρ' σ' hq => ?_)
      obtain ⟨rfl, rfl, q1, q2, q3, q4⟩ := hq
      refine ⟨rfl, rfl, hs2.tr q1, ?_, fun j h1 h2 => ?_, fun ht j h1 => ?_, ?_, ?_⟩
      · have e : mixS (fun b => fadR B (S1 b) b (W b) h (butF (nI (dWho B P h)) (nI (dWat B P h)) b)) S1 (nb B) = hrS B P S W h tide := by
          funext b
          unfold mixS hrS
          by_cases hb : b < nb B
          · rw [if_pos hb, if_pos hb, hpf b hb]
            by_cases hq : b = dWho B P h
            · rw [if_pos hq, hq]
              show fadR B (S1 (dWho B P h)) (dWho B P h) (W (dWho B P h)) h (butF (nI (dWho B P h)) (nI (dWat B P h)) (dWho B P h)) = _
              rw [hS1w]
              rw [hrB_s, hrd, hx]
              unfold butF
              rw [if_pos rfl]
              rfl
            · rw [if_neg hq]
              show fadR B (S1 b) b (W b) h (butF (nI (dWho B P h)) (nI (dWat B P h)) b) = _
              rw [hS1n b hq]
              rw [hrB_n]
              unfold butF
              rw [if_neg (fun q => hq ((nI_eq (by omega) (by omega)).mp q))]
          · rw [if_neg hb, if_neg hb, hS1n b (by omega)]
        rw [← e]; exact q2
      · rw [q3 j h1, sR_0, hg1 j h2, hlow j (Or.inr h1)]
      · rw [q3 j (by omega), sR_0, hg2 ht, hlow j (Or.inr (by omega))]
      · unfold kpH; rw [hdk, if_neg (by omega)]
        exact hg3.mf q1 rfl (fun j h1 => q3 j (by omega))
      · unfold dkC; rw [hdk, if_neg (by omega), q4, sR_1 _ _ (by decide), dkS_dm, hsc.2.2 61 rfl]; rfl
    refine T_of rfl ?_
    refine Ev_const rfl ?_
    refine Ev_istore rfl ?_
    refine Ev_const rfl ?_
    refine Ev_istore rfl ?_
    refine Ev_iload rfl rfl ?_
    refine Ev_if_eq rfl (fun h5 => absurd h5 (by decide)) (fun h5 => ?_)
    refine Ev_aload rfl rfl rfl ?_
    refine Ev_callV rfl rfl rfl rfl rfl (same_n 402) (m_planMany _ hρ hR.1) ?_
    rintro v9 ρ9 σ9 ⟨rfl, e9, g9⟩
    obtain rfl := e9.symm
    obtain rfl := g9.symm
    refine Ev_if_le rfl (fun h12 => absurd h12 (nI_nle hnp (by omega))) (fun h12 => ?_)
    refine Ev_const rfl ?_
    refine Ev_const rfl ?_
    refine Ev_aload rfl rfl rfl ?_
    refine Ev_getR rfl (by first | rfl | assumption) (hρ _ _ _ rfl) ?_
    refine Ev_const rfl ?_
    refine Ev_iald rfl (by first | rfl | assumption) (vp_in_nI (n := 0) (by decide) (by decide)) ?_
    refine Ev_norm hR.2.2.2.2 ?_
    refine Ev_aload rfl rfl rfl ?_
    refine Ev_callV rfl rfl rfl rfl rfl (same_n 402) (m_planMany _ hρ hR.1) ?_
    rintro v25 ρ25 σ25 ⟨rfl, e25, g25⟩
    obtain rfl := e25.symm
    obtain rfl := g25.symm
    refine Ev_irem rfl (nI_ne0 hnp (by omega)) ?_
    refine Ev_norm (pk_rem (by omega) hnp (by omega)) ?_
    refine Ev_imul rfl ?_
    refine Ev_norm (pk_mul 2 (h % np B)) ?_
    refine Ev_iadd rfl ?_
    refine Ev_norm (nI_add 49 (2 * (h % np B))) ?_
    refine Ev_istore rfl ?_
    refine Ev_aload rfl rfl rfl ?_
    refine Ev_aload rfl rfl rfl ?_
    refine Ev_getR rfl (by first | rfl | assumption) (hρ _ _ _ rfl) ?_
    refine Ev_iload rfl rfl ?_
    refine Ev_iald rfl (by first | rfl | assumption) (vp_in_nI (n := 49 + 2 * (h % np B)) (show 49 + 2 * (h % np B) < 242 by omega) (by decide)) ?_
    refine Ev_norm (by rw [nI_clamp (by omega)]; exact hc1 : _ = nI (dWho B P h)) ?_
    refine Ev_aload rfl rfl rfl ?_
    refine Ev_getR rfl (by first | rfl | assumption) (hρ _ _ _ rfl) ?_
    refine Ev_iload rfl rfl ?_
    refine Ev_const rfl ?_
    refine Ev_iadd rfl ?_
    refine Ev_norm (nI_1 (49 + 2 * (h % np B))) ?_
    refine Ev_iald rfl (by first | rfl | assumption) (vp_in_nI (n := 49 + 2 * (h % np B) + 1) (show 49 + 2 * (h % np B) + 1 < 242 by omega) (by decide)) ?_
    refine Ev_norm (by rw [nI_clamp (by omega)]; exact hc2 : _ = nI (dWat B P h)) ?_
    refine Ev_callV rfl rfl rfl rfl rfl (same_n 402) (m_isReady _ hρ hR hF hW hWt hWf hle hWb hh hti ht9 hwb' hwi') ?_
    rintro v50 ρ50 σ50 ⟨rfl, e50, hsc⟩
    obtain rfl := e50.symm
    refine Ev_if_eq rfl (fun h53 => ?_) (fun h53 => ?_)
    · refine Ev_const rfl ?_
      refine Ev_istore rfl ?_
      exact kNo (by unfold dkN; rw [if_neg h0, dkB_s]; cases hq : rdM B (S (dWho B P h)) (dWho B P h) (W (dWho B P h)) h tide (dWat B P h) with | false => rfl | true => (rw [hq] at h53; exact absurd h53 (by decide))) (fun b hb => by
      unfold hrS
      rw [if_pos hb, hpf b hb]
      by_cases hq : b = dWho B P h
      · rw [if_pos hq, hq]
        rw [hrB_s]
        cases hq : rdM B (S (dWho B P h)) (dWho B P h) (W (dWho B P h)) h tide (dWat B P h) with
        | false => rfl
        | true => (rw [hq] at h53; exact absurd h53 (by decide))
      · rw [if_neg hq]; rfl) _ hsc
    · refine Ev_aload rfl rfl rfl ?_
      refine Ev_getR rfl (by first | rfl | assumption) (hρ _ _ _ rfl) ?_
      refine Ev_iload rfl rfl ?_
      refine Ev_iald rfl (by first | rfl | assumption) (vp_in_nI (n := 49 + 2 * (h % np B)) (show 49 + 2 * (h % np B) < 242 by omega) (by decide)) ?_
      refine Ev_norm (by rw [nI_clamp (by omega), hsc.1 365 (by decide)]; exact hc1 : _ = nI (dWho B P h)) ?_
      refine Ev_istore rfl ?_
      refine Ev_aload rfl rfl rfl ?_
      refine Ev_getR rfl (by first | rfl | assumption) (hρ _ _ _ rfl) ?_
      refine Ev_iload rfl rfl ?_
      refine Ev_const rfl ?_
      refine Ev_iadd rfl ?_
      refine Ev_norm (nI_1 (49 + 2 * (h % np B))) ?_
      refine Ev_iald rfl (by first | rfl | assumption) (vp_in_nI (n := 49 + 2 * (h % np B) + 1) (show 49 + 2 * (h % np B) + 1 < 242 by omega) (by decide)) ?_
      refine Ev_norm (by rw [nI_clamp (by omega), hsc.1 365 (by decide)]; exact hc2 : _ = nI (dWat B P h)) ?_
      refine Ev_istore rfl ?_
      refine Ev_aload rfl rfl rfl ?_
      refine Ev_getR rfl (by first | rfl | assumption) (hρ _ _ _ rfl) ?_
      refine Ev_const rfl ?_
      refine Ev_const rfl ?_
      refine Ev_iload rfl rfl ?_
      refine Ev_imul rfl ?_
      refine Ev_norm (pk_mul 8 (dWho B P h)) ?_
      refine Ev_iadd rfl ?_
      refine Ev_norm (nI_add 1 (8 * dWho B P h)) ?_
      refine Ev_iload rfl rfl ?_
      refine Ev_iadd rfl ?_
      refine Ev_norm (nI_add (1 + 8 * dWho B P h) (dWat B P h)) ?_
      refine Ev_aload rfl rfl rfl ?_
      refine Ev_iload rfl rfl ?_
      refine Ev_iload rfl rfl ?_
      refine Ev_callV rfl rfl rfl rfl rfl (same_n 402) (m_keptOf _ hρ (hR.sc hsc) (hF.sc hsc) hW hWt hWf hle hWb hh (by rw [hsc.2.2 58 rfl]; exact hti) ht9 hwb' hwi') ?_
      rintro v89 ρ89 σ89 ⟨rfl, e89, hsc2⟩
      obtain rfl := e89.symm
      refine Ev_iast rfl (by first | rfl | assumption) (vp_in_nI (n := 1 + 8 * dWho B P h + dWat B P h) (show 1 + 8 * dWho B P h + dWat B P h < 242 by omega) (by decide)) ?_
      rw [nI_clamp (show 1 + 8 * dWho B P h + dWat B P h < 2 ^ 31 by omega)]
      refine Ev_aload rfl rfl rfl ?_
      refine Ev_dup rfl (fun _ q => nomatch q) ?_
      refine Ev_getI rfl (by first | rfl | assumption) ?_
      refine Ev_const rfl ?_
      refine Ev_iadd rfl ?_
      refine Ev_putI rfl (by first | rfl | assumption) ⟨rfl, rfl⟩ rfl ?_
      refine Ev_st rfl (rfl : _ = dkS σ89 (dWho B P h) (dWat B P h) (kpM B (S (dWho B P h)) (dWho B P h) (W (dWho B P h)) h tide (dWat B P h))) ?_
      refine Ev_aload rfl rfl rfl ?_
      refine Ev_iload rfl rfl ?_
      refine Ev_iload rfl rfl ?_
      refine Ev_callV rfl rfl rfl rfl rfl (same_n 402) (m_isKeptB _ hρ (S := fun b' => if b' = dWho B P h then updN (S (dWho B P h)) (dWat B P h) (kpM B (S (dWho B P h)) (dWho B P h) (W (dWho B P h)) h tide (dWat B P h)) else S b') (hK.mf ((((hsc.tr hsc2).mf fS_fH : MF cAN fH σ σ89)).tr (dkS_mf _ _ _ _)) rfl (fun j hj => by rw [dkS_now, pk_un (by omega), (hsc.tr hsc2).1 365 (by decide)])) (fun b' i' hb' hi' => by
      have := mk_put (x := kpM B (S (dWho B P h)) (dWho B P h) (W (dWho B P h)) h tide (dWat B P h)) (hR.sc (hsc.tr hsc2)).2.2.1 (b := dWho B P h) (i := dWat B P h) (by omega) (by omega) b' i' hb' hi'
      rw [sR_0] at this
      rw [dkS_now, this]) (b := dWho B P h) (i := dWat B P h) (by omega) (by omega) (h := h) (by rw [dkS_now, pk_un (by omega), (hsc.tr hsc2).1 365 (by decide)]; exact hR.2.2.2.2)) ?_
      rintro v106 ρ106 σ106 ⟨rfl, e106, g, hg0, hg1, hg2, hg3⟩
      obtain rfl := e106.symm
      subst hg0
      simp only [if_true] at hg3
      rw [show updN (S (dWho B P h)) (dWat B P h) (kpM B (S (dWho B P h)) (dWho B P h) (W (dWho B P h)) h tide (dWat B P h)) (dWat B P h) = kpM B (S (dWho B P h)) (dWho B P h) (W (dWho B P h)) h tide (dWat B P h) from if_pos rfl] at hg3
      refine Ev_const rfl ?_
      refine Ev_istore rfl ?_
      exact kYes (rt_of h53) _ (hsc.tr hsc2) g hg1 hg2 hg3
end S41
