/-! Hours by the seed: the reference; the call. -/
/-- the same but for the moment, what asking leaves, the seed -/
def MG (σ σ' : St) : Prop := (∀ q, q ≠ 326 → cAN q = false → σ'.1 q = σ.1 q) ∧ (∀ q, q ≠ 400 → q ≠ 326 → σ'.2 q = σ.2 q) ∧ (∀ j, j ≠ 75 → σ'.2 326 j = σ.2 326 j) ∧ ∀ j, fH j = false → σ'.1 326 j = σ.1 326 j
theorem MG.tr {σ σ' σ'' : St} (h : MG σ σ') (h2 : MG σ' σ'') : MG σ σ'' := ⟨fun q a b => (h2.1 q a b).trans (h.1 q a b), fun q a b => (h2.2.1 q a b).trans (h.2.1 q a b), fun j a => (h2.2.2.1 j a).trans (h.2.2.1 j a), fun j a => (h2.2.2.2 j a).trans (h.2.2.2 j a)⟩
theorem MF.mg {σ σ' : St} (h : MF cAN fH σ σ') : MG σ σ' := ⟨fun q a b => h.1 q a b, fun q a _ => h.2.1 q a, fun j _ => by rw [h.2.1 326 (by decide)], fun j a => h.2.2 j a⟩
theorem MG.sl (σ : St) (x : Int64) : MG σ (sL σ 326 (vp_updL (σ.2 326) 75 x)) := ⟨fun _ _ _ => rfl, fun q _ h => by rw [sL_2, if_neg h], fun j h => by rw [sL_2, if_pos rfl]; exact if_neg h, fun _ _ => rfl⟩
theorem sd_get (σ : St) (x : Int64) : (sL σ 326 (vp_updL (σ.2 326) 75 x)).2 326 75 = x := by rw [sL_2, if_pos rfl]; exact if_pos rfl
theorem sL_sL (σ : St) (k : Nat) (f g : Nat → Int64) : sL (sL σ k f) k g = sL σ k g := by
  refine Prod.ext rfl (funext fun q => ?_)
  rw [sL_2, sL_2, sL_2]
  by_cases h : q = k
  · rw [if_pos h, if_pos h]
  · rw [if_neg h, if_neg h, if_neg h]
theorem updL_2 (f : Nat → Int64) (k : Nat) (x y : Int64) : vp_updL (vp_updL f k x) k y = vp_updL f k y := by
  funext j
  show (if j = k then y else if j = k then x else f j) = if j = k then y else f j
  by_cases h : j = k
  · rw [if_pos h, if_pos h]
  · rw [if_neg h, if_neg h, if_neg h]
theorem dr2 (σ : St) (x y : Int64) : sL (sL σ 326 (vp_updL (σ.2 326) 75 x)) 326 (vp_updL ((sL σ 326 (vp_updL (σ.2 326) 75 x)).2 326) 75 y) = sL σ 326 (vp_updL (σ.2 326) 75 y) := by
  rw [sL_sL, sL_2, if_pos rfl, updL_2]
/-- a squall's tide laid, by the next draw -/
def tS (σ : St) (x : Nat) : St := sI (sL σ 326 (vp_updL (σ.2 326) 75 (lI ((nx x : Nat) : Int)))) 326 (upd (σ.1 326) 58 (nI (dr (nx x) 10)))
theorem tS_mg (σ : St) (x : Nat) : MG σ (tS σ x) := by
  have h : MF cAN fH (sL σ 326 (vp_updL (σ.2 326) 75 (lI ((nx x : Nat) : Int)))) (tS σ x) := MF.put _ rfl
  exact (MG.sl σ _).tr h.mg
theorem tS_m0 (σ : St) (x : Nat) : MF cN0 fH (sL σ 326 (vp_updL (σ.2 326) 75 (lI ((nx x : Nat) : Int)))) (tS σ x) := MF.put _ rfl
/-- but for the seed -/
theorem tS_mf (σ : St) (x : Nat) : MF cAN fH (sL σ 326 (vp_updL (σ.2 326) 75 (lI ((nx x : Nat) : Int)))) (tS σ x) := MF.put _ rfl
section S61
variable {l : Launch} {X : Cx}
def McI (B : Bh) (P : Nat → Nat) (h k : Nat) (s : Ch) (σ0 σ : St) : Prop := MG σ0 σ ∧ MRd σ B (chN B P h k s).1 (wit B) (h + k) ∧ (∀ j, 49 ≤ j → j < 81 → σ.1 365 j = σ0.1 365 j) ∧ MKp σ false (chN B P h k s).2.1 ∧ σ.2 326 75 = lI (((chN B P h k s).2.2.1 : Nat) : Int)
theorem MFrm.mg {σ σ' : St} {B : Bh} (H : MFrm σ B) (hs : MG σ σ') : MFrm σ' B := by
  unfold MFrm at H ⊢
  rw [hs.1 362 (by decide) rfl, hs.1 363 (by decide) rfl, hs.1 364 (by decide) rfl]; exact H
theorem mch_loop {d n : Nat} {ρ : Rf} {B : Bh} {h : Nat} {s : Ch} {P : Nat → Nat} (hρ : RF ρ) (hW : WfN B) (hWt : WfT B) (hWf : WfF B) (hWb : ∀ b, wit B b ≤ 9) (hP : WfP B P) (h1 : WfS B s.1) (h2 : s.2.1.1 ≤ 40) (h3 : s.2.2.1 < 2147483648) (h4 : s.2.2.2 = 0) (hh : h + n ≤ 2000) (σ0 : St) (hF0 : MFrm σ0 B) (hPc : ∀ j, j < 2 * np B → σ0.1 365 (49 + j) = nI (P j)) :
    ∀ (m k : Nat) (σ : St), k + m = n → McI B P h k s σ0 σ → Ev l X (d + 8) 261 25 [.ref 326, .int (nI n), .int (nI (chN B P h k s).2.2.2), .int (nI k)] [] 402 402 402 ρ σ (fun v ρ' σ' => v = some (.int (nI (chN B P h n s).2.2.2)) ∧ ρ' = ρ ∧ McI B P h n s σ0 σ') := by
  have h16 := hW.2.2.2.1
  intro m
  induction m with
  | zero =>
    intro k σ hk hq
    have hk : k = n := by omega
    subst hk
    refine Ev_iload rfl rfl ?_
    refine Ev_iload rfl rfl ?_
    refine Ev_icmp_ge rfl (fun h27 => ?_) (fun h27 => absurd (nI_le (Nat.le_refl _) (by omega)) h27)
    refine Ev_iload rfl rfl ?_
    exact Ev_ireturn rfl rfl rfl rfl ⟨rfl, rfl, hq⟩
  | succ m ih =>
    intro k σ hk hq
    obtain ⟨q1, q2, q3, q4, q5⟩ := hq
    have n100 := hW.2.2.2.2
    obtain ⟨w1, w2, w3, w4⟩ := chN_wf (h := h) hP h1 h2 h3 k
    have hle : ∀ b i, (chN B P h k s).1 b i ≤ 99 := fun b i => (w1 b i).1
    have hd : dr (nx (chN B P h k s).2.2.1) 100 < 100 := Nat.mod_lt _ (by decide)
    have hd2 : dr (nx (nx (chN B P h k s).2.2.1)) 10 < 10 := Nat.mod_lt _ (by decide)
    refine Ev_iload rfl rfl ?_
    refine Ev_iload rfl rfl ?_
    refine Ev_icmp_ge rfl (fun h27 => absurd h27 (nI_ge (by omega) (by omega))) (fun h27 => ?_)
    refine Ev_aload rfl rfl rfl ?_
    refine Ev_callV rfl rfl rfl rfl rfl (same_n 402) (m_laysTide _ hρ q2 (hF0.mg q1) hW hWt hWf hle hWb (by omega)) ?_
    rintro v31 ρ31 σ31 ⟨rfl, e31, t31⟩
    obtain rfl := e31.symm
    have hx31 : σ31.2 326 75 = lI (((chN B P h k s).2.2.1 : Nat) : Int) := by rw [t31.2.1 326 (by decide)]; exact q5
    have hm31 : MF cAN fH σ σ31 := t31.mf.up
    have hR31 : MRd σ31 B (chN B P h k s).1 (wit B) (h + k) := q2.mf t31.mf rfl rfl
    have hK31 := q4.mf hm31 rfl (fun j _ => by rw [t31.1 365 (by decide)])
    have hF31 : MFrm σ31 B := (hF0.mg q1).mf hm31 rfl
    have hP31 : ∀ j, j < 2 * np B → σ31.1 365 (49 + j) = nI (P j) := fun j hj => by rw [t31.1 365 (by decide), q3 _ (by omega) (by omega)]; exact hPc j hj
    refine Ev_aload rfl rfl rfl ?_
    refine Ev_const rfl ?_
    refine Ev_callV rfl rfl rfl rfl rfl (same_n 402) (m_drawOf _ hx31 w3 (m := 100) (by decide)) ?_
    rintro v37 ρ37 σ37 ⟨rfl, e37, g37⟩
    obtain rfl := e37.symm
    obtain rfl := g37.symm
    refine Ev_aload rfl rfl rfl ?_
    refine Ev_getR rfl (by first | rfl | assumption) (hρ _ _ _ rfl) ?_
    refine Ev_const rfl ?_
    refine Ev_iald rfl (by first | rfl | assumption) (vp_in_nI (n := 9) (by decide) (by decide)) ?_
    refine Ev_norm (show _ = nI (sq B) from hR31.1 4 (by decide)) ?_
    refine Ev_icmp_ge rfl (fun h47 => ?_) (fun h47 => ?_)
    · refine Ev_aload rfl rfl rfl ?_
      refine Ev_const rfl ?_
      refine Ev_callV rfl rfl rfl rfl rfl (same_n 402) (m_hourGoes _ (th := false) (P := P) hρ (σ := sL σ31 326 (vp_updL (σ31.2 326) 75 (lI ((nx (chN B P h k s).2.2.1 : Nat) : Int)))) hR31 hF31 hW hWt hWf w1 hP hP31 hWb (by omega) t31.2.2.2 (tdM_le B (h + k)) hK31) ?_
      rintro v65 ρ65 σ65 ⟨rfl, e65, r1, r2, r3, r4, r5, r6⟩
      obtain rfl := e65.symm
      refine Ev_iincE rfl rfl (nI_1 k) ?_
      refine Ev_goto rfl ?_
      have hc : ¬ dr (nx (chN B P h k s).2.2.1) 100 < sq B := fun q => absurd h47 (nI_ge q (by omega))
      have e : chN B P h (k + 1) s = (hrS B P (chN B P h k s).1 (wit B) (h + k) (tdM B (h + k)), kpH B P (chN B P h k s).1 (wit B) (h + k) (tdM B (h + k)) (chN B P h k s).2.1, nx (chN B P h k s).2.2.1, (chN B P h k s).2.2.2) := by
        show ch1 B P (h + k) (chN B P h k s) = _
        unfold ch1 chT
        rw [if_neg hc, if_neg hc, if_neg hc]
      have hi := ih (k + 1) σ65 (by omega)
      unfold McI at hi
      rw [e] at hi
      refine hi ⟨(q1.tr hm31.mg).tr ((MG.sl σ31 _).tr r1.mg), r2, fun j h1 h2 => ?_, r5, ?_⟩
      · rw [r3 j h1 h2]
        show σ31.1 365 j = _
        rw [t31.1 365 (by decide)]; exact q3 j h1 h2
      · rw [r1.2.1 326 (by decide)]; exact sd_get σ31 _
    · refine Ev_aload rfl rfl rfl ?_
      refine Ev_aload rfl rfl rfl ?_
      refine Ev_const rfl ?_
      refine Ev_callV rfl rfl rfl rfl rfl (same_n 402) (m_drawOf _ (sd_get _ _) (nx_lt _) (m := 10) (by decide)) ?_
      rintro v54 ρ54 σ54 ⟨rfl, e54, g54⟩
      obtain rfl := e54.symm
      obtain rfl := g54.symm
      rw [dr2]
      refine Ev_putI rfl (by first | rfl | assumption) ⟨rfl, rfl⟩ rfl ?_
      refine Ev_st rfl (show _ = tS σ31 (nx (chN B P h k s).2.2.1) from rfl) ?_
      refine Ev_iincE rfl rfl (nI_1 _) ?_
      refine Ev_aload rfl rfl rfl ?_
      refine Ev_const rfl ?_
      refine Ev_callV rfl rfl rfl rfl rfl (same_n 402) (m_hourGoes _ (th := false) (P := P) hρ (σ := tS σ31 (nx (chN B P h k s).2.2.1)) (MRd.mf (σ := sL σ31 326 (vp_updL (σ31.2 326) 75 (lI ((nx (nx (chN B P h k s).2.2.1) : Nat) : Int)))) hR31 (tS_m0 σ31 (nx (chN B P h k s).2.2.1)) rfl rfl) (MFrm.mf (σ := sL σ31 326 (vp_updL (σ31.2 326) 75 (lI ((nx (nx (chN B P h k s).2.2.1) : Nat) : Int)))) hF31 (tS_m0 σ31 (nx (chN B P h k s).2.2.1)) rfl) hW hWt hWf w1 hP hP31 hWb (by omega) (tide := dr (nx (nx (chN B P h k s).2.2.1)) 10) (by unfold tS; rw [sR_0, pk_us]) (by omega) (MKp.mf (σ := sL σ31 326 (vp_updL (σ31.2 326) 75 (lI ((nx (nx (chN B P h k s).2.2.1) : Nat) : Int)))) hK31 (tS_mf σ31 (nx (chN B P h k s).2.2.1)) rfl (fun _ _ => rfl))) ?_
      rintro v65 ρ65 σ65 ⟨rfl, e65, r1, r2, r3, r4, r5, r6⟩
      obtain rfl := e65.symm
      refine Ev_iincE rfl rfl (nI_1 k) ?_
      refine Ev_goto rfl ?_
      have hc : dr (nx (chN B P h k s).2.2.1) 100 < sq B := Decidable.byContradiction fun q => h47 (nI_le (by omega) (by omega))
      have e : chN B P h (k + 1) s = (hrS B P (chN B P h k s).1 (wit B) (h + k) (dr (nx (nx (chN B P h k s).2.2.1)) 10), kpH B P (chN B P h k s).1 (wit B) (h + k) (dr (nx (nx (chN B P h k s).2.2.1)) 10) (chN B P h k s).2.1, nx (nx (chN B P h k s).2.2.1), (chN B P h k s).2.2.2 + 1) := by
        show ch1 B P (h + k) (chN B P h k s) = _
        unfold ch1 chT
        rw [if_pos hc, if_pos hc, if_pos hc]
      have hi := ih (k + 1) σ65 (by omega)
      unfold McI at hi
      rw [e] at hi
      refine hi ⟨(q1.tr hm31.mg).tr (((tS_mg σ31 _)).tr r1.mg), r2, fun j h1 h2 => ?_, r5, ?_⟩
      · rw [r3 j h1 h2]
        show (tS σ31 _).1 365 j = _
        unfold tS
        rw [sR_1 _ _ (by decide)]
        show σ31.1 365 j = _
        rw [t31.1 365 (by decide)]; exact q3 j h1 h2
      · rw [r1.2.1 326 (by decide)]; exact sd_get σ31 _
/-- the reference, its seed told as it was -/
theorem RM.mg {ρ : Rf} {σ σ' : St} {A : Ab} (H : RM ρ σ A) {N : Mo} {P : Nat × (Nat → Mo)} {x : Nat} {σ1 : St} (h1 : MF scK scG σ σ1) (hg : MG σ1 σ') (hn : MMo (σ'.1 365) (aB A) N) (hp : MPas σ' (aB A) P) (hx : σ'.2 326 75 = lI ((x : Nat) : Int)) : RM ρ σ' (sX (sP (sN A N) P) x) := by
  have hs : MF scK scG σ (sL σ' 326 (vp_updL (σ'.2 326) 75 (σ.2 326 75))) := by
    refine ⟨fun q hq hc => ?_, fun q hq => ?_, fun j hj => ?_⟩
    · show σ'.1 q = σ.1 q
      rw [hg.1 q hq (cAN_K hc), h1.1 q hq hc]
    · by_cases hq2 : q = 326
      · subst hq2
        rw [sL_2, if_pos rfl]
        funext j
        show (if j = 75 then σ.2 326 75 else σ'.2 326 j) = σ.2 326 j
        by_cases hj : j = 75
        · rw [if_pos hj, hj]
        · rw [if_neg hj, hg.2.2.1 j hj, h1.2.1 326 (by decide)]
      · rw [sL_2, if_neg hq2, hg.2.1 q hq hq2, h1.2.1 q hq]
    · show σ'.1 326 j = σ.1 326 j
      rw [hg.2.2.2 j (fH_G hj), h1.2.2 j hj]
  have h2 := (H.nowP hs (N := N) (P := P) hn hp).sd x
  have e : sL (sL σ' 326 (vp_updL (σ'.2 326) 75 (σ.2 326 75))) 326 (vp_updL ((sL σ' 326 (vp_updL (σ'.2 326) 75 (σ.2 326 75))).2 326) 75 (lI ((x : Nat) : Int))) = σ' := by
    rw [dr2, ← hx]
    refine Prod.ext rfl (funext fun q => ?_)
    rw [sL_2]
    by_cases hq : q = 326
    · subst hq
      rw [if_pos rfl]
      funext j
      show (if j = 75 then σ'.2 326 75 else σ'.2 326 j) = σ'.2 326 j
      by_cases hj : j = 75
      · rw [if_pos hj, hj]
      · rw [if_neg hj]
    · rw [if_neg hq]
  rw [e] at h2
  exact h2
def nChM (N : Mo) (n : Nat) (s : Ch) : Mo := (N.1 + n, s.1, N.2.2.1, s.2.1)
theorem op_chance (a : Int32) : OpI l X InvA 135 261 [.int a] := by
  refine op_of (fun A q ρ σ hA hC hρ => ?_)
  have hW := hA.1.1
  have hWt := hA.1.2.1
  have hWf := hA.1.2.2.1
  have n16 := hW.2.2.2.1
  have nh : (aN A).1 ≤ 2000 := Nat.le_trans hA.2.1.1 (by decide)
  have hSw := hA.2.1.2.1
  have hPw := hA.2.1.2.2.1
  have hhr := hC.2.2.2.1.1
  have hx31 := hA.2.2.2.2.1
  by_cases h : cmF (aN A).1 a 1 100 = true
  · obtain ⟨n, hn1, hn, hn9, rfl⟩ := cmF_of (by decide) h
    obtain ⟨s, hs⟩ : ∃ s : Ch, s = ((aN A).2.1, (aN A).2.2.2, aX A, 0) := ⟨_, rfl⟩
    have s1 : WfS (aB A) s.1 := by rw [hs]; exact hSw
    have s2 : s.2.1.1 ≤ 40 := by rw [hs]; exact hA.2.1.2.2.2
    have s3 : s.2.2.1 < 2147483648 := by rw [hs]; exact hx31
    have s4 : s.2.2.2 = 0 := by rw [hs]
    obtain ⟨w1, w2, w3, w4⟩ := chN_wf (h := (aN A).1) hPw s1 s2 s3 n
    refine ⟨nI (chN (aB A) (aN A).2.2.1 (aN A).1 n s).2.2.2, sX (sP (sN A (nChM (aN A) n (chN (aB A) (aN A).2.2.1 (aN A).1 n s))) (pushP (aP A) (aN A))) (chN (aB A) (aN A).2.2.1 (aN A).1 n s).2.2.1, (hA.nowP (N := nChM (aN A) n (chN (aB A) (aN A).2.2.1 (aN A).1 n s)) ⟨hn9, w1, hPw, w2⟩).sd w3, ?_, fun ρ σ hM => ?_⟩
    · refine T_of rfl ?_
      refine Ev_aload rfl rfl rfl ?_
      refine Ev_iload rfl rfl ?_
      refine Ev_const rfl ?_
      refine Ev_const rfl ?_
      refine Ev_callV rfl rfl rfl rfl rfl (same_n 402) (t_comes _ _ (lo := 1) (hi := 100) hρ hhr nh (by decide) (by decide)) ?_
      rintro v5 ρ5 σ5 ⟨rfl, e5, g5⟩
      obtain rfl := e5.symm
      obtain rfl := g5.symm
      refine Ev_if_ne rfl (fun h8 => ?_) (fun h8 => absurd (by rw [h]; decide) h8)
      refine Ev_aload rfl rfl rfl ?_
      refine Ev_getR rfl (by first | rfl | assumption) (hρ _ _ _ rfl) ?_
      refine Ev_aload rfl rfl rfl ?_
      refine Ev_getR rfl (by first | rfl | assumption) (hρ _ _ _ rfl) ?_
      refine Ev_callV rfl rfl rfl rfl rfl (same_n 402) (t_push _ hρ hW hC.2.2.2.1 hC.2.2.2.2.1 hA.2.2.1.1) ?_
      rintro v25 ρ25 σ25 ⟨rfl, e25, p1, p2, p3⟩
      obtain rfl := e25.symm
      refine Ev_const rfl ?_
      refine Ev_istore rfl ?_
      refine Ev_const rfl ?_
      refine Ev_istore rfl ?_
      have hR' := hC.2.1.eq (fun k hk => p3 k (by omega)) ρ hρ rfl
      have hN' : CMo σ25 32 (aB A) (aN A) := hC.2.2.2.1.eq (fun r hr => p3 _ (by omega))
      have hlp := ch_loop (l := l) (X := X) (d := 94) (n := n) (h := (aN A).1) (s := s) (P := (aN A).2.2.1) hC.1.1 hW hWt hWf hPw s1 s2 s3 s4 (by omega) σ25 n 0 σ25 (by omega) (CF.rf _ _) hR' (by rw [hs]; exact hN'.now) (by rw [hs, p3 0 (by omega)]; exact hC.2.2.2.2.2.2.1)
      rw [show (chN (aB A) (aN A).2.2.1 (aN A).1 0 s).2.2.2 = 0 from s4] at hlp
      refine Ev.mono hlp (fun v ρ' σ' hq => ?_)
      obtain ⟨rfl, rfl, q1, q2, q3⟩ := hq
      have f1 : CF (fun k j => cNP k j || c0 16 k j) σ σ' := ((fr_push p2 p3).wk (fun k j h => (Bool.or_eq_false_iff.mp h).1)).tr (q1.wk (fun k j h => by
        have h := Bool.or_eq_false_iff.mp h
        unfold cS
        rw [cP_NP h.1, h.2]; rfl))
      exact ⟨rfl, hρ, f1.upM (fun k j hk => by
        show (cNP k j || c0 16 k j) = false
        rw [cNP_f (cX_324 hk) (by omega), c0_ne (by omega)]; rfl), q, sX_all hC f1 q2.mo (p1.cf q1 (fun k j k1 k2 => by
        unfold cS cP
        rw [cL_X (cX_f (by omega)), nbeq (show k ≠ 42 by omega), nbeq (show k ≠ 32 by omega), c0_ne (by omega)]
        cases hq2 : Nat.ble k 39
        · cases Nat.ble 34 k <;> rfl
        · rw [Nat.ble_eq] at hq2; omega)) q3⟩
    · have hρ := hM.1
      refine T_of rfl ?_
      refine Ev_aload rfl rfl rfl ?_
      refine Ev_iload rfl rfl ?_
      refine Ev_const rfl ?_
      refine Ev_const rfl ?_
      refine Ev_callV rfl rfl rfl rfl rfl (same_n 402) (m_isAhead _ _ (lo := 1) (hi := 100) hρ hM.2.2.2.1.1 nh (by decide) (by decide)) ?_
      rintro v5 ρ5 σ5 ⟨rfl, e5, g5⟩
      obtain rfl := e5.symm
      obtain rfl := g5.symm
      refine Ev_if_ne rfl (fun h8 => ?_) (fun h8 => absurd (by rw [h]; decide) h8)
      refine Ev_aload rfl rfl rfl ?_
      refine Ev_callV rfl rfl rfl rfl rfl (same_n 402) (m_stores _ hρ hW hM.2.2.2.1 hA.2.1.2.2.2 (MPas.st hM) hA.2.2.1.1 (h40s hA)) ?_
      rintro v18 ρ18 σ18 ⟨rfl, e18, p1, p2⟩
      obtain rfl := e18.symm
      have hn18 : σ18.1 365 = σ.1 365 := p2.1 365 (by decide) rfl
      have hk18 := (hM.kp hA).mf p2 rfl (fun j _ => by rw [hn18])
      refine Ev_const rfl ?_
      refine Ev_istore rfl ?_
      refine Ev_const rfl ?_
      refine Ev_istore rfl ?_
      have hlp := mch_loop (l := l) (X := X) (d := 92) (n := n) (h := (aN A).1) (s := s) (P := (aN A).2.2.1) hρ hW hWt hWf (wf9 hA) hPw s1 s2 s3 s4 (by omega) σ18 (hM.2.1.2.2.1.mf p2 rfl) (fun j hj => by rw [hn18]; exact hM.pl j hj) n 0 σ18 (by omega) ⟨⟨fun _ _ _ => rfl, fun _ _ _ => rfl, fun _ _ => rfl, fun _ _ => rfl⟩, by rw [hs]; exact (hM.rd hW).mf p2 rfl rfl, fun _ _ _ => rfl, by rw [hs]; exact hk18, by rw [hs, p2.2.1 326 (by decide)]; exact hM.2.2.2.2.2.2.1⟩
      rw [show (chN (aB A) (aN A).2.2.1 (aN A).1 0 s).2.2.2 = 0 from s4] at hlp
      refine Ev.mono hlp (fun v ρ' σ' hq => ?_)
      obtain ⟨rfl, rfl, g1, g2, g3, g4, g5⟩ := hq
      obtain ⟨k1, k2, k3, k4⟩ := g4.2 rfl
      have hn : MMo (σ'.1 365) (aB A) (nChM (aN A) n (chN (aB A) (aN A).2.2.1 (aN A).1 n s)) := ⟨g2.2.2.2.2, g2.2.2.1, fun j hj => by rw [g3 _ (by omega) (by omega), hn18]; exact hM.pl j hj, k3, k4⟩
      have hp : MPas σ' (aB A) (pushP (aP A) (aN A)) := by
        unfold MPas at p1 ⊢
        rw [g1.2.2.2 _ rfl, g1.2.2.2 74 rfl, g1.1 374 (by decide) rfl]; exact p1
      refine ⟨rfl, rfl, fun k hk => ?_, hM.mg (mf_store p2) g1 hn hp g5⟩
      rw [g1.1 k (by omega) (by unfold cAN; rw [nbeq (by omega), nbeq (by omega)]; rfl)]
      exact (scK_up (mf_store p2)) k hk
  · refine ⟨-1, sU A 3, hA.refu 3, ?_, fun ρ σ hM => ?_⟩
    · refine T_of rfl ?_
      refine Ev_aload rfl rfl rfl ?_
      refine Ev_iload rfl rfl ?_
      refine Ev_const rfl ?_
      refine Ev_const rfl ?_
      refine Ev_callV rfl rfl rfl rfl rfl (same_n 402) (t_comes _ _ (lo := 1) (hi := 100) hρ hhr nh (by decide) (by decide)) ?_
      rintro v5 ρ5 σ5 ⟨rfl, e5, g5⟩
      obtain rfl := e5.symm
      obtain rfl := g5.symm
      refine Ev_if_ne rfl (fun h8 => absurd (by rw [Bool.eq_false_iff.mpr h]; rfl) h8) (fun h8 => ?_)
      refine Ev_aload rfl rfl rfl ?_
      refine Ev_const rfl ?_
      refine Ev_callV rfl rfl rfl rfl rfl (same_n 402) (t_refuse _ hρ (w := 3) (by decide)) ?_
      rintro v13 ρ13 σ13 ⟨rfl, e13, g13⟩
      obtain rfl := e13.symm
      obtain rfl := g13.symm
      exact Ev_ireturn rfl rfl rfl rfl ⟨rfl, hρ, upM.bump _, q, hC.refu (by decide)⟩
    · have hρ := hM.1
      refine T_of rfl ?_
      refine Ev_aload rfl rfl rfl ?_
      refine Ev_iload rfl rfl ?_
      refine Ev_const rfl ?_
      refine Ev_const rfl ?_
      refine Ev_callV rfl rfl rfl rfl rfl (same_n 402) (m_isAhead _ _ (lo := 1) (hi := 100) hρ hM.2.2.2.1.1 nh (by decide) (by decide)) ?_
      rintro v5 ρ5 σ5 ⟨rfl, e5, g5⟩
      obtain rfl := e5.symm
      obtain rfl := g5.symm
      refine Ev_if_ne rfl (fun h8 => absurd (by rw [Bool.eq_false_iff.mpr h]; rfl) h8) (fun h8 => ?_)
      refine Ev_aload rfl rfl rfl ?_
      refine Ev_const rfl ?_
      refine Ev_callV rfl rfl rfl rfl rfl (same_n 402) (m_refuses _ hρ (w := 3) (by decide)) ?_
      rintro v13 ρ13 σ13 ⟨rfl, e13, g13⟩
      obtain rfl := e13.symm
      obtain rfl := g13.symm
      exact Ev_ireturn rfl rfl rfl rfl ⟨rfl, rfl, upC.bump _, hM.refu (by decide)⟩
end S61
