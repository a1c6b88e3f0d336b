/-! A formula read by the reference: a sum. -/
section S88zn
variable {l : Launch} {X : Cx} {ρ : Rf} {U : Tx}
theorem m_qSums (d : Nat) {σ : St} {out W : List Nat} {o k f : Nat} {p : Nat × Nat} {r : Ys} {b0 : Int32} (hρ : RF ρ) (hT : TxW U) (hk : k < 5) (hv : okT W) (H : MTt σ U (.inr p)) (hW : Wds σ) (hK : σ.1 326 50 = nI k) (hb : σ.1 326 104 = b0) (hq : MPq σ out W o) (hl : out.length + W.length ≤ p.1) (hr : runY U k f (0, (.inr p, out, [], o)) = some r) :
    T l X (d + 6) 275 [.ref 326] 402 402 ρ σ (fun v' ρ' σ' => v' = none ∧ ρ' = ρ ∧ MTt σ' U r.1 ∧ (isOk r.1 = true → MPc σ' (r.2.1 ++ r.2.2.1) W ∧ σ'.1 326 103 = nI r.2.2.2 ∧ (r.2.1 ++ r.2.2.1).length + W.length ≤ rpos r.1) ∧ (isOk r.1 = false → CdB σ') ∧ MB σ σ') := by
  have h16 := hT.1
  have hput : ∀ (s : St) (x : Int32), MZ s (sI s 326 (upd (s.1 326) 104 x)) := fun s x => MF.put x rfl
  have pc_put : ∀ (s : St) (x : Int32) (a b : List Nat), MPc s a b → MPc (sI s 326 (upd (s.1 326) 104 x)) a b := fun s x a b h => ⟨by rw [sR_0, pk_un (by decide)]; exact h.1, by rw [sR_1 _ _ (by decide)]; exact h.2.1, by rw [sR_0, pk_un (by decide)]; exact h.2.2.1, by rw [sR_1 _ _ (by decide)]; exact h.2.2.2⟩
  -- the base put back
  have fin : ∀ (σ2 : St) (L2 : Int32), MTt σ2 U r.1 → (isOk r.1 = true → MPc σ2 (r.2.1 ++ r.2.2.1) W ∧ σ2.1 326 103 = nI r.2.2.2 ∧ (r.2.1 ++ r.2.2.1).length + W.length ≤ rpos r.1) → (isOk r.1 = false → CdB σ2) → MB (sI σ 326 (upd (σ.1 326) 104 (nI W.length))) σ2 → Ev l X (d + 6) 275 78 [.ref 326, .int b0, .int L2] [] 402 402 402 ρ σ2 (fun v' ρ' σ' => v' = none ∧ ρ' = ρ ∧ MTt σ' U r.1 ∧ (isOk r.1 = true → MPc σ' (r.2.1 ++ r.2.2.1) W ∧ σ'.1 326 103 = nI r.2.2.2 ∧ (r.2.1 ++ r.2.2.1).length + W.length ≤ rpos r.1) ∧ (isOk r.1 = false → CdB σ') ∧ MB σ σ') := by
    intro σ2 L2 s2 q2 d2 c2
    refine Ev_aload rfl rfl rfl ?_
    refine Ev_iload rfl rfl ?_
    refine Ev_putI rfl (by first | rfl | assumption) ⟨rfl, rfl⟩ rfl ?_
    exact Ev_return rfl rfl rfl ⟨rfl, rfl, s2.mz (hput _ _), fun z => ⟨pc_put _ _ _ _ (q2 z).1, by rw [sR_0, pk_un (by decide)]; exact (q2 z).2.1, (q2 z).2.2⟩, fun z => (d2 z).of (by rw [sR_0, pk_un (by decide)]), by
    refine ⟨fun q hq hc => ?_, fun q hq => c2.2.1 q hq, fun j hj => ?_⟩
    · rw [sR_1 _ _ (Ne.symm (Ne.symm hq)), c2.1 q hq hc, sR_1 _ _ hq]
    · by_cases hz : j = 104
      · subst hz; rw [sR_0, pk_us, hb]
      · rw [sR_0, pk_un hz, c2.2.2 j hj, sR_0, pk_un hz]⟩
  refine T_of rfl ?_
  refine Ev_aload rfl rfl rfl ?_
  refine Ev_getI rfl (by first | rfl | assumption) ?_
  refine Ev_norm hb ?_
  refine Ev_istore rfl ?_
  refine Ev_aload rfl rfl rfl ?_
  refine Ev_aload rfl rfl rfl ?_
  refine Ev_getI rfl (by first | rfl | assumption) ?_
  refine Ev_norm hq.1.2.2.1 ?_
  refine Ev_putI rfl (by first | rfl | assumption) ⟨rfl, rfl⟩ rfl ?_
  refine Ev_const rfl ?_
  refine Ev_istore rfl ?_
  refine m_sumLoop d (v := W) (k := k) (r := r) hρ hT hk hv b0 (σ0 := sI σ 326 (upd (σ.1 326) 104 (nI W.length))) (fun σ' L2 HY c => ?_) f f (.inr p, out, [], o) _ (Nat.le_refl _) ⟨H.mz (hput _ _), by rw [sR_0, pk_us], fun _ => ⟨⟨pc_put _ _ _ _ hq.1, by rw [sR_0, pk_un (by decide)]; exact hq.2.1, hq.2.2⟩, (fun e he => by cases he), hl⟩, fun z => by cases z⟩ (hW.eq (fun q hq2 => sR_1 _ _ (by have := (wdS_ok q hq2).1; omega))) (by rw [sR_0, pk_un (by decide)]; exact hK) (MF.rf _ _ _) hr
  obtain ⟨g1, g2, g3, g4⟩ := HY
  cases hs : r.1 with
  | inl e =>
    obtain ⟨z, hz, hz0⟩ := MTt.badE (e := e) (by rw [← hs]; exact g1)
    refine Ev_aload rfl rfl rfl ?_
    refine Ev_getI rfl (by first | rfl | assumption) ?_
    refine Ev_norm hz ?_
    refine Ev_if_ne rfl (fun h57 => ?_) (fun h57 => absurd hz0 h57)
    rw [← hs]
    exact fin σ' L2 g1 (fun z => by rw [hs] at z; cases z) g4 c
  | inr q =>
    have hok : isOk r.1 = true := by rw [hs]; rfl
    obtain ⟨k1, k2, k3⟩ := g3 hok
    have hle : q.1 ≤ U.1 := by rw [hs] at g1; exact g1.le
    have hrp : rpos r.1 = q.1 := by rw [hs]; rfl
    have hbz := runY_b f 0 _ r hr (fun z => absurd z (by decide)) hok
    rw [← hs]
    refine m_sumDrop (d + 4) (p := q) hρ _ _ r.2.2.1 r.2.1 σ' k1.1 (by rw [← hs]; exact g1) g2 (brk_0 _ k2 hbz) (by omega) (fun σ2 p2 c2 => fin σ2 L2 (g1.mz c2.z) (fun _ => ⟨p2, by rw [c2.2.2 _ rfl]; exact k1.2.1, by rw [List.length_append] at k3 ⊢; omega⟩) (fun z => by rw [hok] at z; cases z) (c.tr c2.b))
end S88zn
