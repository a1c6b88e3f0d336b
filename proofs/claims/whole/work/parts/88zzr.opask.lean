/-! ask: the class's call, both sides. -/
section S88zzr
variable {l : Launch} {X : Cx}
theorem op_ask : OpL l X InvA 139 290 [] := by
  refine op_ofL (fun A q ρ σ hA hC hρ => ?_)
  refine ⟨akV A, akA A, wf_akA hA, ?_, fun ρ σ hM => m_ask 91 hA hM⟩
  have hC0 := hC
  obtain ⟨⟨p1, p2⟩, hR, hNam, hNow, hPas, hFnd, hX, hTap, hRf, ⟨hE1, hE2⟩, hImg⟩ := hC
  have hT := tx_A hA
  have hq : q = 2 ∨ q = 17 := hR.2.1
  have hWB := hA.1
  have hNW := hA.2.1
  obtain ⟨okI, okY⟩ := ak_ok (U := aT A) hT
  have hk5 : akK (aT A) ≤ 5 := akN_le _
  refine T_of rfl ?_
  refine Ev_aload rfl rfl rfl ?_
  refine Ev_getR rfl (by first | rfl | assumption) (hρ _ _ _ rfl) ?_
  refine Ev_aload rfl rfl rfl ?_
  refine Ev_callV rfl rfl rfl rfl rfl (same_n 402) (t_takeTape _) ?_
  rintro v5 ρ5 σ5 ⟨rfl, e5, g5⟩
  obtain rfl := e5.symm
  obtain rfl := g5.symm
  refine Ev_norm hTap.1 ?_
  refine Ev_callV rfl rfl rfl rfl rfl (same_n 402) (t_open _ (U := aT A) (n := (aT A).1) hρ hT rfl (fun j hj => by rw [sR_1 _ _ (by decide)]; exact hTap.2 j hj)) ?_
  rintro v8 ρ8 σ8 ⟨rfl, e8, s8, f8, g8⟩
  obtain rfl := e8.symm
  refine Ev_aload rfl rfl rfl ?_
  refine Ev_getR rfl (by first | rfl | assumption) (hρ _ _ _ rfl) ?_
  refine Ev_aload rfl rfl rfl ?_
  refine Ev_getR rfl (by first | rfl | assumption) (hρ _ _ _ rfl) ?_
  refine Ev_callV rfl rfl rfl rfl rfl (same_n 402) (t_readQuestion _ hρ hT s8.t) ?_
  rintro v19 ρ19 σ19 ⟨⟨x19, rfl, f19⟩, r19, s19, c19⟩
  refine Ev_istore rfl ?_
  have hy : akE (aT A) (akF (aT A) (akN (wAt (aT A) (.inr (0, 0)))) (akS (aT A) (.inr (0, 0)))).1 = akR (aT A) := rfl
  have hy2 : (akF (aT A) (akN (wAt (aT A) (.inr (0, 0)))) (akS (aT A) (.inr (0, 0)))).2 = (akY (aT A)).2 := rfl
  have hy3 : akN (wAt (aT A) (.inr (0, 0))) = akK (aT A) := rfl
  rw [hy] at s19
  rw [hy, hy2, hy3] at f19
  have hcell : ∀ k, k ≠ 0 → k ≠ 316 → k ≠ 318 → k ≠ 319 → k ≠ 320 → k ≠ 321 → k ≠ 322 → σ19.1 k = σ.1 k := fun k k0 k1 k2 k3 k4 k5 k6 => by
    have e1 : σ19.1 k = σ8.1 k := funext fun j => c19.1 k j (by unfold cAk; rw [cTt_f k1, nbeq k2, nbeq k3, nbeq k4, nbeq k5, nbeq k6]; rfl)
    rw [e1, g8, sR_1 _ _ k1, sR_1 _ _ k0]
  have h00 : ∀ j, σ19.1 0 j = upd (σ.1 0) 1 0 j := fun j => by
    rw [c19.1 0 j (by unfold cAk; rw [cTt_f (by decide)]; rfl), g8, sR_1 _ _ (by decide), sR_0]
  have hup : upM σ σ19 := ⟨fun k hk => hcell k (by omega) (by omega) (by omega) (by omega) (by omega) (by omega) (by omega), by rw [c19.2, g8]; rfl⟩
  have q0 : ρ19 0 2 = some q := by rw [r19.2 _ _ (by decide)]; exact p1
  have q1 : ρ19 0 3 = some (19 - q) := by rw [r19.2 _ _ (by decide)]; exact p2
  cases hs : akR (aT A) with
  | inl e =>
    rw [hs] at s19
    obtain ⟨⟨t1, t2⟩, t3, t4, t5, -⟩ := s19
    have eV : akV A = -1000000000000000 := by unfold akV; rw [hs]
    have eA : akA A = mkA (aB A) (aN A) (aP A) (aF A) (aX A) (0, (aT A).2) (aR A) (e.1, nI e.2) (aG A) := by unfold akA akX; rw [hs]
    rw [eV, eA]
    refine Ev_aload rfl rfl rfl ?_
    refine Ev_callV rfl rfl rfl rfl rfl (same_n 402) (t_noteFault _ r19.1) ?_
    rintro v24 ρ24 σ24 ⟨rfl, e24, g24⟩
    obtain rfl := e24.symm
    obtain rfl := g24.symm
    refine Ev_aload rfl rfl rfl ?_
    refine Ev_getI rfl (by first | rfl | assumption) ?_
    refine Ev_norm (by rw [sR_0, pk_un (by decide), pk_us]; exact t3 : _ = nI e.1) ?_
    refine Ev_if_eq rfl (fun h31 => absurd h31 (nI_ne0 t5.1 (by omega))) (fun h31 => ?_)
    refine Ev_constL rfl ?_
    refine Ev_goto rfl ?_
    exact Ev_lreturn rfl rfl rfl (by
    have b0 : ∀ k, k ≠ 0 → (sI σ19 0 (upd (upd (σ19.1 0) 14 (σ19.1 316 6)) 15 (σ19.1 316 7))).1 k = σ19.1 k := fun k k0 => sR_1 _ _ k0
    refine ⟨rfl, r19.1, ⟨fun k hk => by rw [b0 k (by omega)]; exact hup.1 k hk, hup.2⟩, q, hC0.oth (hR.qq r19.1 (r19.2 _ _ (by decide)) (fun r hr => ?_) ?_) ⟨q0, q1⟩ (fun k hk => ?_) ?_ ⟨?_, ?_⟩ ?_ ?_ (fun j hj => ?_)⟩
    · rw [b0 _ (by omega), hcell _ (by omega) (by omega) (by omega) (by omega) (by omega) (by omega) (by omega)]
    · rw [b0 _ (by decide), hcell _ (by decide) (by decide) (by decide) (by decide) (by decide) (by decide) (by decide)]
    · rw [b0 _ (by omega), hcell _ (by omega) (by omega) (by omega) (by omega) (by omega) (by omega) (by omega)]
    · rw [sR_0, pk_un (by decide), pk_un (by decide), h00, pk_us]; rfl
    · rw [sR_0, pk_un (by decide), pk_us]; exact t3
    · rw [sR_0, pk_us]; exact t4
    · rw [sR_0, pk_un (by decide), pk_un (by decide), h00, pk_un (by decide)]
    · rw [sR_0, pk_un (by decide), pk_un (by decide), h00, pk_un (by decide)]
    · rw [b0 _ (by decide), hcell _ (by decide) (by decide) (by decide) (by decide) (by decide) (by decide) (by decide)]; exact hRf j hj)
  | inr p =>
    rw [hs] at s19
    obtain ⟨⟨t1, t2⟩, t3, t4, ⟨t7, t8⟩, t5, t6⟩ := s19
    obtain ⟨rfl, o19, fr19, to19⟩ := f19 (by rw [hs]; rfl)
    have eV : akV A = lI (qGo (akK (aT A)) (akf A) (nb (aB A))) := by unfold akV; rw [hs]
    have eA : akA A = mkA (aB A) (aN A) (aP A) (aF A) (aX A) (0, (aT A).2) (aR A) (0, -1) (aG A) := by unfold akA akX; rw [hs]
    have hokY : isOk (akY (aT A)).1 = true := akE_ok (U := aT A) (by show isOk (akR (aT A)) = true; rw [hs]; rfl)
    obtain ⟨y1, y2⟩ := okY hokY
    rw [eV, eA]
    have b0 : ∀ k, k ≠ 0 → (sI σ19 0 (upd (upd (σ19.1 0) 14 (σ19.1 316 6)) 15 (σ19.1 316 7))).1 k = σ19.1 k := fun k k0 => sR_1 _ _ k0
    have bO : (sI σ19 0 (upd (upd (σ19.1 0) 14 (σ19.1 316 6)) 15 (σ19.1 316 7))).1 0 = upd (upd (σ19.1 0) 14 (σ19.1 316 6)) 15 (σ19.1 316 7) := sR_0 _ _ _
    have bL : (sI σ19 0 (upd (upd (σ19.1 0) 14 (σ19.1 316 6)) 15 (σ19.1 316 7))).2 = σ19.2 := rfl
    refine Ev_aload rfl rfl rfl ?_
    refine Ev_callV rfl rfl rfl rfl rfl (same_n 402) (t_noteFault _ r19.1) ?_
    rintro v24 ρ24 σ24 ⟨rfl, e24, g24⟩
    obtain rfl := e24.symm
    obtain rfl := g24.symm
    refine Ev_aload rfl rfl rfl ?_
    generalize hσf : sI σ19 0 (upd (upd (σ19.1 0) 14 (σ19.1 316 6)) 15 (σ19.1 316 7)) = σf at *
    have hRf2 : CRd ρ19 σf q (aB A) := hR.qq r19.1 (r19.2 _ _ (by decide)) (fun r hr => by rw [b0 _ (by omega), hcell _ (by omega) (by omega) (by omega) (by omega) (by omega) (by omega) (by omega)]) (by rw [b0 _ (by decide), hcell _ (by decide) (by decide) (by decide) (by decide) (by decide) (by decide) (by decide)])
    have oF : COr σf 319 0 (akY (aT A)).2 := ⟨o19.1, by rw [b0 _ (by decide)]; exact o19.2.1, fun j hj hb => by rw [b0 _ (by decide)]; exact o19.2.2 j hj hb⟩
    have hS : ∀ b, b < 6 → RowR σf (34 + b) ((aN A).2.1 b) := fun b hb i hi => by
      rw [b0 _ (by omega), hcell _ (by omega) (by omega) (by omega) (by omega) (by omega) (by omega) (by omega)]
      exact hNow.2.1 b hb i hi
    have hH : σf.1 32 0 = nI (aN A).1 := by rw [b0 _ (by decide), hcell _ (by decide) (by decide) (by decide) (by decide) (by decide) (by decide) (by decide)]; exact hNow.1
    refine Ev_getI rfl (by first | rfl | assumption) ?_
    refine Ev_norm (by rw [bO, pk_un (by decide), pk_us]; exact t7 : _ = (0 : Int32)) ?_
    refine Ev_if_eq rfl (fun h31 => ?_) (fun h31 => absurd rfl h31)
    refine Ev_aload rfl rfl rfl ?_
    refine Ev_iload rfl rfl ?_
    refine Ev_callV rfl rfl rfl rfl rfl (same_n 402) (t_answer _ (B := aB A) (S := (aN A).2.1) (h := (aN A).1) (cs := (akY (aT A)).2) (f := akf A) hk5 (fun _ => rfl) q0 hRf2 hWB.1 hWB.2.1 hWB.2.2.1 hWB.2.2.2.1 hNW.1 hH hS hNW.2.1 y2 y1 oF (by rw [b0 _ (by decide)]; exact fr19) (by rw [b0 _ (by decide), to19, o19.2.1, if_pos (by omega), Nat.zero_add])) ?_
    rintro v42 ρ42 σ42 ⟨rfl, e42, s42, r42⟩
    obtain rfl := e42.symm
    exact Ev_lreturn rfl rfl rfl (by
    have hV : ∀ k, k ≠ 16 → k ≠ 31 → k ≠ 265 → k ≠ 266 → k ≠ 323 → σ42.1 k = σf.1 k := fun k k1 k2 k3 k4 k5 => funext fun j => s42.1 k j (cV_k ⟨k1, k2, k3, k4, k5⟩)
    refine ⟨rfl, r19.1, ⟨fun k hk => by rw [hV k (by omega) (by omega) (by omega) (by omega) (by omega), b0 k (by omega)]; exact hup.1 k hk, by rw [s42.2, bL]; exact hup.2⟩, q, hC0.oth r42 ⟨q0, q1⟩ (fun k hk => ?_) ?_ ⟨?_, ?_⟩ ?_ ?_ (fun j hj => ?_)⟩
    · rw [hV k (by omega) (by omega) (by omega) (by omega) (by omega), b0 _ (by omega), hcell _ (by omega) (by omega) (by omega) (by omega) (by omega) (by omega) (by omega)]
    · rw [hV 0 (by decide) (by decide) (by decide) (by decide) (by decide), bO, pk_un (by decide), pk_un (by decide), h00, pk_us]; rfl
    · rw [hV 0 (by decide) (by decide) (by decide) (by decide) (by decide), bO, pk_un (by decide), pk_us]; exact t7
    · rw [hV 0 (by decide) (by decide) (by decide) (by decide) (by decide), bO, pk_us]; exact t8
    · rw [hV 0 (by decide) (by decide) (by decide) (by decide) (by decide), bO, pk_un (by decide), pk_un (by decide), h00, pk_un (by decide)]
    · rw [hV 0 (by decide) (by decide) (by decide) (by decide) (by decide), bO, pk_un (by decide), pk_un (by decide), h00, pk_un (by decide)]
    · rw [hV 325 (by decide) (by decide) (by decide) (by decide) (by decide), b0 _ (by decide), hcell _ (by decide) (by decide) (by decide) (by decide) (by decide) (by decide) (by decide)]; exact hRf j hj)
end S88zzr
