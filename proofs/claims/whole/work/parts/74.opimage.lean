/-! An image: the reference, the call. -/
section S74
variable {l : Launch} {X : Cx} {ρ : Rf} {B : Bh}
theorem m_writes (d : Nat) {σ : St} {g : Nat → Int32} {w v : Nat} (hρ : RF ρ) (hw : w < 83) : T l X d 292 [.ref 326, .int (nI v)] 402 402 ρ (MsI σ g w) (fun u ρ' σ' => u = none ∧ ρ' = ρ ∧ σ' = MsI σ (upd g w (nI v)) (w + 1)) := by
  have e : (MsI σ g w).1 326 110 = nI w := by unfold MsI; rw [sR_0]; exact pk_us
  refine T_of rfl ?_
  refine Ev_aload rfl rfl rfl ?_
  refine Ev_getR rfl (by first | rfl | assumption) (hρ _ _ _ rfl) ?_
  refine Ev_aload rfl rfl rfl ?_
  refine Ev_getI rfl (by first | rfl | assumption) ?_
  refine Ev_norm e ?_
  refine Ev_iload rfl rfl ?_
  refine Ev_iast rfl (by first | rfl | assumption) (vp_in_nI (n := w) (show w < 83 by omega) (by decide)) ?_
  rw [nI_clamp (show w < 2 ^ 31 by omega)]
  refine Ev_aload rfl rfl rfl ?_
  refine Ev_dup rfl (fun _ q => nomatch q) ?_
  refine Ev_getI rfl (by first | rfl | assumption) ?_
  refine Ev_norm (by rw [sR_1 _ _ (by decide)]; exact e : _ = nI w) ?_
  refine Ev_const rfl ?_
  refine Ev_iadd rfl ?_
  refine Ev_norm (nI_1 w) ?_
  refine Ev_putI rfl (by first | rfl | assumption) ⟨rfl, rfl⟩ rfl ?_
  exact Ev_return rfl rfl rfl ⟨rfl, rfl, by
  unfold MsI
  rw [sR_1 _ _ (show (401 : Nat) ≠ 326 by decide), sR_0, sR_1 _ _ (show (326 : Nat) ≠ 401 by decide), sR_0, upd_2, st_ms]⟩
theorem mch_lp {d k n L : Nat} {σ : St} {f : Nat → Nat} (hk : isA 402 k 0 = true) (hL : (shp k).2 = L) (hn : n ≤ L) (hL2 : L < 10000) (hf : ∀ j, j < n → σ.1 k j = nI (f j)) (h256 : ∀ j, j < n → f j < 256) : ∀ (m j : Nat), j + m = n → Ev l X d 291 6 [.ref k, .int (nI n), .int (nI (ck f j)), .int (nI j)] [] 402 402 402 ρ σ (Rs (.int (nI (ck f n))) ρ σ) := by
  intro m
  induction m with
  | zero =>
    intro j hj
    have hj : j = n := by omega
    subst hj
    refine Ev_iload rfl rfl ?_
    refine Ev_iload rfl rfl ?_
    refine Ev_icmp_ge rfl (fun h8 => ?_) (fun h8 => absurd (nI_le (Nat.le_refl _) (by omega)) h8)
    refine Ev_iload rfl rfl ?_
    exact Ev_ireturn rfl rfl rfl rfl ⟨rfl, rfl, rfl⟩
  | succ m ih =>
    intro j hj
    have hc := ck_lt f j
    have hb := h256 j (by omega)
    refine Ev_iload rfl rfl ?_
    refine Ev_iload rfl rfl ?_
    refine Ev_icmp_ge rfl (fun h8 => absurd h8 (nI_ge (by omega) (by omega))) (fun h8 => ?_)
    refine Ev_const rfl ?_
    refine Ev_iload rfl rfl ?_
    refine Ev_imul rfl ?_
    refine Ev_norm (pk_mul 3 (ck f j) : _ = nI (3 * ck f j)) ?_
    refine Ev_aload rfl rfl rfl ?_
    refine Ev_iload rfl rfl ?_
    refine Ev_iald rfl hk (by rw [hL]; exact vp_in_nI (n := j) (by omega) (by omega)) ?_
    refine Ev_norm (by rw [nI_clamp (by omega)]; exact hf j (by omega) : _ = nI (f j)) ?_
    refine Ev_iadd rfl ?_
    refine Ev_norm (nI_add _ _) ?_
    refine Ev_const rfl ?_
    refine Ev_irem rfl (by decide : ¬ (251 : Int32) = 0) ?_
    refine Ev_norm (pk_rem (a := 3 * ck f j + f j) (d := 251) (by omega) (by decide) (by decide) : _ = nI ((3 * ck f j + f j) % 251)) ?_
    refine Ev_istore rfl ?_
    refine Ev_iincE rfl rfl (nI_1 j) ?_
    refine Ev_goto rfl ?_
    exact ih (j + 1) (by omega)
theorem m_checked (d : Nat) {k n L : Nat} {σ : St} {f : Nat → Nat} (hk : isA 402 k 0 = true) (hL : (shp k).2 = L) (hn : n ≤ L) (hL2 : L < 10000) (hf : ∀ j, j < n → σ.1 k j = nI (f j)) (h256 : ∀ j, j < n → f j < 256) : T l X d 291 [.ref k, .int (nI n)] 402 402 ρ σ (Rs (.int (nI (ck f n))) ρ σ) := by
  refine T_of rfl ?_
  refine Ev_const rfl ?_
  refine Ev_istore rfl ?_
  refine Ev_const rfl ?_
  refine Ev_istore rfl ?_
  exact mch_lp hk hL hn hL2 hf h256 n 0 (by omega)
theorem MNum.ms {σ : St} {g : Nat → Int32} {w : Nat} (H : MNum σ B) : MNum (MsI σ g w) B := fun q hq => by rw [MsI_x _ _ _ (by decide) (by decide)]; exact H q hq
theorem MStr.ms {σ : St} {g : Nat → Int32} {w : Nat} {S : Str} (H : MStr σ S) : MStr (MsI σ g w) S := fun b i hb hi => by rw [MsI_x _ _ _ (by decide) (by decide)]; exact H b i hb hi
theorem mwi_loop {d b : Nat} {σ : St} {N : Mo} {Q : Po} (hρ : RF ρ) (hNu : MNum σ B) (hW : WfN B) (hS : MStr σ N.2.1) (hb : b < nb B)
    (hQ : ∀ g, gOk g (2 + (b + 1) * ni B) (fun j => nI (im0 B N j)) → Ev l X (d + 1) 293 69 [.ref 326, .int (nI b), .int (nI (ni B))] [] 402 402 402 ρ (MsI σ g (2 + (b + 1) * ni B)) Q) :
    ∀ (m i : Nat) (g : Nat → Int32), i + m = ni B → gOk g (2 + b * ni B + i) (fun j => nI (im0 B N j)) → Ev l X (d + 1) 293 45 [.ref 326, .int (nI b), .int (nI i)] [] 402 402 402 ρ (MsI σ g (2 + b * ni B + i)) Q := by
  have n8 := hW.1
  have n6 := hW.2.1
  intro m
  induction m with
  | zero =>
    intro i g hi hg
    have hi : i = ni B := by omega
    subst hi
    refine Ev_iload rfl rfl ?_
    refine Ev_aload rfl rfl rfl ?_
    refine Ev_callV rfl rfl rfl rfl rfl (same_n 402) (m_ideaMany _ hρ hNu.ms) ?_
    rintro v47 ρ47 σ47 ⟨rfl, e47, g47⟩
    obtain rfl := e47.symm
    obtain rfl := g47.symm
    refine Ev_icmp_ge rfl (fun h50 => ?_) (fun h50 => absurd (nI_le (Nat.le_refl _) (by omega)) h50)
    have e : 2 + b * ni B + ni B = 2 + (b + 1) * ni B := by rw [Nat.succ_mul]; omega
    rw [e] at hg ⊢
    exact hQ g hg
  | succ m ih =>
    intro i g hi hg
    have hi2 : i < ni B := by omega
    have hs := im0_S (N := N) hb hi2
    have h82 := imM_le hW
    have hM : imM B = 2 + nb B * ni B + 2 * np B := rfl
    refine Ev_iload rfl rfl ?_
    refine Ev_aload rfl rfl rfl ?_
    refine Ev_callV rfl rfl rfl rfl rfl (same_n 402) (m_ideaMany _ hρ hNu.ms) ?_
    rintro v47 ρ47 σ47 ⟨rfl, e47, g47⟩
    obtain rfl := e47.symm
    obtain rfl := g47.symm
    refine Ev_icmp_ge rfl (fun h50 => absurd h50 (nI_ge (by omega) (by omega))) (fun h50 => ?_)
    refine Ev_aload rfl rfl rfl ?_
    refine Ev_aload rfl rfl rfl ?_
    refine Ev_iload rfl rfl ?_
    refine Ev_iload rfl rfl ?_
    refine Ev_callV rfl rfl rfl rfl rfl (same_n 402) (m_strengthOf _ hρ hS.ms (by omega) (by omega)) ?_
    rintro v57 ρ57 σ57 ⟨rfl, e57, g57⟩
    obtain rfl := e57.symm
    obtain rfl := g57.symm
    refine Ev_callV rfl rfl rfl rfl rfl (same_n 402) (m_writes _ hρ (by omega)) ?_
    rintro v60 ρ60 σ60 ⟨rfl, e60, g60⟩
    obtain rfl := e60.symm
    subst g60
    refine Ev_iincE rfl rfl (nI_1 i) ?_
    refine Ev_goto rfl ?_
    exact ih (i + 1) _ (by omega) (hg.add (by rw [hs.2]))
theorem mwb_loop {d : Nat} {σ : St} {N : Mo} {Q : Po} (hρ : RF ρ) (hNu : MNum σ B) (hW : WfN B) (hS : MStr σ N.2.1)
    (hQ : ∀ g w, gOk g (2 + nb B * ni B) (fun j => nI (im0 B N j)) → Ev l X (d + 1) 293 75 [.ref 326, .int (nI (nb B)), w] [] 402 402 402 ρ (MsI σ g (2 + nb B * ni B)) Q) :
    ∀ (m b : Nat) (g : Nat → Int32) (w : Value), b + m = nb B → gOk g (2 + b * ni B) (fun j => nI (im0 B N j)) → Ev l X (d + 1) 293 35 [.ref 326, .int (nI b), w] [] 402 402 402 ρ (MsI σ g (2 + b * ni B)) Q := by
  have n6 := hW.2.1
  intro m
  induction m with
  | zero =>
    intro b g w hb hg
    have hb : b = nb B := by omega
    subst hb
    refine Ev_iload rfl rfl ?_
    refine Ev_aload rfl rfl rfl ?_
    refine Ev_callV rfl rfl rfl rfl rfl (same_n 402) (m_batherMany _ hρ hNu.ms) ?_
    rintro v37 ρ37 σ37 ⟨rfl, e37, g37⟩
    obtain rfl := e37.symm
    obtain rfl := g37.symm
    refine Ev_icmp_ge rfl (fun h40 => ?_) (fun h40 => absurd (nI_le (Nat.le_refl _) (by omega)) h40)
    exact hQ g w hg
  | succ m ih =>
    intro b g w hb hg
    refine Ev_iload rfl rfl ?_
    refine Ev_aload rfl rfl rfl ?_
    refine Ev_callV rfl rfl rfl rfl rfl (same_n 402) (m_batherMany _ hρ hNu.ms) ?_
    rintro v37 ρ37 σ37 ⟨rfl, e37, g37⟩
    obtain rfl := e37.symm
    obtain rfl := g37.symm
    refine Ev_icmp_ge rfl (fun h40 => absurd h40 (nI_ge (by omega) (by omega))) (fun h40 => ?_)
    refine Ev_const rfl ?_
    refine Ev_istore rfl ?_
    refine mwi_loop hρ hNu hW hS (by omega) (fun g2 hg2 => ?_) (ni B) 0 g (by omega) hg
    refine Ev_iincE rfl rfl (nI_1 b) ?_
    refine Ev_goto rfl ?_
    exact ih (b + 1) g2 _ (by omega) hg2
theorem mwk_loop {d : Nat} {σ : St} {N : Mo} {Q : Po} (hρ : RF ρ) (hNu : MNum σ B) (hW : WfN B) (hP : ∀ j, j < 2 * np B → σ.1 365 (49 + j) = nI (N.2.2.1 j))
    (hQ : ∀ g w, gOk g (imM B) (fun j => nI (im0 B N j)) → Ev l X (d + 1) 293 106 [.ref 326, .int (nI (2 * np B)), w] [] 402 402 402 ρ (MsI σ g (imM B)) Q) :
    ∀ (m k : Nat) (g : Nat → Int32) (w : Value), k + m = 2 * np B → gOk g (2 + nb B * ni B + k) (fun j => nI (im0 B N j)) → Ev l X (d + 1) 293 77 [.ref 326, .int (nI k), w] [] 402 402 402 ρ (MsI σ g (2 + nb B * ni B + k)) Q := by
  have n16 := hW.2.2.2.1
  intro m
  induction m with
  | zero =>
    intro k g w hk hg
    have hk : k = 2 * np B := by omega
    subst hk
    refine Ev_iload rfl rfl ?_
    refine Ev_const rfl ?_
    refine Ev_aload rfl rfl rfl ?_
    refine Ev_callV rfl rfl rfl rfl rfl (same_n 402) (m_planMany _ hρ hNu.ms) ?_
    rintro v80 ρ80 σ80 ⟨rfl, e80, g80⟩
    obtain rfl := e80.symm
    obtain rfl := g80.symm
    refine Ev_imul rfl ?_
    refine Ev_norm (pk_mul 2 (np B) : _ = nI (2 * np B)) ?_
    refine Ev_icmp_ge rfl (fun h84 => ?_) (fun h84 => absurd (nI_le (Nat.le_refl _) (by omega)) h84)
    exact hQ g w hg
  | succ m ih =>
    intro k g w hk hg
    have h82 := imM_le hW
    have hM : imM B = 2 + nb B * ni B + 2 * np B := rfl
    refine Ev_iload rfl rfl ?_
    refine Ev_const rfl ?_
    refine Ev_aload rfl rfl rfl ?_
    refine Ev_callV rfl rfl rfl rfl rfl (same_n 402) (m_planMany _ hρ hNu.ms) ?_
    rintro v80 ρ80 σ80 ⟨rfl, e80, g80⟩
    obtain rfl := e80.symm
    obtain rfl := g80.symm
    refine Ev_imul rfl ?_
    refine Ev_norm (pk_mul 2 (np B) : _ = nI (2 * np B)) ?_
    refine Ev_icmp_ge rfl (fun h84 => absurd h84 (nI_ge (by omega) (by omega))) (fun h84 => ?_)
    refine Ev_aload rfl rfl rfl ?_
    refine Ev_aload rfl rfl rfl ?_
    refine Ev_getR rfl (by first | rfl | assumption) (hρ _ _ _ rfl) ?_
    refine Ev_const rfl ?_
    refine Ev_iload rfl rfl ?_
    refine Ev_iadd rfl ?_
    refine Ev_norm (nI_add 49 k) ?_
    refine Ev_iald rfl (by first | rfl | assumption) (vp_in_nI (n := 49 + k) (show 49 + k < 242 by omega) (by decide)) ?_
    refine Ev_norm (by rw [nI_clamp (by omega), MsI_x _ _ _ (by decide) (by decide)]; exact hP k (by omega) : _ = nI (N.2.2.1 k)) ?_
    refine Ev_callV rfl rfl rfl rfl rfl (same_n 402) (m_writes _ hρ (by omega)) ?_
    rintro v97 ρ97 σ97 ⟨rfl, e97, g97⟩
    obtain rfl := e97.symm
    subst g97
    refine Ev_iincE rfl rfl (nI_1 k) ?_
    refine Ev_goto rfl ?_
    exact ih (k + 1) _ _ (by omega) (hg.add (by rw [im0_P]))
theorem WfA.img {A : Ab} (h : WfA A) : WfA (sG A (imA (aB A) (aN A))) := by
  obtain ⟨h1, h2, h3, h4, h5, h6, h7⟩ := h
  refine ⟨h1, h2, h3, h4, h5, h6, ⟨by have := imM_le h1.1; show imM (aB A) + 1 ≤ 83; omega, fun j => ?_⟩⟩
  show (if j = imM (aB A) then ck (im0 (aB A) (aN A)) (imM (aB A)) else if j < imM (aB A) then im0 (aB A) (aN A) j else 0) < 256
  by_cases hj : j = imM (aB A)
  · rw [if_pos hj]; have := ck_lt (im0 (aB A) (aN A)) (imM (aB A)); omega
  · rw [if_neg hj]
    by_cases hj2 : j < imM (aB A)
    · rw [if_pos hj2]; exact im0_lt h1.1 h2 hj2
    · rw [if_neg hj2]; decide
theorem imA_lo {B : Bh} {N : Mo} {j : Nat} (hj : j < imM B) : (imA B N).2 j = im0 B N j := by
  show (if j = imM B then _ else if j < imM B then im0 B N j else 0) = _
  rw [if_neg (by omega), if_pos hj]
theorem imA_hi {B : Bh} {N : Mo} : (imA B N).2 (imM B) = ck (im0 B N) (imM B) := by
  show (if imM B = imM B then _ else _) = _
  rw [if_pos rfl]
theorem op_image : OpI l X InvA 141 293 [] := by
  refine op_of (fun A q ρ σ hA hC hρ => ?_)
  have hW := hA.1.1
  have nh := hA.2.1.1
  have h82 := imM_le hW
  have hck := ck_lt (im0 (aB A) (aN A)) (imM (aB A))
  have hM2 : 2 ≤ imM (aB A) := by unfold imM; omega
  have e0 : im0 (aB A) (aN A) 0 = (aN A).1 / 256 := rfl
  have e1 : im0 (aB A) (aN A) 1 = (aN A).1 % 256 := rfl
  have hCS : CStr σ (aN A).2.1 := fun b hb i hi => rf_str hC hb hi
  refine ⟨nI (imM (aB A) + 1), sG A (imA (aB A) (aN A)), hA.img, ?_, fun ρ σ hM => ?_⟩
  · have hw0 : sI σ 0 (upd (σ.1 0) 12 0) = WsI σ (σ.1 324) 0 := by unfold WsI; rw [sI_self]; rfl
    have hh := hC.2.2.2.1.1
    refine T_of rfl ?_
    refine Ev_aload rfl rfl rfl ?_
    refine Ev_const rfl ?_
    refine Ev_putI rfl (by first | rfl | assumption) ⟨rfl, rfl⟩ rfl ?_
    rw [hw0]
    refine Ev_aload rfl rfl rfl ?_
    refine Ev_aload rfl rfl rfl ?_
    refine Ev_getR rfl (by first | rfl | assumption) (hρ _ _ _ rfl) ?_
    refine Ev_getI rfl (by first | rfl | assumption) ?_
    refine Ev_norm (by rw [WsI_x _ _ _ (by decide) (by decide)]; exact hh : _ = nI (aN A).1) ?_
    refine Ev_const rfl ?_
    refine Ev_ishr rfl ?_
    refine Ev_norm (show _ = nI ((aN A).1 / 256) from sh_n (s := 8) 8 (by decide) (by omega)) ?_
    refine Ev_callV rfl rfl rfl rfl rfl (same_n 402) (t_write _ hρ (by decide) (by omega)) ?_
    rintro v16 ρ16 σ16 ⟨rfl, e16, g16⟩
    obtain rfl := e16.symm
    subst g16
    refine Ev_aload rfl rfl rfl ?_
    refine Ev_aload rfl rfl rfl ?_
    refine Ev_getR rfl (by first | rfl | assumption) (hρ _ _ _ rfl) ?_
    refine Ev_getI rfl (by first | rfl | assumption) ?_
    refine Ev_norm (by rw [WsI_x _ _ _ (by decide) (by decide)]; exact hh : _ = nI (aN A).1) ?_
    refine Ev_const rfl ?_
    refine Ev_iand rfl ?_
    refine Ev_norm (show _ = nI ((aN A).1 % 256) by rw [show (255 : Int32) = nI 255 from rfl, nI_and, show (255 : Nat) = 2 ^ 8 - 1 by decide, Nat.and_two_pow_sub_one_eq_mod]) ?_
    refine Ev_callV rfl rfl rfl rfl rfl (same_n 402) (t_write _ hρ (by decide) (by omega)) ?_
    rintro v31 ρ31 σ31 ⟨rfl, e31, g31⟩
    obtain rfl := e31.symm
    subst g31
    refine Ev_const rfl ?_
    refine Ev_istore rfl ?_
    have hg0 : gOk (upd (upd (σ.1 324) 0 (sb ((aN A).1 / 256))) 1 (sb ((aN A).1 % 256))) (2 + 0 * ni (aB A)) (fun j => sb (im0 (aB A) (aN A) j)) := by
      rw [Nat.zero_mul]
      exact ((show gOk (σ.1 324) 0 (fun j => sb (im0 (aB A) (aN A) j)) from fun j hj => absurd hj (Nat.not_lt_zero j)).add (by rw [e0])).add (by rw [e1])
    refine Ev_st rfl (show _ = WsI σ (upd (upd (σ.1 324) 0 (sb ((aN A).1 / 256))) 1 (sb ((aN A).1 % 256))) (2 + 0 * ni (aB A)) by rw [Nat.zero_mul]) ?_
    refine wb_loop (d := 99) (N := aN A) (B := aB A) hC.1.1 hC.2.1 hW hA.2.1 hCS (fun g w hg => ?_) (nb (aB A)) 0 _ (.float 0) (by omega) hg0
    refine Ev_const rfl ?_
    refine Ev_istore rfl ?_
    refine wk_loop (d := 99) (N := aN A) hρ hW hA.2.1 hC.2.2.2.1.2.2.1 (fun g2 w2 hg2 => ?_) (np (aB A)) 0 g w (by omega) hg
    refine Ev_aload rfl rfl rfl ?_
    refine Ev_aload rfl rfl rfl ?_
    refine Ev_getR rfl (by first | rfl | assumption) (hρ _ _ _ rfl) ?_
    refine Ev_aload rfl rfl rfl ?_
    refine Ev_getI rfl (by first | rfl | assumption) ?_
    refine Ev_norm (show _ = nI (imM (aB A)) by unfold WsI; rw [sR_0]; exact pk_us) ?_
    refine Ev_callS rfl rfl rfl rfl (same_n 402) (t_checkOf _ (L := 83) (f := im0 (aB A) (aN A)) rfl rfl (by omega) (by decide) (fun j hj => by unfold WsI; rw [sR_1 _ _ (by decide), sR_0]; exact hg2 j hj) (fun j hj => im0_lt hW hA.2.1 hj)) ?_
    rintro v141 ρ141 σ141 ⟨rfl, e141, g141⟩
    obtain rfl := e141.symm
    obtain rfl := g141.symm
    refine Ev_callV rfl rfl rfl rfl rfl (same_n 402) (t_write _ hρ (by omega) (by omega)) ?_
    rintro v144 ρ144 σ144 ⟨rfl, e144, g144⟩
    obtain rfl := e144.symm
    subst g144
    refine Ev_aload rfl rfl rfl ?_
    refine Ev_getI rfl (by first | rfl | assumption) ?_
    refine Ev_norm (show _ = nI (imM (aB A) + 1) by unfold WsI; rw [sR_0]; exact pk_us) ?_
    exact Ev_ireturn rfl rfl rfl rfl (by
    have hs : CF (fun k j => Nat.beq k 324 || c0 12 k j) σ (WsI σ (upd g2 (imM (aB A)) (sb (ck (im0 (aB A) (aN A)) (imM (aB A))))) (imM (aB A) + 1)) := by
      have c1 := CF.cell (C := fun k j => Nat.beq k 324 || c0 12 k j) σ (k := 324) (upd g2 (imM (aB A)) (sb (ck (im0 (aB A) (aN A)) (imM (aB A))))) (fun _ => rfl)
      have c2 := c1.tr (CF.put (C := fun k j => Nat.beq k 324 || c0 12 k j) _ (k := 0) (j := 12) (nI (imM (aB A) + 1)) rfl)
      rw [sR_1 _ _ (by decide)] at c2
      exact c2
    have H' := hC
    obtain ⟨h1, h2, h3, h4, h5, h6, h7, h8, h9, h10, h11⟩ := hC
    have hne : ∀ k j : Nat, k ≠ 324 → (k ≠ 0 ∨ j ≠ 12) → (fun k j => Nat.beq k 324 || c0 12 k j) k j = false := fun k j q1 q2 => by
      show (Nat.beq k 324 || c0 12 k j) = false
      rw [nbeq q1, c0_ne q2]; rfl
    refine ⟨rfl, hρ, (upM.put _ _ (by decide)).tr (upM.put _ _ (by decide)), q, H'.chg hs (fun k j hk => hne k j (by omega) (by omega)) (sG A (imA (aB A) (aN A))) rfl (h4.cf hs (fun k j k1 k2 => hne k j (by omega) (by omega))) (h5.cf hs (fun k j k1 k2 => hne k j (by omega) (by omega))) (h6.cf hs rfl (fun _ => rfl)) ?_ (h8.cf hs rfl (fun _ => rfl)) (fun j hj => ?_) ?_ ⟨?_, fun j hj => ?_⟩⟩
    · rw [hs.1 0 _ rfl]; exact h7
    · rw [hs.1 325 j rfl]; exact h9 j hj
    · rw [hs.1 0 _ rfl, hs.1 0 _ rfl]; exact h10
    · unfold WsI; rw [sR_0, pk_us]; rfl
    · have hj : j < imM (aB A) + 1 := hj
      show (WsI σ _ _).1 324 j &&& 255 = nI ((imA (aB A) (aN A)).2 j)
      unfold WsI
      rw [sR_1 _ _ (by decide), sR_0]
      by_cases hq : j = imM (aB A)
      · rw [hq, pk_us, imA_hi, sb_and _ (by omega)]
      · rw [pk_un hq, imA_lo (by omega), hg2 j (by omega), sb_and _ (im0_lt hW hA.2.1 (by omega))])
  · have hρ := hM.1
    have hw0 : sI σ 326 (upd (σ.1 326) 110 0) = MsI σ (σ.1 401) 0 := by unfold MsI; rw [sI_self]; rfl
    have hh := hM.2.2.2.1.1
    refine T_of rfl ?_
    refine Ev_aload rfl rfl rfl ?_
    refine Ev_const rfl ?_
    refine Ev_putI rfl (by first | rfl | assumption) ⟨rfl, rfl⟩ rfl ?_
    rw [hw0]
    refine Ev_aload rfl rfl rfl ?_
    refine Ev_aload rfl rfl rfl ?_
    refine Ev_getR rfl (by first | rfl | assumption) (hρ _ _ _ rfl) ?_
    refine Ev_const rfl ?_
    refine Ev_iald rfl (by first | rfl | assumption) (vp_in_nI (n := 0) (by decide) (by decide)) ?_
    refine Ev_norm (by rw [MsI_x _ _ _ (by decide) (by decide)]; exact hh : _ = nI (aN A).1) ?_
    refine Ev_const rfl ?_
    refine Ev_idiv rfl (by decide : ¬ (256 : Int32) = 0) ?_
    refine Ev_norm (pk_div (a := (aN A).1) (d := 256) (by omega) (by decide) (by decide) : _ = nI ((aN A).1 / 256)) ?_
    refine Ev_callV rfl rfl rfl rfl rfl (same_n 402) (m_writes _ hρ (by decide)) ?_
    rintro v16 ρ16 σ16 ⟨rfl, e16, g16⟩
    obtain rfl := e16.symm
    subst g16
    refine Ev_aload rfl rfl rfl ?_
    refine Ev_aload rfl rfl rfl ?_
    refine Ev_getR rfl (by first | rfl | assumption) (hρ _ _ _ rfl) ?_
    refine Ev_const rfl ?_
    refine Ev_iald rfl (by first | rfl | assumption) (vp_in_nI (n := 0) (by decide) (by decide)) ?_
    refine Ev_norm (by rw [MsI_x _ _ _ (by decide) (by decide)]; exact hh : _ = nI (aN A).1) ?_
    refine Ev_const rfl ?_
    refine Ev_irem rfl (by decide : ¬ (256 : Int32) = 0) ?_
    refine Ev_norm (pk_rem (a := (aN A).1) (d := 256) (by omega) (by decide) (by decide) : _ = nI ((aN A).1 % 256)) ?_
    refine Ev_callV rfl rfl rfl rfl rfl (same_n 402) (m_writes _ hρ (by decide)) ?_
    rintro v30 ρ30 σ30 ⟨rfl, e30, g30⟩
    obtain rfl := e30.symm
    subst g30
    refine Ev_const rfl ?_
    refine Ev_istore rfl ?_
    have hg0 : gOk (upd (upd (σ.1 401) 0 (nI ((aN A).1 / 256))) 1 (nI ((aN A).1 % 256))) (2 + 0 * ni (aB A)) (fun j => nI (im0 (aB A) (aN A) j)) := by
      rw [Nat.zero_mul]
      exact ((show gOk (σ.1 401) 0 (fun j => nI (im0 (aB A) (aN A) j)) from fun j hj => absurd hj (Nat.not_lt_zero j)).add (by rw [e0])).add (by rw [e1])
    refine Ev_st rfl (show _ = MsI σ (upd (upd (σ.1 401) 0 (nI ((aN A).1 / 256))) 1 (nI ((aN A).1 % 256))) (2 + 0 * ni (aB A)) by rw [Nat.zero_mul]) ?_
    refine mwb_loop (d := 99) (N := aN A) (B := aB A) hρ hM.2.1.1 hW hM.2.2.2.1.2.1 (fun g w hg => ?_) (nb (aB A)) 0 _ (.float 0) (by omega) hg0
    refine Ev_const rfl ?_
    refine Ev_istore rfl ?_
    refine mwk_loop (d := 99) (N := aN A) hρ hM.2.1.1 hW hM.pl (fun g2 w2 hg2 => ?_) (2 * np (aB A)) 0 g w (by omega) hg
    refine Ev_aload rfl rfl rfl ?_
    refine Ev_aload rfl rfl rfl ?_
    refine Ev_getR rfl (by first | rfl | assumption) (hρ _ _ _ rfl) ?_
    refine Ev_aload rfl rfl rfl ?_
    refine Ev_getI rfl (by first | rfl | assumption) ?_
    refine Ev_norm (show _ = nI (imM (aB A)) by unfold MsI; rw [sR_0]; exact pk_us) ?_
    refine Ev_callS rfl rfl rfl rfl (same_n 402) (m_checked _ (L := 83) (f := im0 (aB A) (aN A)) rfl rfl (by omega) (by decide) (fun j hj => by unfold MsI; rw [sR_1 _ _ (by decide), sR_0]; exact hg2 j hj) (fun j hj => im0_lt hW hA.2.1 hj)) ?_
    rintro v115 ρ115 σ115 ⟨rfl, e115, g115⟩
    obtain rfl := e115.symm
    obtain rfl := g115.symm
    refine Ev_callV rfl rfl rfl rfl rfl (same_n 402) (m_writes _ hρ (by omega)) ?_
    rintro v118 ρ118 σ118 ⟨rfl, e118, g118⟩
    obtain rfl := e118.symm
    subst g118
    refine Ev_aload rfl rfl rfl ?_
    refine Ev_getI rfl (by first | rfl | assumption) ?_
    refine Ev_norm (show _ = nI (imM (aB A) + 1) by unfold MsI; rw [sR_0]; exact pk_us) ?_
    exact Ev_ireturn rfl rfl rfl rfl (by
    have hs : MF (fun q => Nat.beq q 401) (fun j => Nat.beq j 110) σ (MsI σ (upd g2 (imM (aB A)) (nI (ck (im0 (aB A) (aN A)) (imM (aB A))))) (imM (aB A) + 1)) := by
      have c1 : MF (fun q => Nat.beq q 401) (fun j => Nat.beq j 110) σ (sI σ 401 (upd g2 (imM (aB A)) (nI (ck (im0 (aB A) (aN A)) (imM (aB A)))))) := MF.cell _ (by decide) rfl
      have c2 := c1.tr (MF.put (C := fun q => Nat.beq q 401) (Fd := fun j => Nat.beq j 110) (f := 110) (nI (imM (aB A) + 1)) rfl)
      rw [sR_1 _ _ (by decide)] at c2
      exact c2
    have H' := hM
    obtain ⟨h0, h1, h5, h6, h7, h8, h9, h10, h11, h12, h13⟩ := hM
    refine ⟨rfl, rfl, (upC.put _ _ (by decide)).tr (upC.put _ _ (by decide)), H'.chg hs rfl (sG A (imA (aB A) (aN A))) rfl ?_ ?_ (h7.mf hs rfl rfl) (h8.mf hs rfl rfl) ?_ (h10.mf hs rfl rfl) (fun j hj => ?_) ?_ ⟨?_, fun j hj => ?_⟩⟩
    · rw [hs.2.2 _ rfl, hs.2.2 _ rfl]; exact h5
    · rw [hs.1 365 (by decide) rfl]; exact h6
    · rw [hs.2.1 326 (by decide)]; exact h9
    · rw [hs.1 328 (by decide) rfl]; exact h11 j hj
    · rw [hs.2.2 _ rfl, hs.2.2 _ rfl]; exact h12
    · unfold MsI; rw [sR_0, pk_us]; rfl
    · have hj : j < imM (aB A) + 1 := hj
      show (MsI σ _ _).1 401 j = nI ((imA (aB A) (aN A)).2 j)
      unfold MsI
      rw [sR_1 _ _ (by decide), sR_0]
      by_cases hq : j = imM (aB A)
      · rw [hq, pk_us, imA_hi]
      · rw [pk_un hq, imA_lo (by omega)]; exact hg2 j (by omega))
end S74
