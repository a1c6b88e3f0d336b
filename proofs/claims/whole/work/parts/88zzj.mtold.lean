/-! A question's formula on the reference's pile. -/
theorem clip_b {z : Int} (h : Bd z) : clip z = z := by
  have h1 := h.1
  have h2 := h.2
  unfold clip
  split
  · omega
  · split <;> omega
theorem land_1 : ∀ R, R < 256 → lI ((R : Nat) : Int) &&& 1 = lI ((R % 2 : Nat) : Int) := by decide +kernel
theorem l2i_8 : ∀ x, x < 8 → (lI ((x : Nat) : Int)).toInt32 = nI x := by decide +kernel
section S88zzj
variable {l : Launch} {X : Cx} {ρ : Rf} {σ : St} {B : Bh} {S : Str} {W : Nat → Nat}
/-- of a number: how an idea is known, whether it is ready -/
theorem m_qOf (d : Nat) {t i R : Nat} {x : Int} {see : Nat → Int} (hρ : RF ρ) (hN : MNum σ B) (hW : WfN B) (hS : MStr σ S) (hw : WfS B S) (hR : σ.1 367 i = nI R) (hR2 : R < 2 ^ ni B) (hi : i < 6) (hx : Bd x) (ht : t = 34 ∨ t = 35) (hs9 : see 9 = (R : Int)) (hsr : ∀ j, j < 8 → see (10 + j) = (S i j : Int)) :
    T l X (d + 2) 286 [.ref 326, .int (nI (t - 34)), .long (lI x), .int (nI i)] 402 402 ρ σ (Rs (.long (lI (one see t x))) ρ σ) := by
  have h8 := hW.1
  have hxi : (lI x).toInt = x := z_lL ⟨by have := hx.1; omega, by have := hx.2; omega⟩
  have hR8 : R < 256 := Nat.lt_of_lt_of_le hR2 (Nat.le_trans (Nat.pow_le_pow_right (by decide) h8) (by decide))
  have hd : decide (0 ≤ (lI x).toInt ∧ (lI x).toInt < (ni B : Int)) = decide (0 ≤ x ∧ x < (ni B : Int)) := by rw [hxi]
  by_cases hin : 0 ≤ x ∧ x < (ni B : Int)
  · obtain ⟨y, rfl⟩ : ∃ y : Nat, x = (y : Int) := ⟨x.toNat, by omega⟩
    have hy : y < 8 := by omega
    have e34 : t = 34 → one see t (y : Int) = ((S i y : Nat) : Int) := fun z => by
      unfold one
      rw [if_neg (by omega), if_neg (by omega), if_pos z, Int.toNat_natCast, hsr y hy]
    have e35 : t = 35 → one see t (y : Int) = ((R / 2 ^ y % 2 : Nat) : Int) := fun z => by
      unfold one
      rw [if_neg (by omega), if_neg (by omega), if_neg (by omega), Int.toNat_natCast, hs9, Int.toNat_natCast]
    rcases ht with rfl | rfl
    · rw [e34 rfl]
      refine T_of rfl ?_
      refine Ev_iload rfl rfl ?_
      refine Ev_look rfl rfl (swP_c (fun h1_0 => ?_) (fun g1_0 => swP_n ?_))
      · refine Ev_aload rfl rfl rfl ?_
        refine Ev_lload rfl rfl ?_
        refine Ev_callV rfl rfl rfl rfl rfl (same_n 402) (m_isIdea _ hρ hN hW _) ?_
        rintro v22 ρ22 σ22 ⟨rfl, e22, g22⟩
        obtain rfl := e22.symm
        obtain rfl := g22.symm
        refine Ev_norm (by rw [hd, decide_eq_true hin] : _ = bI true) ?_
        refine Ev_if_eq rfl (fun h25 => absurd h25 (show ¬ bI true = 0 by decide)) (fun h25 => ?_)
        refine Ev_aload rfl rfl rfl ?_
        refine Ev_iload rfl rfl ?_
        refine Ev_lload rfl rfl ?_
        refine Ev_l2i rfl ?_
        refine Ev_norm (l2i_8 y hy) ?_
        refine Ev_callV rfl rfl rfl rfl rfl (same_n 402) (m_strengthOf _ hρ hS hi hy) ?_
        rintro v33 ρ33 σ33 ⟨rfl, e33, g33⟩
        obtain rfl := e33.symm
        obtain rfl := g33.symm
        refine Ev_i2l rfl ?_
        refine Ev_normL (nI_lI _ (by have := (hw i y).1; omega)) ?_
        refine Ev_goto rfl ?_
        exact Ev_lreturn rfl rfl rfl ⟨rfl, rfl, rfl⟩
      · exact absurd (rfl : (nI 0).toInt = 0) g1_0
    · rw [e35 rfl]
      refine T_of rfl ?_
      refine Ev_iload rfl rfl ?_
      refine Ev_look rfl rfl (swP_c (fun h1_0 => ?_) (fun g1_0 => swP_n ?_))
      · exact absurd (h1_0 : (1 : Int) = 0) (by decide)
      · refine Ev_aload rfl rfl rfl ?_
        refine Ev_lload rfl rfl ?_
        refine Ev_callV rfl rfl rfl rfl rfl (same_n 402) (m_isIdea _ hρ hN hW _) ?_
        rintro v44 ρ44 σ44 ⟨rfl, e44, g44⟩
        obtain rfl := e44.symm
        obtain rfl := g44.symm
        refine Ev_norm (by rw [hd, decide_eq_true hin] : _ = bI true) ?_
        refine Ev_if_eq rfl (fun h47 => absurd h47 (show ¬ bI true = 0 by decide)) (fun h47 => ?_)
        refine Ev_aload rfl rfl rfl ?_
        refine Ev_getR rfl (by first | rfl | assumption) (hρ _ _ _ rfl) ?_
        refine Ev_iload rfl rfl ?_
        refine Ev_iald rfl (by first | rfl | assumption) (vp_in_nI (n := i) (show i < 6 by omega) (by decide)) ?_
        refine Ev_norm (by rw [nI_clamp (by omega)]; exact hR : _ = nI R) ?_
        refine Ev_lload rfl rfl ?_
        refine Ev_l2i rfl ?_
        refine Ev_norm (l2i_8 y hy) ?_
        refine Ev_ishr rfl ?_
        refine Ev_norm (show _ = nI (R / 2 ^ y) from sh_n y (by rcases (by omega : y = 0 ∨ y = 1 ∨ y = 2 ∨ y = 3 ∨ y = 4 ∨ y = 5 ∨ y = 6 ∨ y = 7) with rfl | rfl | rfl | rfl | rfl | rfl | rfl | rfl <;> decide) (by omega)) ?_
        refine Ev_i2l rfl ?_
        refine Ev_normL (nI_lI _ (by have := Nat.div_le_self R (2 ^ y); omega)) ?_
        refine Ev_constL rfl ?_
        refine Ev_land rfl ?_
        refine Ev_normL (land_1 _ (by have := Nat.div_le_self R (2 ^ y); omega)) ?_
        refine Ev_goto rfl ?_
        exact Ev_lreturn rfl rfl rfl ⟨rfl, rfl, rfl⟩
  · have e0 : one see t x = 0 := by
      unfold one
      rw [if_neg (by omega)]
      by_cases h1 : x < 0 ∨ 8 ≤ x
      · rw [if_pos h1]
      · rw [if_neg h1]
        obtain ⟨y, rfl⟩ : ∃ y : Nat, x = (y : Int) := ⟨x.toNat, by omega⟩
        have hy : y < 8 := by omega
        have hny : ni B ≤ y := by omega
        by_cases h2 : t = 34
        · rw [if_pos h2, Int.toNat_natCast, hsr y hy, (hw i y).2 (Or.inr hny)]; rfl
        · rw [if_neg h2, hs9, Int.toNat_natCast, Int.toNat_natCast, Nat.div_eq_of_lt (Nat.lt_of_lt_of_le hR2 (Nat.pow_le_pow_right (by decide) hny))]; rfl
    rw [e0]
    rcases ht with rfl | rfl
    · refine T_of rfl ?_
      refine Ev_iload rfl rfl ?_
      refine Ev_look rfl rfl (swP_c (fun h1_0 => ?_) (fun g1_0 => swP_n ?_))
      · refine Ev_aload rfl rfl rfl ?_
        refine Ev_lload rfl rfl ?_
        refine Ev_callV rfl rfl rfl rfl rfl (same_n 402) (m_isIdea _ hρ hN hW _) ?_
        rintro v22 ρ22 σ22 ⟨rfl, e22, g22⟩
        obtain rfl := e22.symm
        obtain rfl := g22.symm
        refine Ev_norm (by rw [hd, decide_eq_false hin] : _ = bI false) ?_
        refine Ev_if_eq rfl (fun h25 => ?_) (fun h25 => absurd rfl h25)
        refine Ev_constL rfl ?_
        exact Ev_lreturn rfl rfl rfl ⟨rfl, rfl, rfl⟩
      · exact absurd (rfl : (nI 0).toInt = 0) g1_0
    · refine T_of rfl ?_
      refine Ev_iload rfl rfl ?_
      refine Ev_look rfl rfl (swP_c (fun h1_0 => ?_) (fun g1_0 => swP_n ?_))
      · exact absurd (h1_0 : (1 : Int) = 0) (by decide)
      · refine Ev_aload rfl rfl rfl ?_
        refine Ev_lload rfl rfl ?_
        refine Ev_callV rfl rfl rfl rfl rfl (same_n 402) (m_isIdea _ hρ hN hW _) ?_
        rintro v44 ρ44 σ44 ⟨rfl, e44, g44⟩
        obtain rfl := e44.symm
        obtain rfl := g44.symm
        refine Ev_norm (by rw [hd, decide_eq_false hin] : _ = bI false) ?_
        refine Ev_if_eq rfl (fun h47 => ?_) (fun h47 => absurd rfl h47)
        refine Ev_constL rfl ?_
        exact Ev_lreturn rfl rfl rfl ⟨rfl, rfl, rfl⟩
abbrev QM (l : Launch) (X : Cx) (d i j : Nat) (w : Value) (ρ : Rf) (σ : St) (g : Nat → Int64) (n : Nat) (Q : Po) : Prop := Ev l X (d + 4) 287 7 [.ref 326, .int (nI i), .int (nI j), w] [] 402 402 402 ρ (MP σ g n) Q
theorem q_number {d i j n t b : Nat} {w : Value} {g : Nat → Int64} {Q : Po} (hρ : RF ρ) (hb : b ≤ 1600) (hj : j < b) (he : σ.1 326 100 = nI b) (hc : σ.1 398 j = nI (mc t)) (hn : n < 1700) (h0 : ¬ t < 9) (h1 : t % 256 = 32) (h2 : t / 256 ≤ 9999)
    (kk : QM l X d i (j + 1) (.int (nI (mc t))) ρ σ (vp_updL g n (lI ((t / 256 : Nat) : Int))) (n + 1) Q) : QM l X d i j w ρ σ g n Q := by
  have hm := mc_n h0 h1
  refine Ev_iload rfl rfl ?_
  refine Ev_aload rfl rfl rfl ?_
  refine Ev_getI rfl (by first | rfl | assumption) ?_
  refine Ev_norm (by rw [MP_f _ _ _ (by decide)]; exact he : _ = nI b) ?_
  refine Ev_icmp_ge rfl (fun h12 => absurd h12 (nI_ge hj (by omega))) (fun h12 => ?_)
  refine Ev_aload rfl rfl rfl ?_
  refine Ev_getR rfl (by first | rfl | assumption) (hρ _ _ _ rfl) ?_
  refine Ev_iload rfl rfl ?_
  refine Ev_iald rfl (by first | rfl | assumption) (vp_in_nI (n := j) (show j < 1700 by omega) (by decide)) ?_
  refine Ev_norm (by rw [nI_clamp (by omega), MP_q _ _ _ (by decide)]; exact hc : _ = nI (mc t)) ?_
  refine Ev_istore rfl ?_
  refine Ev_iload rfl rfl ?_
  refine Ev_const rfl ?_
  refine Ev_icmp_lt rfl (fun h26 => absurd h26 (nI_nlt (b := 1000) (by omega) (by omega))) (fun h26 => ?_)
  refine Ev_aload rfl rfl rfl ?_
  refine Ev_iload rfl rfl ?_
  refine Ev_const rfl ?_
  refine Ev_isub rfl ?_
  refine Ev_norm (by rw [hm]; exact (pk_sub (a := 1000 + t / 256) (b := 1000) (by omega)).trans (by rw [Nat.add_sub_cancel_left]) : _ = nI (t / 256)) ?_
  refine Ev_i2l rfl ?_
  refine Ev_normL (nI_lI (t / 256) (by omega)) ?_
  refine Ev_callV rfl rfl rfl rfl rfl (same_n 402) (m_qPuts _ hρ hn _) ?_
  rintro v36 ρ36 σ36 ⟨rfl, e36, g36⟩
  obtain rfl := e36.symm
  obtain rfl := g36.symm
  refine Ev_goto rfl ?_
  refine Ev_iincE rfl rfl (nI_1 j) ?_
  refine Ev_goto rfl ?_
  exact kk
theorem q_all {d i j n t b : Nat} {w : Value} {g : Nat → Int64} {Q : Po} (hρ : RF ρ) (hb : b ≤ 1600) (hj : j < b) (he : σ.1 326 100 = nI b) (hc : σ.1 398 j = nI (mc t)) (hn : n < 1700) (h1 : t = 47)
    (kk : QM l X d i (j + 1) (.int (nI (mc t))) ρ σ (vp_updL g n (lI 1)) (n + 1) Q) : QM l X d i j w ρ σ g n Q := by
  refine Ev_iload rfl rfl ?_
  refine Ev_aload rfl rfl rfl ?_
  refine Ev_getI rfl (by first | rfl | assumption) ?_
  refine Ev_norm (by rw [MP_f _ _ _ (by decide)]; exact he : _ = nI b) ?_
  refine Ev_icmp_ge rfl (fun h12 => absurd h12 (nI_ge hj (by omega))) (fun h12 => ?_)
  refine Ev_aload rfl rfl rfl ?_
  refine Ev_getR rfl (by first | rfl | assumption) (hρ _ _ _ rfl) ?_
  refine Ev_iload rfl rfl ?_
  refine Ev_iald rfl (by first | rfl | assumption) (vp_in_nI (n := j) (show j < 1700 by omega) (by decide)) ?_
  refine Ev_norm (by rw [nI_clamp (by omega), MP_q _ _ _ (by decide)]; exact hc : _ = nI (mc t)) ?_
  refine Ev_istore rfl ?_
  refine Ev_iload rfl rfl ?_
  refine Ev_const rfl ?_
  refine Ev_icmp_lt rfl (fun h26 => ?_) (fun h26 => absurd (show nI (mc t) < 1000 by rw [h1]; decide) h26)
  refine Ev_iload rfl rfl ?_
  refine Ev_const rfl ?_
  refine Ev_icmp_lt rfl (fun h45 => ?_) (fun h45 => absurd (show nI (mc t) < 60 by rw [h1]; decide) h45)
  refine Ev_iload rfl rfl ?_
  refine Ev_const rfl ?_
  refine Ev_icmp_lt rfl (fun h88 => ?_) (fun h88 => absurd (show nI (mc t) < 40 by rw [h1]; decide) h88)
  refine Ev_iload rfl rfl ?_
  refine Ev_const rfl ?_
  refine Ev_icmp_ne rfl (fun h113 => absurd (show nI (mc t) = 13 by rw [h1]; decide) h113) (fun h113 => ?_)
  refine Ev_aload rfl rfl rfl ?_
  refine Ev_constL rfl ?_
  refine Ev_callV rfl rfl rfl rfl rfl (same_n 402) (m_qPuts _ hρ hn _) ?_
  rintro v118 ρ118 σ118 ⟨rfl, e118, g118⟩
  obtain rfl := e118.symm
  obtain rfl := g118.symm
  refine Ev_goto rfl ?_
  refine Ev_iincE rfl rfl (nI_1 j) ?_
  refine Ev_goto rfl ?_
  exact kk
theorem q_sight {d i j n t b h tide R : Nat} {w : Value} {g : Nat → Int64} {Q : Po} (hρ : RF ρ) (hb : b ≤ 1600) (hj : j < b) (he : σ.1 326 100 = nI b) (hc : σ.1 398 j = nI (mc t)) (hn : n < 1700) (h1 : t < 9) (ho : sOk 4 t = true)
    (hA : MAll σ B S W h tide 4 i 0 0) (hW : WfN B) (hWt : WfT B) (hbd : ∀ b i, S b i ≤ 99) (hWb : ∀ b, W b ≤ 9) (hh : h ≤ 2000) (ht : tide ≤ 9)
    (kk : QM l X d i (j + 1) (.int (nI (mc t))) ρ σ (vp_updL g n (lI ((seeF B (S i) i (W i) h tide 0 0 R t : Nat) : Int))) (n + 1) Q) : QM l X d i j w ρ σ g n Q := by
  have hm := mc_s h1
  obtain ⟨a1, a2, a3, a4, a5⟩ := hA.mp g n
  have hbd2 : Bd ((seeF B (S i) i (W i) h tide 0 0 R t : Nat) : Int) := seeBd hWt (hWb i) hh ht (by decide) (show 4 < 5 by decide) (fun q => (hA.2.2.2.2.2.2.1 q).2) hW.2.1 (fun q => absurd q (by decide)) h1 ho
  have hcl : clip (lI ((seeF B (S i) i (W i) h tide 0 0 R t : Nat) : Int)).toInt = ((seeF B (S i) i (W i) h tide 0 0 R t : Nat) : Int) := by rw [z_lL ⟨by have := hbd2.1; omega, by have := hbd2.2; omega⟩, clip_b hbd2]
  refine Ev_iload rfl rfl ?_
  refine Ev_aload rfl rfl rfl ?_
  refine Ev_getI rfl (by first | rfl | assumption) ?_
  refine Ev_norm (by rw [MP_f _ _ _ (by decide)]; exact he : _ = nI b) ?_
  refine Ev_icmp_ge rfl (fun h12 => absurd h12 (nI_ge hj (by omega))) (fun h12 => ?_)
  refine Ev_aload rfl rfl rfl ?_
  refine Ev_getR rfl (by first | rfl | assumption) (hρ _ _ _ rfl) ?_
  refine Ev_iload rfl rfl ?_
  refine Ev_iald rfl (by first | rfl | assumption) (vp_in_nI (n := j) (show j < 1700 by omega) (by decide)) ?_
  refine Ev_norm (by rw [nI_clamp (by omega), MP_q _ _ _ (by decide)]; exact hc : _ = nI (mc t)) ?_
  refine Ev_istore rfl ?_
  refine Ev_iload rfl rfl ?_
  refine Ev_const rfl ?_
  refine Ev_icmp_lt rfl (fun h26 => ?_) (fun h26 => absurd (nI_lt (a := mc t) (b := 1000) (by omega) (by decide)) h26)
  refine Ev_iload rfl rfl ?_
  refine Ev_const rfl ?_
  refine Ev_icmp_lt rfl (fun h45 => ?_) (fun h45 => absurd (nI_lt (a := mc t) (b := 60) (by omega) (by decide)) h45)
  refine Ev_iload rfl rfl ?_
  refine Ev_const rfl ?_
  refine Ev_icmp_lt rfl (fun h88 => absurd h88 (nI_nlt (b := 40) (a := mc t) (by omega) (by omega))) (fun h88 => ?_)
  refine Ev_aload rfl rfl rfl ?_
  refine Ev_aload rfl rfl rfl ?_
  refine Ev_iload rfl rfl ?_
  refine Ev_const rfl ?_
  refine Ev_isub rfl ?_
  refine Ev_norm (by rw [hm]; exact (pk_sub (a := 40 + t) (b := 40) (by omega)).trans (by rw [Nat.add_sub_cancel_left]) : _ = nI t) ?_
  refine Ev_iload rfl rfl ?_
  refine Ev_callV rfl rfl rfl rfl rfl (same_n 402) (m_qPartOf (R := R) _ hρ a1 hW hWt a2 a3 hbd a4 hWb a5 hh ht (by decide) (by decide) h1 ho _) ?_
  rintro v98 ρ98 σ98 ⟨rfl, e98, g98⟩
  obtain rfl := e98.symm
  obtain rfl := g98.symm
  refine Ev_callS rfl rfl rfl rfl (same_n 402) (m_qClip _ _) ?_
  rintro v101 ρ101 σ101 ⟨rfl, e101, g101⟩
  obtain rfl := e101.symm
  obtain rfl := g101.symm
  refine Ev_normL (by rw [hcl] : _ = lI ((seeF B (S i) i (W i) h tide 0 0 R t : Nat) : Int)) ?_
  refine Ev_callV rfl rfl rfl rfl rfl (same_n 402) (m_qPuts _ hρ hn _) ?_
  rintro v104 ρ104 σ104 ⟨rfl, e104, g104⟩
  obtain rfl := e104.symm
  obtain rfl := g104.symm
  refine Ev_goto rfl ?_
  refine Ev_iincE rfl rfl (nI_1 j) ?_
  refine Ev_goto rfl ?_
  exact kk
theorem q_of {d i j n t b R h tide : Nat} {x : Int} {w : Value} {g : Nat → Int64} {see : Nat → Int} {Q : Po} (hρ : RF ρ) (hb : b ≤ 1600) (hj : j < b) (he : σ.1 326 100 = nI b) (hc : σ.1 398 j = nI (mc t)) (hn : n < 1700) (h1 : t = 34 ∨ t = 35) (hA : MAll σ B S W h tide 4 i 0 0) (hW : WfN B) (hw : WfS B S) (hR : σ.1 367 i = nI R) (hR2 : R < 2 ^ ni B) (hi : i < 6) (hx : g n = lI x) (hx2 : Bd x) (hs9 : see 9 = (R : Int)) (hsr : ∀ j, j < 8 → see (10 + j) = (S i j : Int)) (hbo : Bd (one see t x))
    (kk : QM l X d i (j + 1) (.int (nI (mc t))) ρ σ (vp_updL g n (lI (one see t x))) (n + 1) Q) : QM l X d i j w ρ σ g (n + 1) Q := by
  have hm : mc t = t + 26 := by rcases h1 with rfl | rfl <;> rfl
  obtain ⟨a1, a2, a3, a4, a5⟩ := hA.mp g (n + 1)
  have hcl : clip (lI (one see t x)).toInt = one see t x := by rw [z_lL ⟨by have := hbo.1; omega, by have := hbo.2; omega⟩, clip_b hbo]
  refine Ev_iload rfl rfl ?_
  refine Ev_aload rfl rfl rfl ?_
  refine Ev_getI rfl (by first | rfl | assumption) ?_
  refine Ev_norm (by rw [MP_f _ _ _ (by decide)]; exact he : _ = nI b) ?_
  refine Ev_icmp_ge rfl (fun h12 => absurd h12 (nI_ge hj (by omega))) (fun h12 => ?_)
  refine Ev_aload rfl rfl rfl ?_
  refine Ev_getR rfl (by first | rfl | assumption) (hρ _ _ _ rfl) ?_
  refine Ev_iload rfl rfl ?_
  refine Ev_iald rfl (by first | rfl | assumption) (vp_in_nI (n := j) (show j < 1700 by omega) (by decide)) ?_
  refine Ev_norm (by rw [nI_clamp (by omega), MP_q _ _ _ (by decide)]; exact hc : _ = nI (mc t)) ?_
  refine Ev_istore rfl ?_
  refine Ev_iload rfl rfl ?_
  refine Ev_const rfl ?_
  refine Ev_icmp_lt rfl (fun h26 => ?_) (fun h26 => absurd (nI_lt (a := mc t) (b := 1000) (by omega) (by decide)) h26)
  refine Ev_iload rfl rfl ?_
  refine Ev_const rfl ?_
  refine Ev_icmp_lt rfl (fun h45 => absurd h45 (nI_nlt (b := 60) (a := mc t) (by omega) (by omega))) (fun h45 => ?_)
  refine Ev_aload rfl rfl rfl ?_
  refine Ev_getR rfl (by first | rfl | assumption) (hρ _ _ _ rfl) ?_
  refine Ev_aload rfl rfl rfl ?_
  refine Ev_getI rfl (by first | rfl | assumption) ?_
  refine Ev_norm (MP_n σ g (n + 1)) ?_
  refine Ev_const rfl ?_
  refine Ev_isub rfl ?_
  refine Ev_norm (nI_pred n) ?_
  refine Ev_aload rfl rfl rfl ?_
  refine Ev_iload rfl rfl ?_
  refine Ev_const rfl ?_
  refine Ev_isub rfl ?_
  refine Ev_norm (by rw [hm]; exact (pk_sub (a := t + 26) (b := 60) (by omega)).trans (by rw [show t + 26 - 60 = t - 34 by omega]) : _ = nI (t - 34)) ?_
  refine Ev_aload rfl rfl rfl ?_
  refine Ev_getR rfl (by first | rfl | assumption) (hρ _ _ _ rfl) ?_
  refine Ev_aload rfl rfl rfl ?_
  refine Ev_getI rfl (by first | rfl | assumption) ?_
  refine Ev_norm (MP_n σ g (n + 1)) ?_
  refine Ev_const rfl ?_
  refine Ev_isub rfl ?_
  refine Ev_norm (nI_pred n) ?_
  refine Ev_lald rfl (by first | rfl | assumption) (vp_in_nI (n := n) (show n < 1700 from hn) (by decide)) ?_
  refine Ev_normL (by rw [nI_clamp (by omega)]; exact hx : _ = lI x) ?_
  refine Ev_iload rfl rfl ?_
  refine Ev_callV rfl rfl rfl rfl rfl (same_n 402) (m_qOf _ hρ a1 hW a3 hw (by rw [MP_q _ _ _ (by decide)]; exact hR) hR2 hi hx2 h1 hs9 hsr) ?_
  rintro v75 ρ75 σ75 ⟨rfl, e75, g75⟩
  obtain rfl := e75.symm
  obtain rfl := g75.symm
  refine Ev_callS rfl rfl rfl rfl (same_n 402) (m_qClip _ _) ?_
  rintro v78 ρ78 σ78 ⟨rfl, e78, g78⟩
  obtain rfl := e78.symm
  obtain rfl := g78.symm
  refine Ev_normL (by rw [hcl] : _ = lI (one see t x)) ?_
  refine Ev_last rfl (by first | rfl | assumption) (vp_in_nI (n := n) (show n < 1700 from hn) (by decide)) ?_
  refine Ev_st rfl (show _ = MP σ (vp_updL g n (lI (one see t x))) (n + 1) by rw [nI_clamp (by omega)]; exact MP_L σ g _ (n + 1)) ?_
  refine Ev_goto rfl ?_
  refine Ev_iincE rfl rfl (nI_1 j) ?_
  refine Ev_goto rfl ?_
  exact kk
theorem q_not {d i j n t b : Nat} {x : Int} {w : Value} {g : Nat → Int64} {Q : Po} (hρ : RF ρ) (hb : b ≤ 1600) (hj : j < b) (he : σ.1 326 100 = nI b) (hc : σ.1 398 j = nI (mc t)) (hn : n < 1700) (h1 : t = 33) (hx : g n = lI x) (hx2 : x = 0 ∨ x = 1) {see : Nat → Int}
    (kk : QM l X d i (j + 1) (.int (nI (mc t))) ρ σ (vp_updL g n (lI (one see 33 x))) (n + 1) Q) : QM l X d i j w ρ σ g (n + 1) Q := by
  have e1 : (1 : Int64) - lI x = lI (one see 33 x) := by
    unfold one
    rw [if_pos rfl]
    rcases hx2 with rfl | rfl
    · rw [if_pos rfl]; rfl
    · rw [if_neg (by decide)]; rfl
  refine Ev_iload rfl rfl ?_
  refine Ev_aload rfl rfl rfl ?_
  refine Ev_getI rfl (by first | rfl | assumption) ?_
  refine Ev_norm (by rw [MP_f _ _ _ (by decide)]; exact he : _ = nI b) ?_
  refine Ev_icmp_ge rfl (fun h12 => absurd h12 (nI_ge hj (by omega))) (fun h12 => ?_)
  refine Ev_aload rfl rfl rfl ?_
  refine Ev_getR rfl (by first | rfl | assumption) (hρ _ _ _ rfl) ?_
  refine Ev_iload rfl rfl ?_
  refine Ev_iald rfl (by first | rfl | assumption) (vp_in_nI (n := j) (show j < 1700 by omega) (by decide)) ?_
  refine Ev_norm (by rw [nI_clamp (by omega), MP_q _ _ _ (by decide)]; exact hc : _ = nI (mc t)) ?_
  refine Ev_istore rfl ?_
  refine Ev_iload rfl rfl ?_
  refine Ev_const rfl ?_
  refine Ev_icmp_lt rfl (fun h26 => ?_) (fun h26 => absurd (show nI (mc t) < 1000 by rw [h1]; decide) h26)
  refine Ev_iload rfl rfl ?_
  refine Ev_const rfl ?_
  refine Ev_icmp_lt rfl (fun h45 => ?_) (fun h45 => absurd (show nI (mc t) < 60 by rw [h1]; decide) h45)
  refine Ev_iload rfl rfl ?_
  refine Ev_const rfl ?_
  refine Ev_icmp_lt rfl (fun h88 => ?_) (fun h88 => absurd (show nI (mc t) < 40 by rw [h1]; decide) h88)
  refine Ev_iload rfl rfl ?_
  refine Ev_const rfl ?_
  refine Ev_icmp_ne rfl (fun h113 => ?_) (fun h113 => absurd (show ¬ nI (mc t) = 13 by rw [h1]; decide) h113)
  refine Ev_iload rfl rfl ?_
  refine Ev_const rfl ?_
  refine Ev_icmp_ne rfl (fun h127 => absurd (show nI (mc t) = 12 by rw [h1]; decide) h127) (fun h127 => ?_)
  refine Ev_aload rfl rfl rfl ?_
  refine Ev_getR rfl (by first | rfl | assumption) (hρ _ _ _ rfl) ?_
  refine Ev_aload rfl rfl rfl ?_
  refine Ev_getI rfl (by first | rfl | assumption) ?_
  refine Ev_norm (MP_n σ g (n + 1)) ?_
  refine Ev_const rfl ?_
  refine Ev_isub rfl ?_
  refine Ev_norm (nI_pred n) ?_
  refine Ev_constL rfl ?_
  refine Ev_aload rfl rfl rfl ?_
  refine Ev_getR rfl (by first | rfl | assumption) (hρ _ _ _ rfl) ?_
  refine Ev_aload rfl rfl rfl ?_
  refine Ev_getI rfl (by first | rfl | assumption) ?_
  refine Ev_norm (MP_n σ g (n + 1)) ?_
  refine Ev_const rfl ?_
  refine Ev_isub rfl ?_
  refine Ev_norm (nI_pred n) ?_
  refine Ev_lald rfl (by first | rfl | assumption) (vp_in_nI (n := n) (show n < 1700 from hn) (by decide)) ?_
  refine Ev_normL (by rw [nI_clamp (by omega)]; exact hx : _ = lI x) ?_
  refine Ev_lsub rfl ?_
  refine Ev_normL e1 ?_
  refine Ev_last rfl (by first | rfl | assumption) (vp_in_nI (n := n) (show n < 1700 from hn) (by decide)) ?_
  refine Ev_st rfl (show _ = MP σ (vp_updL g n (lI (one see 33 x))) (n + 1) by rw [nI_clamp (by omega)]; exact MP_L σ g _ (n + 1)) ?_
  refine Ev_goto rfl ?_
  refine Ev_iincE rfl rfl (nI_1 j) ?_
  refine Ev_goto rfl ?_
  exact kk
theorem q_two {d i j n t b : Nat} {x y : Int} {w : Value} {g : Nat → Int64} {Q : Po} (hρ : RF ρ) (hb : b ≤ 1600) (hj : j < b) (he : σ.1 326 100 = nI b) (hc : σ.1 398 j = nI (mc t)) (hn : n + 2 ≤ 1700) (h1 : 36 ≤ t ∧ t ≤ 46) (hx : g n = lI x) (hy : g (n + 1) = lI y) (hx2 : Bd x) (hy2 : Bd y)
    (kk : QM l X d i (j + 1) (.int (nI (mc t))) ρ σ (vp_updL g n (lI (two t x y))) (n + 1) Q) : QM l X d i j w ρ σ g (n + 2) Q := by
  have hm := mc_2 h1
  have hm2 : mc t ≤ 11 := by unfold MO at hm; omega
  refine Ev_iload rfl rfl ?_
  refine Ev_aload rfl rfl rfl ?_
  refine Ev_getI rfl (by first | rfl | assumption) ?_
  refine Ev_norm (by rw [MP_f _ _ _ (by decide)]; exact he : _ = nI b) ?_
  refine Ev_icmp_ge rfl (fun h12 => absurd h12 (nI_ge hj (by omega))) (fun h12 => ?_)
  refine Ev_aload rfl rfl rfl ?_
  refine Ev_getR rfl (by first | rfl | assumption) (hρ _ _ _ rfl) ?_
  refine Ev_iload rfl rfl ?_
  refine Ev_iald rfl (by first | rfl | assumption) (vp_in_nI (n := j) (show j < 1700 by omega) (by decide)) ?_
  refine Ev_norm (by rw [nI_clamp (by omega), MP_q _ _ _ (by decide)]; exact hc : _ = nI (mc t)) ?_
  refine Ev_istore rfl ?_
  refine Ev_iload rfl rfl ?_
  refine Ev_const rfl ?_
  refine Ev_icmp_lt rfl (fun h26 => ?_) (fun h26 => absurd (nI_lt (a := mc t) (b := 1000) (by omega) (by decide)) h26)
  refine Ev_iload rfl rfl ?_
  refine Ev_const rfl ?_
  refine Ev_icmp_lt rfl (fun h45 => ?_) (fun h45 => absurd (nI_lt (a := mc t) (b := 60) (by omega) (by decide)) h45)
  refine Ev_iload rfl rfl ?_
  refine Ev_const rfl ?_
  refine Ev_icmp_lt rfl (fun h88 => ?_) (fun h88 => absurd (nI_lt (a := mc t) (b := 40) (by omega) (by decide)) h88)
  refine Ev_iload rfl rfl ?_
  refine Ev_const rfl ?_
  refine Ev_icmp_ne rfl (fun h113 => ?_) (fun h113 => absurd ((nI_lit (z := 13) (n := 13) rfl (by omega) (by decide)).mp (Decidable.not_not.mp h113)) (by omega))
  refine Ev_iload rfl rfl ?_
  refine Ev_const rfl ?_
  refine Ev_icmp_ne rfl (fun h127 => ?_) (fun h127 => absurd ((nI_lit (z := 12) (n := 12) rfl (by omega) (by decide)).mp (Decidable.not_not.mp h127)) (by omega))
  refine Ev_aload rfl rfl rfl ?_
  refine Ev_iload rfl rfl ?_
  refine Ev_callV rfl rfl rfl rfl rfl (same_n 402) (m_qJoins _ hρ hn hm hx hy hx2 hy2) ?_
  rintro v159 ρ159 σ159 ⟨rfl, e159, g159⟩
  obtain rfl := e159.symm
  obtain rfl := g159.symm
  refine Ev_iincE rfl rfl (nI_1 j) ?_
  refine Ev_goto rfl ?_
  exact kk
theorem q_loop {d b h tide i R : Nat} (hρ : RF ρ) (hb : b ≤ 1600) (he : σ.1 326 100 = nI b) (hA : MAll σ B S W h tide 4 i 0 0) (hW : WfN B) (hWt : WfT B) (hw : WfS B S) (hWb : ∀ b, W b ≤ 9) (hh : h ≤ 2000) (ht : tide ≤ 9) (hi : i < 6) (hR : σ.1 367 i = nI R) (hR2 : R < 2 ^ ni B) {tf : List Bool} (htf : tf ≠ []) :
    ∀ (cs : List Nat) (j : Nat) (st : List Int) (ts : List Bool) (g : Nat → Int64) (w : Value), j + cs.length = b → (∀ q, q < cs.length → σ.1 398 (j + q) = nI (mc (cs.getD q 0))) → wty 4 cs ts = some tf → ts.length ≤ 64 → OkS st ts → PileL g st →
      QM l X d i j w ρ σ g st.length (TelQ ρ σ ((evs (fun s => ((seeF B (S i) i (W i) h tide 0 0 R s : Nat) : Int)) cs st).getLastD 0)) := by
  have h8 := hW.1
  have hbd : ∀ b i, S b i ≤ 99 := fun b i => (hw b i).1
  have hR8 : R < 256 := Nat.lt_of_lt_of_le hR2 (Nat.le_trans (Nat.pow_le_pow_right (by decide) h8) (by decide))
  have hB : ∀ s, s < 9 → sOk 4 s = true → Bd ((seeF B (S i) i (W i) h tide 0 0 R s : Nat) : Int) := fun s hs ho => seeBd hWt (hWb i) hh ht (by decide) (show 4 < 5 by decide) (fun q => (hA.2.2.2.2.2.2.1 q).2) hW.2.1 (fun q => absurd q (by decide)) hs ho
  have hB2 : 4 = 4 → ∀ s, 10 ≤ s → s < 18 → Bd ((seeF B (S i) i (W i) h tide 0 0 R s : Nat) : Int) := fun _ s h1 h2 => by
    obtain ⟨s', rfl⟩ : ∃ s', s = s' + 10 := ⟨s - 10, by omega⟩
    show Bd ((S i s' : Nat) : Int)
    have := hbd i s'
    exact ⟨by omega, by omega⟩
  intro cs
  induction cs with
  | nil =>
    intro j st ts g w hj hc hty hl hks hp
    simp only [List.length_nil, Nat.add_zero] at hj
    have hty : some ts = some tf := hty
    have hne : 0 < st.length := by
      rw [OkS_len hks, Option.some.inj hty]
      match tf, htf with
      | [], q => exact absurd rfl q
      | _ :: _, _ => exact Nat.succ_pos _
    show QM l X d i j w ρ σ g st.length (TelQ ρ σ (st.getLastD 0))
    refine Ev_iload rfl rfl ?_
    refine Ev_aload rfl rfl rfl ?_
    refine Ev_getI rfl (by first | rfl | assumption) ?_
    refine Ev_norm (by rw [MP_f _ _ _ (by decide)]; exact he : _ = nI b) ?_
    refine Ev_icmp_ge rfl (fun h12 => ?_) (fun h12 => absurd (nI_le (a := b) (b := j) (by omega) (by omega)) h12)
    refine Ev_aload rfl rfl rfl ?_
    refine Ev_getR rfl (by first | rfl | assumption) (hρ _ _ _ rfl) ?_
    refine Ev_const rfl ?_
    refine Ev_lald rfl (by first | rfl | assumption) (vp_in_nI (n := 0) (by decide) (by decide)) ?_
    exact Ev_lreturn rfl rfl rfl ⟨by rw [← hp.bot hne]; rfl, rfl, g, st.length, rfl⟩
  | cons t cs ih =>
    intro j st ts g w hj hc hty hl hks hp
    rw [List.length_cons] at hj
    unfold wty at hty
    cases hw1 : wt1 4 t ts with
    | none => rw [hw1] at hty; cases hty
    | some ts' =>
      rw [hw1] at hty
      have hst := stp_ok (see := fun s => ((seeF B (S i) i (W i) h tide 0 0 R s : Nat) : Int)) hw1 hks hB hB2
      have hl' := wt1_len hw1 hl
      have hlen := OkS_len hks
      have hc0 : σ.1 398 j = nI (mc t) := hc 0 (by rw [List.length_cons]; omega)
      have hbj : j < b := by omega
      have next : ∀ (x : Int) (r : List Int) (w' : Value) (n : Nat), stp (fun s => ((seeF B (S i) i (W i) h tide 0 0 R s : Nat) : Int)) t st = x :: r → n = r.length → PileL g r → QM l X d i (j + 1) w' ρ σ (vp_updL g n (lI x)) (n + 1) (TelQ ρ σ ((evs (fun s => ((seeF B (S i) i (W i) h tide 0 0 R s : Nat) : Int)) (t :: cs) st).getLastD 0)) := by
        intro x r w' n hv' hn hr
        subst hn
        have hx := ih (j + 1) (x :: r) ts' (vp_updL g r.length (lI x)) w' (by omega) (fun q hq => by
          rw [show j + 1 + q = j + (q + 1) by omega, hc (q + 1) (by rw [List.length_cons]; omega)]
          rfl) hty hl' (hv' ▸ hst) (hr.push x)
        show QM l X d i (j + 1) w' ρ σ (vp_updL g r.length (lI x)) (r.length + 1) (TelQ ρ σ ((evs _ cs (stp (fun s => ((seeF B (S i) i (W i) h tide 0 0 R s : Nat) : Int)) t st)).getLastD 0))
        rw [hv']
        exact hx
      rcases wt1_inv hw1 with ⟨h1, h2, h3, rfl⟩ | ⟨h0, h1, h2, h3, rfl⟩ | ⟨h1, h3, rfl⟩ | ⟨r, h1, rfl, rfl⟩ | ⟨r, h1, h2, rfl, rfl⟩ | ⟨r, h1, rfl, rfl⟩ | ⟨r, h1, rfl, rfl⟩ | ⟨r, h1, rfl, rfl⟩
      · exact q_sight (R := R) hρ hb hbj he hc0 (by omega) h1 h2 hA hW hWt hbd hWb hh ht (next _ _ _ _ (by unfold stp; rw [if_pos h1]) rfl hp)
      · exact q_number hρ hb hbj he hc0 (by omega) h0 h1 h2 (next ((t / 256 : Nat) : Int) _ _ _ (by unfold stp; rw [if_neg h0, if_pos h1]) rfl hp)
      · exact q_all hρ hb hbj he hc0 (by omega) h1 (next 1 _ _ _ (by unfold stp; rw [if_neg (by omega), if_neg (by omega), if_pos h1]) rfl hp)
      · match st, hks, hp, hlen, next with
        | x :: st, hks, hp, hlen, next =>
          exact q_not hρ hb hbj he hc0 (by simp only [List.length_cons] at hlen hl; omega) h1 hp.top (hks.1.2 rfl) (next _ st _ _ (by unfold stp; rw [if_neg (by omega), if_neg (by omega), if_neg (by omega), if_pos (by omega), h1]) rfl hp.tail)
        | [], hks, _, _, _ => exact hks.elim
      · match st, hks, hp, hlen, next, hst with
        | x :: st, hks, hp, hlen, next, hst =>
          have hbo : Bd (one (fun s => ((seeF B (S i) i (W i) h tide 0 0 R s : Nat) : Int)) t x) := Bd_know rfl hB2 h1
          exact q_of (see := fun s => ((seeF B (S i) i (W i) h tide 0 0 R s : Nat) : Int)) hρ hb hbj he hc0 (by simp only [List.length_cons] at hlen hl; omega) h1 hA hW hw hR hR2 hi hp.top hks.1.1 rfl (fun j _ => by show ((seeF B (S i) i (W i) h tide 0 0 R (10 + j) : Nat) : Int) = _; rw [Nat.add_comm]; rfl) hbo (next _ st _ _ (by unfold stp; rw [if_neg (by omega), if_neg (by omega), if_neg (by omega), if_pos (by omega)]) rfl hp.tail)
        | [], hks, _, _, _, _ => exact hks.elim
      · match st, hks, hp, hlen, next with
        | y :: x :: st, hks, hp, hlen, next =>
          exact q_two hρ hb hbj he hc0 (by simp only [List.length_cons] at hlen hl; omega) (by omega) hp.tail.top hp.top hks.2.1.1 hks.1.1 (next _ st _ _ (by unfold stp; rw [if_neg (by omega), if_neg (by omega), if_neg (by omega), if_neg (by omega)]) rfl hp.tail.tail)
        | [x], hks, _, _, _ => exact hks.2.elim
        | [], hks, _, _, _ => exact hks.elim
      · match st, hks, hp, hlen, next with
        | y :: x :: st, hks, hp, hlen, next =>
          exact q_two hρ hb hbj he hc0 (by simp only [List.length_cons] at hlen hl; omega) (by omega) hp.tail.top hp.top hks.2.1.1 hks.1.1 (next _ st _ _ (by unfold stp; rw [if_neg (by omega), if_neg (by omega), if_neg (by omega), if_neg (by omega)]) rfl hp.tail.tail)
        | [x], hks, _, _, _ => exact hks.2.elim
        | [], hks, _, _, _ => exact hks.elim
      · match st, hks, hp, hlen, next with
        | y :: x :: st, hks, hp, hlen, next =>
          exact q_two hρ hb hbj he hc0 (by simp only [List.length_cons] at hlen hl; omega) (by omega) hp.tail.top hp.top hks.2.1.1 hks.1.1 (next _ st _ _ (by unfold stp; rw [if_neg (by omega), if_neg (by omega), if_neg (by omega), if_neg (by omega)]) rfl hp.tail.tail)
        | [x], hks, _, _, _ => exact hks.2.elim
        | [], hks, _, _, _ => exact hks.elim
/-- what a question tells of one -/
theorem m_qTold (d : Nat) {h tide i R : Nat} {cs : List Nat} {tf : Bool} (hρ : RF ρ) (hb : cs.length ≤ 1600) (he : σ.1 326 100 = nI cs.length) (hc : ∀ q, q < cs.length → σ.1 398 q = nI (mc (cs.getD q 0))) (hty : wty 4 cs [] = some [tf]) (hA : MAll σ B S W h tide 4 i 0 0) (hW : WfN B) (hWt : WfT B) (hw : WfS B S) (hWb : ∀ b, W b ≤ 9) (hh : h ≤ 2000) (ht : tide ≤ 9) (hi : i < 6) (hR : σ.1 367 i = nI R) (hR2 : R < 2 ^ ni B) :
    T l X (d + 4) 287 [.ref 326, .int (nI i)] 402 402 ρ σ (TelQ ρ σ (evF (fun s => ((seeF B (S i) i (W i) h tide 0 0 R s : Nat) : Int)) cs)) := by
  refine T_of rfl ?_
  refine Ev_aload rfl rfl rfl ?_
  refine Ev_const rfl ?_
  refine Ev_putI rfl (by first | rfl | assumption) ⟨rfl, rfl⟩ rfl ?_
  refine Ev_const rfl ?_
  refine Ev_istore rfl ?_
  rw [MP_0]
  exact q_loop (d := d) hρ hb he hA hW hWt hw hWb hh ht hi hR hR2 (List.cons_ne_nil _ _) cs 0 [] [] _ _ (Nat.zero_add _) (fun q hq => by rw [Nat.zero_add]; exact hc q hq) hty (Nat.zero_le _) trivial (PileL.nil _)
end S88zzj
