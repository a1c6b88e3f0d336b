/-! A formula's run on the reference's pile. -/
/-- the reference's number for a token -/
def mc (t : Nat) : Nat := if t < 9 then 40 + t else if t % 256 = 32 then 1000 + t / 256 else if t = 47 then 13 else if t = 33 then 12 else if t = 34 then 60 else if t = 35 then 61 else if t ≤ 39 then t - 35 else if t ≤ 44 then t - 33 else t - 40
theorem mc_s {t : Nat} (h : t < 9) : mc t = 40 + t := if_pos h
theorem mc_n {t : Nat} (h0 : ¬ t < 9) (h : t % 256 = 32) : mc t = 1000 + t / 256 := by unfold mc; rw [if_neg h0, if_pos h]
theorem mc_2 {t : Nat} (h : 36 ≤ t ∧ t ≤ 46) : MO (mc t) t := by
  rcases (by omega : t = 36 ∨ t = 37 ∨ t = 38 ∨ t = 39 ∨ t = 40 ∨ t = 41 ∨ t = 42 ∨ t = 43 ∨ t = 44 ∨ t = 45 ∨ t = 46) with rfl | rfl | rfl | rfl | rfl | rfl | rfl | rfl | rfl | rfl | rfl <;> (unfold MO; decide)
def PileL (g : Nat → Int64) (st : List Int) : Prop := ∀ j, j < st.length → g j = lI (st.getD (st.length - 1 - j) 0)
theorem PileL.nil (g : Nat → Int64) : PileL g [] := fun j h => absurd h (Nat.not_lt_zero j)
theorem PileL.tail {g : Nat → Int64} {a : Int} {st : List Int} (h : PileL g (a :: st)) : PileL g st := fun j hj => by
  rw [h j (by rw [List.length_cons]; omega), List.length_cons, show st.length + 1 - 1 - j = (st.length - 1 - j) + 1 by omega]
  rfl
theorem PileL.top {g : Nat → Int64} {a : Int} {st : List Int} (h : PileL g (a :: st)) : g st.length = lI a := by
  rw [h st.length (by rw [List.length_cons]; omega), List.length_cons, show st.length + 1 - 1 - st.length = 0 by omega]
  rfl
theorem PileL.push {g : Nat → Int64} {st : List Int} (h : PileL g st) (v : Int) : PileL (vp_updL g st.length (lI v)) (v :: st) := fun j hj => by
  rw [List.length_cons] at hj ⊢
  by_cases hjl : j = st.length
  · subst hjl
    rw [pk_uLs, show st.length + 1 - 1 - st.length = 0 by omega]
    rfl
  · rw [pk_uLn hjl, h j (by omega), show st.length + 1 - 1 - j = (st.length - 1 - j) + 1 by omega]
    rfl
theorem PileL.bot {g : Nat → Int64} {st : List Int} (h : PileL g st) (hs : 0 < st.length) : g 0 = lI (st.getLastD 0) := by
  rw [h 0 hs]
  congr 1
  rw [List.getLastD_eq_getLast?, List.getLast?_eq_getElem?, List.getD_eq_getElem?_getD]
  rfl
def MAll (σ : St) (B : Bh) (S : Str) (W : Nat → Nat) (h tide k a i v : Nat) : Prop := MNum σ B ∧ MTab σ B ∧ MStr σ S ∧ MWit σ B W ∧ MSee σ B h tide k a i v
theorem MAll.mp {σ : St} {B : Bh} {S : Str} {W : Nat → Nat} {h tide k a i v : Nat} (H : MAll σ B S W h tide k a i v) (g : Nat → Int64) (n : Nat) : MAll (MP σ g n) B S W h tide k a i v := by
  obtain ⟨h1, h2, h3, h4, h5, h6, h7, h8, h9⟩ := H
  refine ⟨fun q hq => ?_, ⟨fun i hi => ?_, fun b hb => ?_⟩, fun b i hb hi => ?_, fun b hb => ?_, ?_, fun q => ?_, fun q => ?_, fun q => ?_, fun q => ?_⟩
  · rw [MP_q σ g n (by decide)]; exact h1 q hq
  · rw [MP_q σ g n (by decide), MP_q σ g n (by decide)]; exact h2.1 i hi
  · rw [MP_q σ g n (by decide)]; exact h2.2 b hb
  · rw [MP_q σ g n (by decide)]; exact h3 b i hb hi
  · rw [MP_f σ g n (by decide), MP_f σ g n (by decide), MP_q σ g n (by decide)]; exact h4 b hb
  · rw [MP_q σ g n (by decide)]; exact h5
  · rw [MP_f σ g n (by decide)]; exact h6 q
  · rw [MP_f σ g n (by decide)]; exact h7 q
  · rw [MP_f σ g n (by decide)]; exact h8 q
  · rw [MP_f σ g n (by decide)]; exact h9 q
theorem MP_MP (σ : St) (g g' : Nat → Int64) (n m : Nat) : MP (MP σ g n) g' m = MP σ g' m := by
  refine Prod.ext (funext fun q => ?_) (funext fun q => ?_)
  · show (if q = 326 then _ else if q = 326 then _ else σ.1 q) = if q = 326 then _ else σ.1 q
    by_cases h : q = 326
    · rw [if_pos h, if_pos h]
      refine funext fun j => ?_
      by_cases hj : j = 106
      · subst hj; rw [pk_us, pk_us]
      · rw [pk_un hj, pk_un hj, MP_f σ g n hj]
    · rw [if_neg h, if_neg h, if_neg h]
  · show (if q = 400 then _ else if q = 400 then g else σ.2 q) = if q = 400 then _ else σ.2 q
    by_cases h : q = 400
    · rw [if_pos h, if_pos h]
    · rw [if_neg h, if_neg h, if_neg h]
theorem MP_L (σ : St) (g g' : Nat → Int64) (n : Nat) : sL (MP σ g n) 400 g' = MP σ g' n := by
  refine Prod.ext rfl (funext fun q => ?_)
  show (if q = 400 then _ else if q = 400 then g else σ.2 q) = if q = 400 then _ else σ.2 q
  by_cases h : q = 400
  · rw [if_pos h, if_pos h]
  · rw [if_neg h, if_neg h, if_neg h]
section S29
variable {l : Launch} {X : Cx} {ρ : Rf} {σ : St} {B : Bh} {S : Str} {W : Nat → Nat}
abbrev VM (l : Launch) (X : Cx) (d k j : Nat) (w : Value) (ρ : Rf) (σ : St) (g : Nat → Int64) (n : Nat) (Q : Po) : Prop := Ev l X (d + 4) 204 19 [.ref 326, .int (nI k), .int (nI j), w] [] 402 402 402 ρ (MP σ g n) Q
theorem w_number {d k j n t b : Nat} {w : Value} {g : Nat → Int64} {Q : Po} (hρ : RF ρ) (hk : k < 4) (hb : b ≤ 1600) (hj : j < b) (he : σ.1 363 (4 + k) = nI b) (hc : σ.1 364 (1600 + j) = nI (mc t)) (hn : n < 1700) (h0 : ¬ t < 9) (h1 : t % 256 = 32) (h2 : t / 256 ≤ 9999)
    (kk : VM l X d k (j + 1) (.int (nI (mc t))) ρ σ (vp_updL g n (lI ((t / 256 : Nat) : Int))) (n + 1) Q) : VM l X d k j w ρ σ g n Q := by
  have hm := mc_n h0 h1
  refine Ev_iload rfl rfl ?_
  refine Ev_aload rfl rfl rfl ?_
  refine Ev_getR rfl (by first | rfl | assumption) (hρ _ _ _ rfl) ?_
  refine Ev_const rfl ?_
  refine Ev_iload rfl rfl ?_
  refine Ev_iadd rfl ?_
  refine Ev_norm (nI_add 4 k) ?_
  refine Ev_iald rfl (by first | rfl | assumption) (vp_in_nI (n := 4 + k) (show 4 + k < 8 by omega) (by decide)) ?_
  refine Ev_norm (by rw [nI_clamp (by omega), MP_q _ _ _ (by decide)]; exact he : _ = nI b) ?_
  refine Ev_icmp_ge rfl (fun h28 => absurd h28 (nI_ge hj (by omega))) (fun h28 => ?_)
  refine Ev_aload rfl rfl rfl ?_
  refine Ev_getR rfl (by first | rfl | assumption) (hρ _ _ _ rfl) ?_
  refine Ev_const rfl ?_
  refine Ev_iload rfl rfl ?_
  refine Ev_iadd rfl ?_
  refine Ev_norm (nI_add 1600 j) ?_
  refine Ev_iald rfl (by first | rfl | assumption) (vp_in_nI (n := 1600 + j) (show 1600 + j < 3200 by omega) (by decide)) ?_
  refine Ev_norm (by rw [nI_clamp (by omega), MP_q _ _ _ (by decide)]; exact hc : _ = nI (mc t)) ?_
  refine Ev_istore rfl ?_
  refine Ev_iload rfl rfl ?_
  refine Ev_const rfl ?_
  refine Ev_icmp_lt rfl (fun h46 => absurd h46 (nI_nlt (b := 1000) (by omega) (by omega))) (fun h46 => ?_)
  refine Ev_aload rfl rfl rfl ?_
  refine Ev_iload rfl rfl ?_
  refine Ev_const rfl ?_
  refine Ev_isub rfl ?_
  refine Ev_norm (by rw [hm]; exact (pk_sub (a := 1000 + t / 256) (b := 1000) (by omega)).trans (by rw [Nat.add_sub_cancel_left]) : _ = nI (t / 256)) ?_
  refine Ev_i2l rfl ?_
  refine Ev_normL (nI_lI (t / 256) (by omega)) ?_
  refine Ev_callV rfl rfl rfl rfl rfl (same_n 402) (m_qPuts _ hρ hn _) ?_
  rintro v56 ρ56 σ56 ⟨rfl, e56, g56⟩
  obtain rfl := e56.symm
  obtain rfl := g56.symm
  refine Ev_goto rfl ?_
  refine Ev_iincE rfl rfl (nI_1 j) ?_
  refine Ev_goto rfl ?_
  exact kk
theorem w_all {d k j n t b : Nat} {w : Value} {g : Nat → Int64} {Q : Po} (hρ : RF ρ) (hk : k < 4) (hb : b ≤ 1600) (hj : j < b) (he : σ.1 363 (4 + k) = nI b) (hc : σ.1 364 (1600 + j) = nI (mc t)) (hn : n < 1700) (h1 : t = 47)
    (kk : VM l X d k (j + 1) (.int (nI (mc t))) ρ σ (vp_updL g n (lI 1)) (n + 1) Q) : VM l X d k j w ρ σ g n Q := by
  refine Ev_iload rfl rfl ?_
  refine Ev_aload rfl rfl rfl ?_
  refine Ev_getR rfl (by first | rfl | assumption) (hρ _ _ _ rfl) ?_
  refine Ev_const rfl ?_
  refine Ev_iload rfl rfl ?_
  refine Ev_iadd rfl ?_
  refine Ev_norm (nI_add 4 k) ?_
  refine Ev_iald rfl (by first | rfl | assumption) (vp_in_nI (n := 4 + k) (show 4 + k < 8 by omega) (by decide)) ?_
  refine Ev_norm (by rw [nI_clamp (by omega), MP_q _ _ _ (by decide)]; exact he : _ = nI b) ?_
  refine Ev_icmp_ge rfl (fun h28 => absurd h28 (nI_ge hj (by omega))) (fun h28 => ?_)
  refine Ev_aload rfl rfl rfl ?_
  refine Ev_getR rfl (by first | rfl | assumption) (hρ _ _ _ rfl) ?_
  refine Ev_const rfl ?_
  refine Ev_iload rfl rfl ?_
  refine Ev_iadd rfl ?_
  refine Ev_norm (nI_add 1600 j) ?_
  refine Ev_iald rfl (by first | rfl | assumption) (vp_in_nI (n := 1600 + j) (show 1600 + j < 3200 by omega) (by decide)) ?_
  refine Ev_norm (by rw [nI_clamp (by omega), MP_q _ _ _ (by decide)]; exact hc : _ = nI (mc t)) ?_
  refine Ev_istore rfl ?_
  refine Ev_iload rfl rfl ?_
  refine Ev_const rfl ?_
  refine Ev_icmp_lt rfl (fun h46 => ?_) (fun h46 => absurd (show nI (mc t) < 1000 by rw [h1]; decide) h46)
  refine Ev_iload rfl rfl ?_
  refine Ev_const rfl ?_
  refine Ev_icmp_lt rfl (fun h65 => ?_) (fun h65 => absurd (show nI (mc t) < 40 by rw [h1]; decide) h65)
  refine Ev_iload rfl rfl ?_
  refine Ev_const rfl ?_
  refine Ev_icmp_ne rfl (fun h87 => absurd (show nI (mc t) = 13 by rw [h1]; decide) h87) (fun h87 => ?_)
  refine Ev_aload rfl rfl rfl ?_
  refine Ev_constL rfl ?_
  refine Ev_callV rfl rfl rfl rfl rfl (same_n 402) (m_qPuts _ hρ hn _) ?_
  rintro v92 ρ92 σ92 ⟨rfl, e92, g92⟩
  obtain rfl := e92.symm
  obtain rfl := g92.symm
  refine Ev_goto rfl ?_
  refine Ev_iincE rfl rfl (nI_1 j) ?_
  refine Ev_goto rfl ?_
  exact kk
theorem w_sight {d k j n t b h tide a i v R : Nat} {w : Value} {g : Nat → Int64} {Q : Po} (hρ : RF ρ) (hk : k < 4) (hb : b ≤ 1600) (hj : j < b) (he : σ.1 363 (4 + k) = nI b) (hc : σ.1 364 (1600 + j) = nI (mc t)) (hn : n < 1700) (h1 : t < 9) (ho : sOk k t = true)
    (hA : MAll σ B S W h tide k a i v) (hW : WfN B) (hWt : WfT B) (hbd : ∀ b i, S b i ≤ 99) (hWb : ∀ b, W b ≤ 9) (hh : h ≤ 2000) (ht : tide ≤ 9) (hv : v ≤ 99)
    (kk : VM l X d k (j + 1) (.int (nI (mc t))) ρ σ (vp_updL g n (lI ((seeF B (S a) a (W a) h tide i v R t : Nat) : Int))) (n + 1) Q) : VM l X d k j w ρ σ g n Q := by
  have hm := mc_s h1
  obtain ⟨a1, a2, a3, a4, a5⟩ := hA.mp g n
  refine Ev_iload rfl rfl ?_
  refine Ev_aload rfl rfl rfl ?_
  refine Ev_getR rfl (by first | rfl | assumption) (hρ _ _ _ rfl) ?_
  refine Ev_const rfl ?_
  refine Ev_iload rfl rfl ?_
  refine Ev_iadd rfl ?_
  refine Ev_norm (nI_add 4 k) ?_
  refine Ev_iald rfl (by first | rfl | assumption) (vp_in_nI (n := 4 + k) (show 4 + k < 8 by omega) (by decide)) ?_
  refine Ev_norm (by rw [nI_clamp (by omega), MP_q _ _ _ (by decide)]; exact he : _ = nI b) ?_
  refine Ev_icmp_ge rfl (fun h28 => absurd h28 (nI_ge hj (by omega))) (fun h28 => ?_)
  refine Ev_aload rfl rfl rfl ?_
  refine Ev_getR rfl (by first | rfl | assumption) (hρ _ _ _ rfl) ?_
  refine Ev_const rfl ?_
  refine Ev_iload rfl rfl ?_
  refine Ev_iadd rfl ?_
  refine Ev_norm (nI_add 1600 j) ?_
  refine Ev_iald rfl (by first | rfl | assumption) (vp_in_nI (n := 1600 + j) (show 1600 + j < 3200 by omega) (by decide)) ?_
  refine Ev_norm (by rw [nI_clamp (by omega), MP_q _ _ _ (by decide)]; exact hc : _ = nI (mc t)) ?_
  refine Ev_istore rfl ?_
  refine Ev_iload rfl rfl ?_
  refine Ev_const rfl ?_
  refine Ev_icmp_lt rfl (fun h46 => ?_) (fun h46 => absurd (nI_lt (a := mc t) (b := 1000) (by omega) (by decide)) h46)
  refine Ev_iload rfl rfl ?_
  refine Ev_const rfl ?_
  refine Ev_icmp_lt rfl (fun h65 => absurd h65 (nI_nlt (b := 40) (a := mc t) (by omega) (by omega))) (fun h65 => ?_)
  refine Ev_aload rfl rfl rfl ?_
  refine Ev_aload rfl rfl rfl ?_
  refine Ev_iload rfl rfl ?_
  refine Ev_const rfl ?_
  refine Ev_isub rfl ?_
  refine Ev_norm (by rw [hm]; exact (pk_sub (a := 40 + t) (b := 40) (by omega)).trans (by rw [Nat.add_sub_cancel_left]) : _ = nI t) ?_
  refine Ev_const rfl ?_
  refine Ev_callV rfl rfl rfl rfl rfl (same_n 402) (m_qPartOf (R := R) _ hρ a1 hW hWt a2 a3 hbd a4 hWb a5 hh ht hv (by omega) h1 ho _) ?_
  rintro v75 ρ75 σ75 ⟨rfl, e75, g75⟩
  obtain rfl := e75.symm
  obtain rfl := g75.symm
  refine Ev_callV rfl rfl rfl rfl rfl (same_n 402) (m_qPuts _ hρ hn _) ?_
  rintro v78 ρ78 σ78 ⟨rfl, e78, g78⟩
  obtain rfl := e78.symm
  obtain rfl := g78.symm
  refine Ev_goto rfl ?_
  refine Ev_iincE rfl rfl (nI_1 j) ?_
  refine Ev_goto rfl ?_
  exact kk
theorem w_not {d k j n t b : Nat} {x : Int} {w : Value} {g : Nat → Int64} {Q : Po} (hρ : RF ρ) (hk : k < 4) (hb : b ≤ 1600) (hj : j < b) (he : σ.1 363 (4 + k) = nI b) (hc : σ.1 364 (1600 + j) = nI (mc t)) (hn : n < 1700) (h1 : t = 33) (hx : g n = lI x) (hx2 : x = 0 ∨ x = 1) {see : Nat → Int}
    (kk : VM l X d k (j + 1) (.int (nI (mc t))) ρ σ (vp_updL g n (lI (one see 33 x))) (n + 1) Q) : VM l X d k j w ρ σ g (n + 1) Q := by
  have e1 : (1 : Int64) - lI x = lI (one see 33 x) := by
    unfold one
    rw [if_pos rfl]
    rcases hx2 with rfl | rfl
    · rw [if_pos rfl]; rfl
    · rw [if_neg (by decide)]; rfl
  refine Ev_iload rfl rfl ?_
  refine Ev_aload rfl rfl rfl ?_
  refine Ev_getR rfl (by first | rfl | assumption) (hρ _ _ _ rfl) ?_
  refine Ev_const rfl ?_
  refine Ev_iload rfl rfl ?_
  refine Ev_iadd rfl ?_
  refine Ev_norm (nI_add 4 k) ?_
  refine Ev_iald rfl (by first | rfl | assumption) (vp_in_nI (n := 4 + k) (show 4 + k < 8 by omega) (by decide)) ?_
  refine Ev_norm (by rw [nI_clamp (by omega), MP_q _ _ _ (by decide)]; exact he : _ = nI b) ?_
  refine Ev_icmp_ge rfl (fun h28 => absurd h28 (nI_ge hj (by omega))) (fun h28 => ?_)
  refine Ev_aload rfl rfl rfl ?_
  refine Ev_getR rfl (by first | rfl | assumption) (hρ _ _ _ rfl) ?_
  refine Ev_const rfl ?_
  refine Ev_iload rfl rfl ?_
  refine Ev_iadd rfl ?_
  refine Ev_norm (nI_add 1600 j) ?_
  refine Ev_iald rfl (by first | rfl | assumption) (vp_in_nI (n := 1600 + j) (show 1600 + j < 3200 by omega) (by decide)) ?_
  refine Ev_norm (by rw [nI_clamp (by omega), MP_q _ _ _ (by decide)]; exact hc : _ = nI (mc t)) ?_
  refine Ev_istore rfl ?_
  refine Ev_iload rfl rfl ?_
  refine Ev_const rfl ?_
  refine Ev_icmp_lt rfl (fun h46 => ?_) (fun h46 => absurd (show nI (mc t) < 1000 by rw [h1]; decide) h46)
  refine Ev_iload rfl rfl ?_
  refine Ev_const rfl ?_
  refine Ev_icmp_lt rfl (fun h65 => ?_) (fun h65 => absurd (show nI (mc t) < 40 by rw [h1]; decide) h65)
  refine Ev_iload rfl rfl ?_
  refine Ev_const rfl ?_
  refine Ev_icmp_ne rfl (fun h87 => ?_) (fun h87 => absurd (show ¬ nI (mc t) = 13 by rw [h1]; decide) h87)
  refine Ev_iload rfl rfl ?_
  refine Ev_const rfl ?_
  refine Ev_icmp_ne rfl (fun h101 => absurd (show nI (mc t) = 12 by rw [h1]; decide) h101) (fun h101 => ?_)
  refine Ev_aload rfl rfl rfl ?_
  refine Ev_getR rfl (by first | rfl | assumption) (hρ _ _ _ rfl) ?_
  refine Ev_aload rfl rfl rfl ?_
  refine Ev_getI rfl (by first | rfl | assumption) ?_
  refine Ev_norm (MP_n σ g (n + 1)) ?_
  refine Ev_const rfl ?_
  refine Ev_isub rfl ?_
  refine Ev_norm (nI_pred n) ?_
  refine Ev_constL rfl ?_
  refine Ev_aload rfl rfl rfl ?_
  refine Ev_getR rfl (by first | rfl | assumption) (hρ _ _ _ rfl) ?_
  refine Ev_aload rfl rfl rfl ?_
  refine Ev_getI rfl (by first | rfl | assumption) ?_
  refine Ev_norm (MP_n σ g (n + 1)) ?_
  refine Ev_const rfl ?_
  refine Ev_isub rfl ?_
  refine Ev_norm (nI_pred n) ?_
  refine Ev_lald rfl (by first | rfl | assumption) (vp_in_nI (n := n) (show n < 1700 from hn) (by decide)) ?_
  refine Ev_normL (by rw [nI_clamp (by omega)]; exact hx : _ = lI x) ?_
  refine Ev_lsub rfl ?_
  refine Ev_normL e1 ?_
  refine Ev_last rfl (by first | rfl | assumption) (vp_in_nI (n := n) (show n < 1700 from hn) (by decide)) ?_
  refine Ev_st rfl (show _ = MP σ (vp_updL g n (lI (one see 33 x))) (n + 1) by rw [nI_clamp (by omega)]; exact MP_L σ g _ (n + 1)) ?_
  refine Ev_goto rfl ?_
  refine Ev_iincE rfl rfl (nI_1 j) ?_
  refine Ev_goto rfl ?_
  exact kk
theorem w_two {d k j n t b : Nat} {x y : Int} {w : Value} {g : Nat → Int64} {Q : Po} (hρ : RF ρ) (hk : k < 4) (hb : b ≤ 1600) (hj : j < b) (he : σ.1 363 (4 + k) = nI b) (hc : σ.1 364 (1600 + j) = nI (mc t)) (hn : n + 2 ≤ 1700) (h1 : 36 ≤ t ∧ t ≤ 46) (hx : g n = lI x) (hy : g (n + 1) = lI y) (hx2 : Bd x) (hy2 : Bd y)
    (kk : VM l X d k (j + 1) (.int (nI (mc t))) ρ σ (vp_updL g n (lI (two t x y))) (n + 1) Q) : VM l X d k j w ρ σ g (n + 2) Q := by
  have hm := mc_2 h1
  have hm2 : mc t ≤ 11 := by unfold MO at hm; omega
  refine Ev_iload rfl rfl ?_
  refine Ev_aload rfl rfl rfl ?_
  refine Ev_getR rfl (by first | rfl | assumption) (hρ _ _ _ rfl) ?_
  refine Ev_const rfl ?_
  refine Ev_iload rfl rfl ?_
  refine Ev_iadd rfl ?_
  refine Ev_norm (nI_add 4 k) ?_
  refine Ev_iald rfl (by first | rfl | assumption) (vp_in_nI (n := 4 + k) (show 4 + k < 8 by omega) (by decide)) ?_
  refine Ev_norm (by rw [nI_clamp (by omega), MP_q _ _ _ (by decide)]; exact he : _ = nI b) ?_
  refine Ev_icmp_ge rfl (fun h28 => absurd h28 (nI_ge hj (by omega))) (fun h28 => ?_)
  refine Ev_aload rfl rfl rfl ?_
  refine Ev_getR rfl (by first | rfl | assumption) (hρ _ _ _ rfl) ?_
  refine Ev_const rfl ?_
  refine Ev_iload rfl rfl ?_
  refine Ev_iadd rfl ?_
  refine Ev_norm (nI_add 1600 j) ?_
  refine Ev_iald rfl (by first | rfl | assumption) (vp_in_nI (n := 1600 + j) (show 1600 + j < 3200 by omega) (by decide)) ?_
  refine Ev_norm (by rw [nI_clamp (by omega), MP_q _ _ _ (by decide)]; exact hc : _ = nI (mc t)) ?_
  refine Ev_istore rfl ?_
  refine Ev_iload rfl rfl ?_
  refine Ev_const rfl ?_
  refine Ev_icmp_lt rfl (fun h46 => ?_) (fun h46 => absurd (nI_lt (a := mc t) (b := 1000) (by omega) (by decide)) h46)
  refine Ev_iload rfl rfl ?_
  refine Ev_const rfl ?_
  refine Ev_icmp_lt rfl (fun h65 => ?_) (fun h65 => absurd (nI_lt (a := mc t) (b := 40) (by omega) (by decide)) h65)
  refine Ev_iload rfl rfl ?_
  refine Ev_const rfl ?_
  refine Ev_icmp_ne rfl (fun h87 => ?_) (fun h87 => absurd ((nI_lit (z := 13) (n := 13) rfl (by omega) (by decide)).mp (Decidable.not_not.mp h87)) (by omega))
  refine Ev_iload rfl rfl ?_
  refine Ev_const rfl ?_
  refine Ev_icmp_ne rfl (fun h101 => ?_) (fun h101 => absurd ((nI_lit (z := 12) (n := 12) rfl (by omega) (by decide)).mp (Decidable.not_not.mp h101)) (by omega))
  refine Ev_aload rfl rfl rfl ?_
  refine Ev_iload rfl rfl ?_
  refine Ev_callV rfl rfl rfl rfl rfl (same_n 402) (m_qJoins _ hρ hn hm hx hy hx2 hy2) ?_
  rintro v133 ρ133 σ133 ⟨rfl, e133, g133⟩
  obtain rfl := e133.symm
  obtain rfl := g133.symm
  refine Ev_iincE rfl rfl (nI_1 j) ?_
  refine Ev_goto rfl ?_
  exact kk
end S29
