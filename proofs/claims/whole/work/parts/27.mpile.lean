/-! The reference's pile. -/
def lI (z : Int) : Int64 := Int64.ofInt z
theorem lI_to (x : Int64) : lI x.toInt = x := Int64.ofInt_toInt x
theorem lI_eq {x : Int64} {z : Int} (h : x.toInt = z) : x = lI z := by rw [← h, lI_to]
theorem to_lI {z : Int} (h : -9223372036854775808 ≤ z ∧ z < 9223372036854775808) : (lI z).toInt = z := Int64.toInt_ofInt_of_le (by omega) (by omega)
theorem z_lI {v : Int} (h : Bd v) : (lI v).toInt = v := to_lI ⟨by have := h.1; omega, by have := h.2; omega⟩
theorem nI_lI (n : Nat) (h : n < 2 ^ 31) : (nI n).toInt64 = lI (n : Int) := lI_eq (by rw [l_of, nI_toInt h])
section S27
variable {l : Launch} {X : Cx} {ρ : Rf} {σ : St}
theorem Ev_normL {l : Launch} {X : Cx} {d i pc : Nat} {ls st : List Value} {n0 n1 n : Nat} {ρ : Rf} {σ : St} {Q : Po} {x v : Int64} (h : x = v) (k : Ev l X d i pc ls (.long v :: st) n0 n1 n ρ σ Q) : Ev l X d i pc ls (.long x :: st) n0 n1 n ρ σ Q := by subst h; exact k
theorem m_qClip (d : Nat) (v : Int64) : T l X d 281 [.long v] 402 402 ρ σ (Rs (.long (lI (clip v.toInt))) ρ σ) := by
  have hA : (1000000 : Int64).toInt = 1000000 := by decide
  have hB : (-1000000 : Int64).toInt = -1000000 := by decide
  refine T_of rfl ?_
  refine Ev_lload rfl rfl ?_
  refine Ev_constL rfl ?_
  refine Ev_lcmp rfl ?_
  refine Ev_if_le rfl (fun h5 => ?_) (fun h5 => ?_)
  · refine Ev_lload rfl rfl ?_
    refine Ev_constL rfl ?_
    refine Ev_lcmp rfl ?_
    refine Ev_if_ge rfl (fun h19 => ?_) (fun h19 => ?_)
    · refine Ev_lload rfl rfl ?_
      exact Ev_lreturn rfl rfl rfl ⟨by
      rw [lc_le, Int64.lt_iff_toInt_lt] at h5
      rw [lc_ge, Int64.lt_iff_toInt_lt] at h19
      rw [clip_id ⟨by omega, by omega⟩, lI_to], rfl, rfl⟩
    · refine Ev_constL rfl ?_
      refine Ev_goto rfl ?_
      exact Ev_lreturn rfl rfl rfl ⟨by
      rw [lc_ge, Int64.lt_iff_toInt_lt] at h19
      have e : clip v.toInt = -1000000 := by
        unfold clip
        rw [if_neg (by omega), if_pos (by omega)]
      rw [e]
      rfl, rfl, rfl⟩
  · refine Ev_constL rfl ?_
    refine Ev_goto rfl ?_
    exact Ev_lreturn rfl rfl rfl ⟨by
    rw [lc_le, Int64.lt_iff_toInt_lt] at h5
    have e : clip v.toInt = 1000000 := by
      unfold clip
      rw [if_pos (by omega)]
    rw [e]
    rfl, rfl, rfl⟩
theorem w_div {x y : Int64} (hx : Bd x.toInt) : (x / y).toInt = x.toInt.tdiv y.toInt := by
  obtain ⟨h1, h2⟩ := hx
  have hm : x ≠ Int64.minValue := fun q => by
    rw [q] at h1
    exact absurd h1 (by decide)
  exact Int64.toInt_div_of_ne_left x y hm
theorem w_rem {x y : Int64} (hx : Bd x.toInt) (hy : Bd y.toInt) : (x - x / y * y).toInt = x.toInt.tmod y.toInt := by
  have hd := w_div (y := y) hx
  obtain ⟨h1, h2⟩ := hx
  have h3 := tmod_le x.toInt y.toInt
  have h4 : x.toInt.tmod y.toInt = x.toInt - y.toInt * x.toInt.tdiv y.toInt := Int.tmod_def _ _
  have h5 : x.toInt.tdiv y.toInt * y.toInt = x.toInt - x.toInt.tmod y.toInt := by rw [h4, Int.mul_comm]; omega
  rw [Int64.toInt_sub, Int64.toInt_mul, hd, h5, bm64 (z := x.toInt - x.toInt.tmod y.toInt) (by omega), bm64 (by omega)]
  omega
theorem w_div1 {x y : Int64} (hx : Bd x.toInt) : (x / y - 1).toInt = x.toInt.tdiv y.toInt - 1 := by
  have h := tdiv_le x.toInt y.toInt
  obtain ⟨h1, h2⟩ := hx
  rw [Int64.toInt_sub, w_div ⟨h1, h2⟩]
  exact bm64 (by have : (1 : Int64).toInt = 1 := rfl; omega)
theorem y_ne {y : Int64} (h : ¬ y = 0) : ¬ y.toInt = 0 := fun q => h (Int64.toInt_inj.mp q)
theorem l_ne0 {y : Int64} (h : ¬ lg_cmp y 0 = 0) : ¬ y = 0 := fun q => h ((lc_eq _ _).mpr q)
theorem l_ge0 {x : Int64} (h : 0 ≤ lg_cmp x 0) : ¬ x.toInt < 0 := by rw [lc_ge, Int64.lt_iff_toInt_lt] at h; exact h
theorem l_lt0 {x : Int64} (h : ¬ 0 ≤ lg_cmp x 0) : x.toInt < 0 := by
  have := (lc_lt _ _).mp (nle_lt h)
  rw [Int64.lt_iff_toInt_lt] at this
  exact this
theorem m_qFloor (d : Nat) {x y : Int64} (hx : Bd x.toInt) (hy : Bd y.toInt) : T l X d 282 [.long x, .long y] 402 402 ρ σ (Rs (.long (lI (flo x.toInt y.toInt))) ρ σ) := by
  refine T_of rfl ?_
  refine Ev_lload rfl rfl ?_
  refine Ev_constL rfl ?_
  refine Ev_lcmp rfl ?_
  refine Ev_if_ne rfl (fun h3 => ?_) (fun h3 => ?_)
  · refine Ev_lload rfl rfl ?_
    refine Ev_lload rfl rfl ?_
    refine Ev_ldiv rfl (l_ne0 h3) ?_
    refine Ev_lstore rfl ?_
    refine Ev_lload rfl rfl ?_
    refine Ev_lload rfl rfl ?_
    refine Ev_lrem rfl (l_ne0 h3) ?_
    refine Ev_constL rfl ?_
    refine Ev_lcmp rfl ?_
    refine Ev_if_eq rfl (fun h18 => ?_) (fun h18 => ?_)
    · refine Ev_lload rfl rfl ?_
      exact Ev_lreturn rfl rfl rfl ⟨by rw [flo_1 (y_ne (l_ne0 h3)) ((w_rem hx hy).symm.trans (by rw [(lc_eq _ _).mp h18]; rfl)), ← w_div hx, lI_to], rfl, rfl⟩
    · refine Ev_lload rfl rfl ?_
      refine Ev_constL rfl ?_
      refine Ev_lcmp rfl ?_
      refine Ev_if_ge rfl (fun h24 => ?_) (fun h24 => ?_)
      · refine Ev_const rfl ?_
        refine Ev_lload rfl rfl ?_
        refine Ev_constL rfl ?_
        refine Ev_lcmp rfl ?_
        refine Ev_if_ge rfl (fun h35 => ?_) (fun h35 => ?_)
        · refine Ev_const rfl ?_
          refine Ev_icmp_eq rfl (fun h43 => ?_) (fun h43 => absurd rfl h43)
          refine Ev_lload rfl rfl ?_
          exact Ev_lreturn rfl rfl rfl ⟨by rw [flo_2 (y_ne (l_ne0 h3)) ⟨fun q => absurd q (l_ge0 h24), fun q => absurd q (l_ge0 h35)⟩, ← w_div hx, lI_to], rfl, rfl⟩
        · refine Ev_const rfl ?_
          refine Ev_goto rfl ?_
          refine Ev_icmp_eq rfl (fun h43 => absurd h43 (by decide)) (fun h43 => ?_)
          refine Ev_lload rfl rfl ?_
          refine Ev_constL rfl ?_
          refine Ev_lsub rfl ?_
          refine Ev_goto rfl ?_
          exact Ev_lreturn rfl rfl rfl ⟨by rw [flo_3 (y_ne (l_ne0 h3)) (fun q => h18 ((lc_eq _ _).mpr (Int64.toInt_inj.mp ((w_rem hx hy).trans q)))) (fun q => absurd (q.mpr (l_lt0 h35)) (l_ge0 h24)), ← w_div1 hx, lI_to], rfl, rfl⟩
      · refine Ev_const rfl ?_
        refine Ev_goto rfl ?_
        refine Ev_lload rfl rfl ?_
        refine Ev_constL rfl ?_
        refine Ev_lcmp rfl ?_
        refine Ev_if_ge rfl (fun h35 => ?_) (fun h35 => ?_)
        · refine Ev_const rfl ?_
          refine Ev_icmp_eq rfl (fun h43 => absurd h43 (by decide)) (fun h43 => ?_)
          refine Ev_lload rfl rfl ?_
          refine Ev_constL rfl ?_
          refine Ev_lsub rfl ?_
          refine Ev_goto rfl ?_
          exact Ev_lreturn rfl rfl rfl ⟨by rw [flo_3 (y_ne (l_ne0 h3)) (fun q => h18 ((lc_eq _ _).mpr (Int64.toInt_inj.mp ((w_rem hx hy).trans q)))) (fun q => absurd (q.mp (l_lt0 h24)) (l_ge0 h35)), ← w_div1 hx, lI_to], rfl, rfl⟩
        · refine Ev_const rfl ?_
          refine Ev_goto rfl ?_
          refine Ev_icmp_eq rfl (fun h43 => ?_) (fun h43 => absurd rfl h43)
          refine Ev_lload rfl rfl ?_
          exact Ev_lreturn rfl rfl rfl ⟨by rw [flo_2 (y_ne (l_ne0 h3)) ⟨fun _ => l_lt0 h35, fun _ => l_lt0 h24⟩, ← w_div hx, lI_to], rfl, rfl⟩
  · refine Ev_constL rfl ?_
    exact Ev_lreturn rfl rfl rfl ⟨by rw [flo_0 (by rw [(lc_eq _ _).mp (Decidable.not_not.mp h3)]; rfl)]; rfl, rfl, rfl⟩
/-- the state with another pile -/
def MP (σ : St) (g : Nat → Int64) (n : Nat) : St := (fun q => if q = 326 then upd (σ.1 326) 106 (nI n) else σ.1 q, fun q => if q = 400 then g else σ.2 q)
theorem MP_p (σ : St) (g : Nat → Int64) (n : Nat) : (MP σ g n).2 400 = g := rfl
theorem MP_n (σ : St) (g : Nat → Int64) (n : Nat) : (MP σ g n).1 326 106 = nI n := rfl
theorem MP_q (σ : St) (g : Nat → Int64) (n : Nat) {q : Nat} (h : q ≠ 326) : (MP σ g n).1 q = σ.1 q := if_neg h
theorem MP_f (σ : St) (g : Nat → Int64) (n : Nat) {j : Nat} (h : j ≠ 106) : (MP σ g n).1 326 j = σ.1 326 j := pk_un h
theorem MP_put (σ : St) (g : Nat → Int64) (n : Nat) (v : Int64) (m : Nat) : sI (sL (MP σ g n) 400 (vp_updL g n v)) 326 (upd (upd (σ.1 326) 106 (nI n)) 106 (nI m)) = MP σ (vp_updL g n v) m := by
  refine Prod.ext (funext fun q => ?_) (funext fun q => ?_)
  · show (if q = 326 then _ else if q = 326 then _ else σ.1 q) = if q = 326 then _ else σ.1 q
    by_cases h : q = 326
    · rw [if_pos h, if_pos h]
      refine funext fun j => ?_
      by_cases hj : j = 106
      · subst hj; rw [pk_us, pk_us]
      · rw [pk_un hj, pk_un hj, pk_un hj]
    · rw [if_neg h, if_neg h, if_neg h]
  · show (if q = 400 then _ else if q = 400 then g else σ.2 q) = if q = 400 then _ else σ.2 q
    by_cases h : q = 400
    · rw [if_pos h, if_pos h]
    · rw [if_neg h, if_neg h, if_neg h]
theorem m_qPuts (d : Nat) (hρ : RF ρ) {g : Nat → Int64} {n : Nat} (hn : n < 1700) (v : Int64) : T l X d 283 [.ref 326, .long v] 402 402 ρ (MP σ g n) (fun w ρ' σ' => w = none ∧ ρ' = ρ ∧ σ' = MP σ (vp_updL g n v) (n + 1)) := by
  refine T_of rfl ?_
  refine Ev_aload rfl rfl rfl ?_
  refine Ev_getR rfl (by first | rfl | assumption) (hρ _ _ _ rfl) ?_
  refine Ev_aload rfl rfl rfl ?_
  refine Ev_getI rfl (by first | rfl | assumption) ?_
  refine Ev_norm (MP_n σ g n) ?_
  refine Ev_lload rfl rfl ?_
  refine Ev_last rfl (by first | rfl | assumption) (vp_in_nI (n := n) (show n < 1700 from hn) (by decide)) ?_
  refine Ev_aload rfl rfl rfl ?_
  refine Ev_dup rfl (fun _ q => nomatch q) ?_
  refine Ev_getI rfl (by first | rfl | assumption) ?_
  refine Ev_norm (MP_n σ g n : _ = nI n) ?_
  refine Ev_const rfl ?_
  refine Ev_iadd rfl ?_
  refine Ev_norm (nI_1 n) ?_
  refine Ev_putI rfl (by first | rfl | assumption) ⟨rfl, rfl⟩ rfl ?_
  exact Ev_return rfl rfl rfl ⟨rfl, rfl, by rw [nI_clamp (by omega)]; exact MP_put σ g n v (n + 1)⟩
/-- the reference's number for an order of two values -/
def MO (c t : Nat) : Prop := (c = 1 ∧ t = 36) ∨ (c = 2 ∧ t = 37) ∨ (c = 3 ∧ t = 38) ∨ (c = 4 ∧ t = 39) ∨ (c = 5 ∧ t = 45) ∨ (c = 6 ∧ t = 46) ∨ (c = 7 ∧ t = 40) ∨ (c = 8 ∧ t = 41) ∨ (c = 9 ∧ t = 42) ∨ (c = 10 ∧ t = 43) ∨ (c = 11 ∧ t = 44)
abbrev Bl (z : Int) : Prop := -4000000000000 ≤ z ∧ z ≤ 4000000000000
theorem z_lL {v : Int} (h : Bl v) : (lI v).toInt = v := to_lI ⟨by have := h.1; omega, by have := h.2; omega⟩
theorem c_ge {a b : Int} (ha : Bl a) (hb : Bl b) : 0 ≤ lg_cmp (lI a) (lI b) ↔ ¬ a < b := by rw [lc_ge, Int64.lt_iff_toInt_lt, z_lL ha, z_lL hb]
theorem c_le {a b : Int} (ha : Bl a) (hb : Bl b) : lg_cmp (lI a) (lI b) ≤ 0 ↔ ¬ b < a := by rw [lc_le, Int64.lt_iff_toInt_lt, z_lL ha, z_lL hb]
theorem c_eq {a b : Int} (ha : Bl a) (hb : Bl b) : lg_cmp (lI a) (lI b) = 0 ↔ a = b := by rw [lc_eq, ← Int64.toInt_inj, z_lL ha, z_lL hb]
theorem MP_cut (σ : St) (g : Nat → Int64) (n m : Nat) : sI (MP σ g n) 326 (upd ((MP σ g n).1 326) 106 (nI m)) = MP σ g m := by
  refine Prod.ext (funext fun q => ?_) rfl
  show (if q = 326 then _ else if q = 326 then _ else σ.1 q) = if q = 326 then _ else σ.1 q
  by_cases h : q = 326
  · rw [if_pos h, if_pos h]
    refine funext fun j => ?_
    by_cases hj : j = 106
    · subst hj; rw [pk_us, pk_us]
    · rw [pk_un hj, pk_un hj, MP_f σ g n hj]
  · rw [if_neg h, if_neg h, if_neg h]
theorem m_qJoins (d : Nat) (hρ : RF ρ) {g : Nat → Int64} {n c t : Nat} {a b : Int} (hn : n + 2 ≤ 1700) (hm : MO c t) (ha0 : g n = lI a) (hb0 : g (n + 1) = lI b) (ha : Bd a) (hb : Bd b) :
    T l X (d + 1) 284 [.ref 326, .int (nI c)] 402 402 ρ (MP σ g (n + 2)) (fun w ρ' σ' => w = none ∧ ρ' = ρ ∧ σ' = MP σ (vp_updL g n (lI (two t a b))) (n + 1)) := by
  have hc : (nI c).toInt = (c : Int) := nI_toInt (by unfold MO at hm; omega)
  have hA1 := ha.1
  have hA2 := ha.2
  have hB1 := hb.1
  have hB2 := hb.2
  have hab := Bd_mul ha hb
  have hA : Bl a := ⟨by omega, by omega⟩
  have hB : Bl b := ⟨by omega, by omega⟩
  have hAB : Bl (a + b) := ⟨by omega, by omega⟩
  refine T_of rfl ?_
  refine Ev_aload rfl rfl rfl ?_
  refine Ev_getR rfl (by first | rfl | assumption) (hρ _ _ _ rfl) ?_
  refine Ev_aload rfl rfl rfl ?_
  refine Ev_getI rfl (by first | rfl | assumption) ?_
  refine Ev_norm (MP_n σ g (n + 2)) ?_
  refine Ev_const rfl ?_
  refine Ev_isub rfl ?_
  refine Ev_norm (nI_pred (n + 1)) ?_
  refine Ev_lald rfl (by first | rfl | assumption) (vp_in_nI (n := n + 1) (show n + 1 < 1700 by omega) (by decide)) ?_
  refine Ev_normL (by rw [nI_clamp (by omega)]; exact hb0 : _ = lI b) ?_
  refine Ev_lstore rfl ?_
  refine Ev_aload rfl rfl rfl ?_
  refine Ev_getR rfl (by first | rfl | assumption) (hρ _ _ _ rfl) ?_
  refine Ev_aload rfl rfl rfl ?_
  refine Ev_getI rfl (by first | rfl | assumption) ?_
  refine Ev_norm (MP_n σ g (n + 2)) ?_
  refine Ev_const rfl ?_
  refine Ev_isub rfl ?_
  refine Ev_norm (pk_sub (a := n + 2) (b := 2) (by omega) : _ = nI n) ?_
  refine Ev_lald rfl (by first | rfl | assumption) (vp_in_nI (n := n) (show n < 1700 by omega) (by decide)) ?_
  refine Ev_normL (by rw [nI_clamp (by omega)]; exact ha0 : _ = lI a) ?_
  refine Ev_lstore rfl ?_
  refine Ev_aload rfl rfl rfl ?_
  refine Ev_dup rfl (fun _ q => nomatch q) ?_
  refine Ev_getI rfl (by first | rfl | assumption) ?_
  refine Ev_norm (MP_n σ g (n + 2)) ?_
  refine Ev_const rfl ?_
  refine Ev_isub rfl ?_
  refine Ev_norm (pk_sub (a := n + 2) (b := 2) (by omega) : _ = nI n) ?_
  refine Ev_putI rfl (by first | rfl | assumption) ⟨rfl, rfl⟩ rfl ?_
  refine Ev_st rfl (MP_cut σ g (n + 2) n) ?_
  refine Ev_iload rfl rfl ?_
  refine Ev_tab rfl rfl (swP_c (fun h36_0 => ?_) (fun g36_0 => swP_c (fun h36_1 => ?_) (fun g36_1 => swP_c (fun h36_2 => ?_) (fun g36_2 => swP_c (fun h36_3 => ?_) (fun g36_3 => swP_c (fun h36_4 => ?_) (fun g36_4 => swP_c (fun h36_5 => ?_) (fun g36_5 => swP_c (fun h36_6 => ?_) (fun g36_6 => swP_c (fun h36_7 => ?_) (fun g36_7 => swP_c (fun h36_8 => ?_) (fun g36_8 => swP_c (fun h36_9 => ?_) (fun g36_9 => swP_n ?_)))))))))))
  · have ht : (t : Int) = 36 := by unfold MO at hm; rw [hc] at h36_0; omega
    refine Ev_aload rfl rfl rfl ?_
    refine Ev_lload rfl rfl ?_
    refine Ev_lload rfl rfl ?_
    refine Ev_ladd rfl ?_
    refine Ev_callS rfl rfl rfl rfl (same_n 402) (m_qClip _ _) ?_
    rintro v97 ρ97 σ97 ⟨rfl, e97, g97⟩
    obtain rfl := e97.symm
    obtain rfl := g97.symm
    refine Ev_normL (by rw [Int64.toInt_add, z_lI ha, z_lI hb, bm64 (by omega), ht, two36] : _ = lI (two t a b)) ?_
    refine Ev_callV rfl rfl rfl rfl rfl (same_n 402) (m_qPuts _ hρ (by omega) _) ?_
    rintro v100 ρ100 σ100 ⟨rfl, e100, g100⟩
    obtain rfl := e100.symm
    obtain rfl := g100.symm
    refine Ev_goto rfl ?_
    exact Ev_return rfl rfl rfl ⟨rfl, rfl, rfl⟩
  · have ht : (t : Int) = 37 := by unfold MO at hm; rw [hc] at h36_1; omega
    refine Ev_aload rfl rfl rfl ?_
    refine Ev_lload rfl rfl ?_
    refine Ev_lload rfl rfl ?_
    refine Ev_lsub rfl ?_
    refine Ev_callS rfl rfl rfl rfl (same_n 402) (m_qClip _ _) ?_
    rintro v111 ρ111 σ111 ⟨rfl, e111, g111⟩
    obtain rfl := e111.symm
    obtain rfl := g111.symm
    refine Ev_normL (by rw [Int64.toInt_sub, z_lI ha, z_lI hb, bm64 (by omega), ht, two37] : _ = lI (two t a b)) ?_
    refine Ev_callV rfl rfl rfl rfl rfl (same_n 402) (m_qPuts _ hρ (by omega) _) ?_
    rintro v114 ρ114 σ114 ⟨rfl, e114, g114⟩
    obtain rfl := e114.symm
    obtain rfl := g114.symm
    refine Ev_goto rfl ?_
    exact Ev_return rfl rfl rfl ⟨rfl, rfl, rfl⟩
  · have ht : (t : Int) = 38 := by unfold MO at hm; rw [hc] at h36_2; omega
    refine Ev_aload rfl rfl rfl ?_
    refine Ev_lload rfl rfl ?_
    refine Ev_lload rfl rfl ?_
    refine Ev_lmul rfl ?_
    refine Ev_callS rfl rfl rfl rfl (same_n 402) (m_qClip _ _) ?_
    rintro v125 ρ125 σ125 ⟨rfl, e125, g125⟩
    obtain rfl := e125.symm
    obtain rfl := g125.symm
    refine Ev_normL (by rw [Int64.toInt_mul, z_lI ha, z_lI hb, bm64 (by omega), ht, two38] : _ = lI (two t a b)) ?_
    refine Ev_callV rfl rfl rfl rfl rfl (same_n 402) (m_qPuts _ hρ (by omega) _) ?_
    rintro v128 ρ128 σ128 ⟨rfl, e128, g128⟩
    obtain rfl := e128.symm
    obtain rfl := g128.symm
    refine Ev_goto rfl ?_
    exact Ev_return rfl rfl rfl ⟨rfl, rfl, rfl⟩
  · have ht : (t : Int) = 39 := by unfold MO at hm; rw [hc] at h36_3; omega
    refine Ev_aload rfl rfl rfl ?_
    refine Ev_lload rfl rfl ?_
    refine Ev_lload rfl rfl ?_
    refine Ev_callS rfl rfl rfl rfl (same_n 402) (m_qFloor _ (by rw [z_lI ha]; exact ha) (by rw [z_lI hb]; exact hb)) ?_
    rintro v138 ρ138 σ138 ⟨rfl, e138, g138⟩
    obtain rfl := e138.symm
    obtain rfl := g138.symm
    refine Ev_normL (by rw [z_lI ha, z_lI hb, ht, two39] : _ = lI (two t a b)) ?_
    refine Ev_callV rfl rfl rfl rfl rfl (same_n 402) (m_qPuts _ hρ (by omega) _) ?_
    rintro v141 ρ141 σ141 ⟨rfl, e141, g141⟩
    obtain rfl := e141.symm
    obtain rfl := g141.symm
    refine Ev_goto rfl ?_
    exact Ev_return rfl rfl rfl ⟨rfl, rfl, rfl⟩
  · have ht : (t : Int) = 45 := by unfold MO at hm; rw [hc] at h36_4; omega
    refine Ev_aload rfl rfl rfl ?_
    refine Ev_lload rfl rfl ?_
    refine Ev_lload rfl rfl ?_
    refine Ev_lcmp rfl ?_
    refine Ev_if_ge rfl (fun h152 => ?_) (fun h152 => ?_)
    · refine Ev_lload rfl rfl ?_
      refine Ev_normL (show _ = lI (two t a b) by rw [ht, two45, if_neg ((c_ge hA hB).mp h152)]) ?_
      refine Ev_callV rfl rfl rfl rfl rfl (same_n 402) (m_qPuts _ hρ (by omega) _) ?_
      rintro v161 ρ161 σ161 ⟨rfl, e161, g161⟩
      obtain rfl := e161.symm
      obtain rfl := g161.symm
      refine Ev_goto rfl ?_
      exact Ev_return rfl rfl rfl ⟨rfl, rfl, rfl⟩
    · refine Ev_lload rfl rfl ?_
      refine Ev_goto rfl ?_
      refine Ev_normL (show _ = lI (two t a b) by rw [ht, two45, if_pos (Decidable.not_not.mp (fun q => h152 ((c_ge hA hB).mpr q)))]) ?_
      refine Ev_callV rfl rfl rfl rfl rfl (same_n 402) (m_qPuts _ hρ (by omega) _) ?_
      rintro v161 ρ161 σ161 ⟨rfl, e161, g161⟩
      obtain rfl := e161.symm
      obtain rfl := g161.symm
      refine Ev_goto rfl ?_
      exact Ev_return rfl rfl rfl ⟨rfl, rfl, rfl⟩
  · have ht : (t : Int) = 46 := by unfold MO at hm; rw [hc] at h36_5; omega
    refine Ev_aload rfl rfl rfl ?_
    refine Ev_lload rfl rfl ?_
    refine Ev_lload rfl rfl ?_
    refine Ev_lcmp rfl ?_
    refine Ev_if_le rfl (fun h172 => ?_) (fun h172 => ?_)
    · refine Ev_lload rfl rfl ?_
      refine Ev_normL (show _ = lI (two t a b) by rw [ht, two46, if_neg ((c_le hA hB).mp h172)]) ?_
      refine Ev_callV rfl rfl rfl rfl rfl (same_n 402) (m_qPuts _ hρ (by omega) _) ?_
      rintro v181 ρ181 σ181 ⟨rfl, e181, g181⟩
      obtain rfl := e181.symm
      obtain rfl := g181.symm
      refine Ev_goto rfl ?_
      exact Ev_return rfl rfl rfl ⟨rfl, rfl, rfl⟩
    · refine Ev_lload rfl rfl ?_
      refine Ev_goto rfl ?_
      refine Ev_normL (show _ = lI (two t a b) by rw [ht, two46, if_pos (Decidable.not_not.mp (fun q => h172 ((c_le hA hB).mpr q)))]) ?_
      refine Ev_callV rfl rfl rfl rfl rfl (same_n 402) (m_qPuts _ hρ (by omega) _) ?_
      rintro v181 ρ181 σ181 ⟨rfl, e181, g181⟩
      obtain rfl := e181.symm
      obtain rfl := g181.symm
      refine Ev_goto rfl ?_
      exact Ev_return rfl rfl rfl ⟨rfl, rfl, rfl⟩
  · have ht : (t : Int) = 40 := by unfold MO at hm; rw [hc] at h36_6; omega
    refine Ev_aload rfl rfl rfl ?_
    refine Ev_lload rfl rfl ?_
    refine Ev_lload rfl rfl ?_
    refine Ev_lcmp rfl ?_
    refine Ev_if_ge rfl (fun h192 => ?_) (fun h192 => ?_)
    · refine Ev_constL rfl ?_
      refine Ev_normL (show _ = lI (two t a b) by rw [ht, two40, if_neg ((c_ge hA hB).mp h192)]; rfl) ?_
      refine Ev_callV rfl rfl rfl rfl rfl (same_n 402) (m_qPuts _ hρ (by omega) _) ?_
      rintro v200 ρ200 σ200 ⟨rfl, e200, g200⟩
      obtain rfl := e200.symm
      obtain rfl := g200.symm
      refine Ev_goto rfl ?_
      exact Ev_return rfl rfl rfl ⟨rfl, rfl, rfl⟩
    · refine Ev_constL rfl ?_
      refine Ev_goto rfl ?_
      refine Ev_normL (show _ = lI (two t a b) by rw [ht, two40, if_pos (Decidable.not_not.mp (fun q => h192 ((c_ge hA hB).mpr q)))]; rfl) ?_
      refine Ev_callV rfl rfl rfl rfl rfl (same_n 402) (m_qPuts _ hρ (by omega) _) ?_
      rintro v200 ρ200 σ200 ⟨rfl, e200, g200⟩
      obtain rfl := e200.symm
      obtain rfl := g200.symm
      refine Ev_goto rfl ?_
      exact Ev_return rfl rfl rfl ⟨rfl, rfl, rfl⟩
  · have ht : (t : Int) = 41 := by unfold MO at hm; rw [hc] at h36_7; omega
    refine Ev_aload rfl rfl rfl ?_
    refine Ev_lload rfl rfl ?_
    refine Ev_lload rfl rfl ?_
    refine Ev_lcmp rfl ?_
    refine Ev_if_le rfl (fun h211 => ?_) (fun h211 => ?_)
    · refine Ev_constL rfl ?_
      refine Ev_normL (show _ = lI (two t a b) by rw [ht, two41, if_neg ((c_le hA hB).mp h211)]; rfl) ?_
      refine Ev_callV rfl rfl rfl rfl rfl (same_n 402) (m_qPuts _ hρ (by omega) _) ?_
      rintro v219 ρ219 σ219 ⟨rfl, e219, g219⟩
      obtain rfl := e219.symm
      obtain rfl := g219.symm
      refine Ev_goto rfl ?_
      exact Ev_return rfl rfl rfl ⟨rfl, rfl, rfl⟩
    · refine Ev_constL rfl ?_
      refine Ev_goto rfl ?_
      refine Ev_normL (show _ = lI (two t a b) by rw [ht, two41, if_pos (Decidable.not_not.mp (fun q => h211 ((c_le hA hB).mpr q)))]; rfl) ?_
      refine Ev_callV rfl rfl rfl rfl rfl (same_n 402) (m_qPuts _ hρ (by omega) _) ?_
      rintro v219 ρ219 σ219 ⟨rfl, e219, g219⟩
      obtain rfl := e219.symm
      obtain rfl := g219.symm
      refine Ev_goto rfl ?_
      exact Ev_return rfl rfl rfl ⟨rfl, rfl, rfl⟩
  · have ht : (t : Int) = 42 := by unfold MO at hm; rw [hc] at h36_8; omega
    refine Ev_aload rfl rfl rfl ?_
    refine Ev_lload rfl rfl ?_
    refine Ev_lload rfl rfl ?_
    refine Ev_lcmp rfl ?_
    refine Ev_if_ne rfl (fun h230 => ?_) (fun h230 => ?_)
    · refine Ev_constL rfl ?_
      refine Ev_normL (show _ = lI (two t a b) by rw [ht, two42, if_neg (fun q => h230 ((c_eq hA hB).mpr q))]; rfl) ?_
      refine Ev_callV rfl rfl rfl rfl rfl (same_n 402) (m_qPuts _ hρ (by omega) _) ?_
      rintro v238 ρ238 σ238 ⟨rfl, e238, g238⟩
      obtain rfl := e238.symm
      obtain rfl := g238.symm
      refine Ev_goto rfl ?_
      exact Ev_return rfl rfl rfl ⟨rfl, rfl, rfl⟩
    · refine Ev_constL rfl ?_
      refine Ev_goto rfl ?_
      refine Ev_normL (show _ = lI (two t a b) by rw [ht, two42, if_pos ((c_eq hA hB).mp (Decidable.not_not.mp h230))]; rfl) ?_
      refine Ev_callV rfl rfl rfl rfl rfl (same_n 402) (m_qPuts _ hρ (by omega) _) ?_
      rintro v238 ρ238 σ238 ⟨rfl, e238, g238⟩
      obtain rfl := e238.symm
      obtain rfl := g238.symm
      refine Ev_goto rfl ?_
      exact Ev_return rfl rfl rfl ⟨rfl, rfl, rfl⟩
  · have ht : (t : Int) = 43 := by unfold MO at hm; rw [hc] at h36_9; omega
    refine Ev_aload rfl rfl rfl ?_
    refine Ev_lload rfl rfl ?_
    refine Ev_lload rfl rfl ?_
    refine Ev_lmul rfl ?_
    refine Ev_normL (lI_eq (by rw [Int64.toInt_mul, z_lI ha, z_lI hb, bm64 (by omega), ht, two43]) : _ = lI (two t a b)) ?_
    refine Ev_callV rfl rfl rfl rfl rfl (same_n 402) (m_qPuts _ hρ (by omega) _) ?_
    rintro v249 ρ249 σ249 ⟨rfl, e249, g249⟩
    obtain rfl := e249.symm
    obtain rfl := g249.symm
    refine Ev_goto rfl ?_
    exact Ev_return rfl rfl rfl ⟨rfl, rfl, rfl⟩
  · have ht : (t : Int) = 44 := by unfold MO at hm; rw [hc] at g36_0 g36_1 g36_2 g36_3 g36_4 g36_5 g36_6 g36_7 g36_8 g36_9; omega
    refine Ev_aload rfl rfl rfl ?_
    refine Ev_lload rfl rfl ?_
    refine Ev_lload rfl rfl ?_
    refine Ev_ladd rfl ?_
    refine Ev_normL (lI_eq (by rw [Int64.toInt_add, z_lI ha, z_lI hb, bm64 (by omega)]) : _ = lI (a + b)) ?_
    refine Ev_constL rfl ?_
    refine Ev_lcmp rfl ?_
    refine Ev_if_le rfl (fun h262 => ?_) (fun h262 => ?_)
    · refine Ev_constL rfl ?_
      refine Ev_normL (show _ = lI (two t a b) by rw [ht, two44, if_neg ((c_le (b := 0) hAB (by decide)).mp h262)]; rfl) ?_
      refine Ev_callV rfl rfl rfl rfl rfl (same_n 402) (m_qPuts _ hρ (by omega) _) ?_
      rintro v270 ρ270 σ270 ⟨rfl, e270, g270⟩
      obtain rfl := e270.symm
      obtain rfl := g270.symm
      exact Ev_return rfl rfl rfl ⟨rfl, rfl, rfl⟩
    · refine Ev_constL rfl ?_
      refine Ev_goto rfl ?_
      refine Ev_normL (show _ = lI (two t a b) by rw [ht, two44, if_pos (Decidable.not_not.mp (fun q => h262 ((c_le (b := 0) hAB (by decide)).mpr q)))]; rfl) ?_
      refine Ev_callV rfl rfl rfl rfl rfl (same_n 402) (m_qPuts _ hρ (by omega) _) ?_
      rintro v270 ρ270 σ270 ⟨rfl, e270, g270⟩
      obtain rfl := e270.symm
      obtain rfl := g270.symm
      exact Ev_return rfl rfl rfl ⟨rfl, rfl, rfl⟩
end S27
