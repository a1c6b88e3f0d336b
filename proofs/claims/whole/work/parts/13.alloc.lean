/-! Rules of the instructions that make cells: used by the two constructors alone. -/
def cI (c : Nat) : Nat × Nat := bif Nat.blt c 5 then (bif Nat.blt c 2 then (bif Nat.blt c 1 then ((171, 145)) else ((397, 150))) else (bif Nat.blt c 3 then ((519, 153)) else (bif Nat.blt c 4 then ((380, 149)) else ((316, 147))))) else (bif Nat.blt c 8 then (bif Nat.blt c 6 then ((177, 146)) else (bif Nat.blt c 7 then ((360, 148)) else ((513, 152)))) else (bif Nat.blt c 9 then ((474, 151)) else (bif Nat.blt c 10 then ((163, 144)) else ((1283, 154)))))
def aI (t : Nat) : Nat := bif Nat.blt t 2 then (bif Nat.blt t 1 then (199) else (198)) else (bif Nat.blt t 3 then (1622) else (1623))
def natF : Nat → FieldType
  | 0 => .int | 1 => .byte | 2 => .char | _ => .long
theorem cI_ok : ∀ q, q < 11 → wt (cI q).1 = some (Jvm.Cond.instantiable (cN q) (cF q)) ∧ wt (cI q).2 = some (Jvm.Cond.initialized (cN q)) := by decide +kernel
theorem aI_ok : ∀ t, t < 4 → wt (aI t) = some (Jvm.Cond.arrayClass (natF t)) := by decide +kernel
theorem WS_push {X : Cx} {n : Nat} {ρ ρ' : Rf} {σ σ' : St} (h : ∀ q, q < n → ce X ρ' σ' q (shp q) = ce X ρ σ q (shp q)) : WS X (n + 1) ρ' σ' = WS X n ρ σ ++ [(xB X + n, ce X ρ' σ' n (shp n))] := by
  unfold WS
  rw [List.range_succ, List.map_append]
  congr 1
  apply List.map_congr_left
  intro q hq
  rw [h q (List.mem_range.mp hq)]
theorem va_P_push {X : Cx} {n : Nat} {ρ ρ' : Rf} {σ σ' : St} {H H1 : Heap} (hP : WP X n ρ σ H) (hz : H1.size = H.size + 1) (ho : ∀ q, q < H.size → H1[q]? = H[q]?) (hn : va_at X.1 vwCl (xB X + n, ce X ρ' σ' n (shp n)) H1) (h : ∀ q, q < n → ce X ρ' σ' q (shp q) = ce X ρ σ q (shp q)) : WP X (n + 1) ρ' σ' H1 := by
  refine ⟨?_, by rw [hz, hP.2]; omega⟩
  rw [WS_push h]
  refine (hP.1.kept (fun k q hk => ?_)).app (fun k q hk => ?_)
  · obtain ⟨hkn, rfl⟩ := WS_some hk
    exact ho _ (by show xB X + k < _; rw [hP.2]; omega)
  · have h0 : k < 1 := (List.getElem?_eq_some_iff.mp hk).1
    rw [show k = 0 by omega] at hk
    cases hk
    exact hn
theorem va_S_push {X : Cx} {H0 H H1 : Heap} {locs : List Loc} (hS : va_S (xAd X) H0 H locs) (hz : H.size ≤ H1.size) (ho : ∀ q, q < H.size → H1[q]? = H[q]?) : va_S (xAd X) H0 H1 locs :=
  ⟨Nat.le_trans hS.1 hz, fun x h1 h2 => (ho x (Nat.lt_of_lt_of_le h1 hS.1)).trans (hS.2.1 x h1 h2), hS.2.2⟩
theorem ty_nf : ∀ q, q < 11 → ∀ k, k < cF q → cTy q k ≠ .float ∧ cTy q k ≠ .double := by decide +kernel
theorem obj_w1 : Jvm.Cond.instanceMethod Lib.objectInit ∈ wg := wg_mem (i := 168) rfl rfl
theorem obj_w2 : Jvm.Cond.code Lib.objectInit ⟨#[0xb1]⟩ 1 none ∈ wg := wg_mem (i := 169) rfl rfl
section EvN
variable {l : Launch} {X : Cx} {d i pc tag b c e nx : Nat} {vi : Int32} {vl : Int64} {ls st : List Value} {n0 n1 n : Nat} {ρ : Rf} {σ : St} {Q : Po}
/-- Object's constructor -/
theorem Ev_obj {k : Nat} (h : opn i pc = some (90, b, 9, e, nx, vi, vl)) (hcat : Nat.ble (catS st) 8 = true) (kk : Ev l X (d + 1) i nx ls st n0 n1 n ρ σ Q) : Ev l X (d + 1) i pc ls (.ref k :: st) n0 n1 n ρ σ Q := by
  obtain ⟨-, ins, len, hd, rfl, hc⟩ := op_ok h
  replace hc : ckCall i b 9 e ins len = true := hc
  obtain ⟨rfl, ix, hins, -, h9, -, -⟩ := call_ok hc
  have hins : ins = .invokespecial ix := by
    rcases hins with ⟨-, q⟩ | ⟨-, q⟩ | ⟨q, -⟩
    · omega
    · omega
    · exact q
  subst hins
  intro p ev s m args below meth cc H locs lsA C hP hS hL
  have hts := C.2.2.2.2.2.2.1
  exact W.objInit C.1 C.2.1 C.2.2.2.2.2.1 (hts _ (h9 rfl)) (hts _ obj_w1) (hts _ obj_w2) rfl (by rw [C.2.2.2.1]; exact hL.1) rfl hd (by show 1 ≤ d + 1; omega) (by
    have h1 := catS_ge (X := X) st
    have h2 := Nat.le_of_ble_eq_true hcat
    show 2 * 0 + _ + 12 ≤ 60 * (d + 1)
    omega) (kk p ev s m args below meth cc H locs lsA C hP hS hL)
/-- a new object -/
theorem Ev_new (h : opn i pc = some (110, b, c, e, nx, vi, vl)) (hs : (Nat.beq (shp n).1 (10 + b) && Nat.beq (shp n).2 (cF b)) = true) (hn : n0 ≤ n ∧ n + 1 ≤ n1)
    (kk : Ev l X d i nx ls (.ref n :: st) n0 n1 (n + 1) (sR ρ n (fun _ => none)) (sL (sI σ n (fun _ => 0)) n (fun _ => 0)) Q) : Ev l X d i pc ls st n0 n1 n ρ σ Q := by
  obtain ⟨-, ins, len, hd, rfl, hc⟩ := op_ok h
  replace hc : ckNew i b e ins len = true := hc
  unfold ckNew at hc
  split at hc
  · simp only [Bool.and_eq_true, Nat.blt_eq, decide_eq_true_eq] at hc
    obtain ⟨⟨a1, hb⟩, a3⟩ := hc
    have a1 := Nat.eq_of_beq_eq_true a1
    subst a1
    rw [Bool.and_eq_true] at hs
    have k2 := Nat.eq_of_beq_eq_true hs.1
    have k3 := Nat.eq_of_beq_eq_true hs.2
    intro p ev s m args below meth cc H locs lsA C hP hS hL
    have hts := C.2.2.2.2.2.2.1
    have hK := C.2.2.2.2.2.2.2.2.2.1
    have hKn := hK.1 b _ (cl_q b hb)
    have hsl : sln (n + 1) = sln n + cF b := by rw [← k3]; rfl
    have hm0 := sln_le hn.1
    have hm1 := sln_le hn.2
    refine W.newcK (n := cF b) C.1 C.2.1 C.2.2.2.2.2.1 (hts _ (wg_mem a3 rfl)) (hts _ (wg_mem (cI_ok b hb).1 rfl)) (hts _ (wg_mem (cI_ok b hb).2 rfl)) rfl hd (by show n - n0 + 1 ≤ n1 - n0; omega) (by show sln n - sln n0 + cF b ≤ sln n1 - sln n0; omega) hKn.2.1 rfl fun H1 kC hkC e1 z1 o1 => ?_
    have hkk := kk p ev s m args below meth cc H1 locs lsA C ?_ (va_S_push hS (by omega) o1) hL
    · rw [show n + 1 - n0 = n - n0 + 1 by omega, show sln (n + 1) - sln n0 = sln n - sln n0 + cF b by omega] at hkk
      rw [hP.2]
      exact hkk
    · refine va_P_push hP z1 o1 ?_ (fun q hq => ?_)
      · rw [ce_obj k2, k3]
        refine ⟨_, cl_q b hb, ?_⟩
        rw [hP.2] at e1
        refine (u_born (cTy b) hts (in_u b hb) hKn hkC e1 (ty_q b hb)).to (fun j hj => ?_)
        show _ = ((List.range (cF b)).map (fv X _ _ n b)).getD j .null
        rw [List.getD_eq_getElem?_getD, fs_get hj, Option.getD_some]
        have hf := fk_q b hb j hj
        unfold fv
        rw [← hf]
        have hnf := ty_nf b hb j hj
        cases hty : cTy b j <;> first | (simp [defaultValue, sL_2, sI_1, sL_1, sR, va_rf]; done) | exact absurd hty hnf.1 | exact absurd hty hnf.2
      · exact ce_congr (by rw [sL_1, sI_1, if_neg (by omega)]) (by rw [sL_2, if_neg (by omega), sI_2]) (by simp [sR, show q ≠ n by omega])
  · cases hc
/-- a new row of numbers -/
theorem Ev_newa {x : Int32} (h : opn i pc = some (111, b, c, e, nx, vi, vl)) (hx : ¬ x < 0) (hs : (Nat.beq (shp n).1 b && Nat.beq (shp n).2 x.toNatClampNeg && Nat.ble (shp n).2 10000) = true) (hn : n0 ≤ n ∧ n + 1 ≤ n1)
    (kk : Ev l X d i nx ls (.ref n :: st) n0 n1 (n + 1) (sR ρ n (fun _ => none)) (sL (sI σ n (fun _ => 0)) n (fun _ => 0)) Q) : Ev l X d i pc ls (.int x :: st) n0 n1 n ρ σ Q := by
  obtain ⟨-, ins, len, hd, rfl, hc⟩ := op_ok h
  replace hc : ckNewa b ins len = true := hc
  unfold ckNewa at hc
  split at hc
  · rename_i at0
    simp only [Bool.and_eq_true, Nat.blt_eq, decide_eq_true_eq] at hc
    obtain ⟨⟨a1, hb⟩, a3⟩ := hc
    have a1 := Nat.eq_of_beq_eq_true a1
    subst a1
    subst a3
    simp only [Bool.and_eq_true, Nat.ble_eq] at hs
    have k2 := Nat.eq_of_beq_eq_true hs.1.1
    have k3 := Nat.eq_of_beq_eq_true hs.1.2
    have k4 := hs.2
    intro p ev s m args below meth cc H locs lsA C hP hS hL
    have hts := C.2.2.2.2.2.2.1
    have hK := C.2.2.2.2.2.2.2.2.2.1
    have hsl : sln (n + 1) = sln n + x.toNatClampNeg := by rw [← k3]; rfl
    have hm0 := sln_le hn.1
    have hm1 := sln_le hn.2
    have hnf : newarray.typeOf (natT b) = natF b := by
      have : b = 0 ∨ b = 1 ∨ b = 2 ∨ b = 3 := by omega
      rcases this with rfl | rfl | rfl | rfl <;> rfl
    have hcb : componentBytes (natF b) ≤ 8 := by
      have : b = 0 ∨ b = 1 ∨ b = 2 ∨ b = 3 := by omega
      rcases this with rfl | rfl | rfl | rfl <;> decide
    refine va_newaK (N := x.toNatClampNeg) C.1 C.2.1 (atype := natT b) (by rw [hnf]; exact hts _ (wg_mem (aI_ok b hb) rfl)) rfl hd rfl hx rfl (by
      rw [hnf]
      exact Nat.le_trans (Nat.mul_le_mul (by omega : x.toNatClampNeg ≤ 10000) hcb) (by decide)) (by show n - n0 + 1 ≤ n1 - n0; omega) (by show sln n - sln n0 + x.toNatClampNeg ≤ sln n1 - sln n0; omega) rfl fun H1 cA e1 z1 o1 hAr hNm => ?_
    have hkk := kk p ev s m args below meth cc H1 locs lsA C ?_ (va_S_push hS (by omega) o1) hL
    · rw [show n + 1 - n0 = n - n0 + 1 by omega, show sln (n + 1) - sln n0 = sln n - sln n0 + x.toNatClampNeg by omega] at hkk
      rw [hP.2]
      exact hkk
    · refine va_P_push hP z1 o1 ?_ (fun q hq => ?_)
      · rw [hP.2] at e1
        have hb4 : b = 0 ∨ b = 1 ∨ b = 2 ∨ b = 3 := by omega
        rcases hb4 with rfl | rfl | rfl | rfl
        · have ecA : cA = xA X 0 := by have := (hK.2 0 _ rfl).2; exact Option.some.inj (hNm.symm.trans this)
          subst ecA
          show va_at X.1 vwCl (xB X + n, ce X _ _ n (shp n)) H1
          unfold ce
          rw [k2, k3]
          simp only [sL_1, sI_1, if_true]
          exact e1
        · have ecA : cA = xA X 1 := by have := (hK.2 1 _ rfl).2; exact Option.some.inj (hNm.symm.trans this)
          subst ecA
          show va_at X.1 vwCl (xB X + n, ce X _ _ n (shp n)) H1
          unfold ce
          rw [k2, k3]
          simp only [sL_1, sI_1, if_true]
          exact e1
        · have ecA : cA = xA X 2 := by have := (hK.2 2 _ rfl).2; exact Option.some.inj (hNm.symm.trans this)
          subst ecA
          show va_at X.1 vwCl (xB X + n, ce X _ _ n (shp n)) H1
          unfold ce
          rw [k2, k3]
          simp only [sL_1, sI_1, if_true]
          exact e1
        · have ecA : cA = xA X 3 := by have := (hK.2 3 _ rfl).2; exact Option.some.inj (hNm.symm.trans this)
          subst ecA
          show va_at X.1 vwCl (xB X + n, ce X _ _ n (shp n)) H1
          unfold ce
          rw [k2, k3]
          simp only [sL_2, if_true]
          exact e1
      · exact ce_congr (by rw [sL_1, sI_1, if_neg (by omega)]) (by rw [sL_2, if_neg (by omega), sI_2]) (by simp [sR, show q ≠ n by omega])
  · cases hc
/-- a new row of references -/
theorem Ev_anew {x : Int32} (h : opn i pc = some (112, b, c, e, nx, vi, vl)) (hx : ¬ x < 0) (hs : (Nat.beq (shp n).1 5 && Nat.beq (shp n).2 x.toNatClampNeg && Nat.ble (shp n).2 10000) = true) (hn : n0 ≤ n ∧ n + 1 ≤ n1)
    (kk : Ev l X d i nx ls (.ref n :: st) n0 n1 (n + 1) (sR ρ n (fun _ => none)) (sL (sI σ n (fun _ => 0)) n (fun _ => 0)) Q) : Ev l X d i pc ls (.int x :: st) n0 n1 n ρ σ Q := by
  obtain ⟨-, ins, len, hd, rfl, hc⟩ := op_ok h
  replace hc : ckANew i e ins len = true := hc
  unfold ckANew at hc
  split at hc
  · simp only [Bool.and_eq_true, decide_eq_true_eq] at hc
    obtain ⟨a1, a3⟩ := hc
    have a1 := Nat.eq_of_beq_eq_true a1
    subst a1
    simp only [Bool.and_eq_true, Nat.ble_eq] at hs
    have k2 := Nat.eq_of_beq_eq_true hs.1.1
    have k3 := Nat.eq_of_beq_eq_true hs.1.2
    have k4 := hs.2
    intro p ev s m args below meth cc H locs lsA C hP hS hL
    have hts := C.2.2.2.2.2.2.1
    have hK := C.2.2.2.2.2.2.2.2.2.1
    have hsl : sln (n + 1) = sln n + x.toNatClampNeg := by rw [← k3]; rfl
    have hm0 := sln_le hn.1
    have hm1 := sln_le hn.2
    have hov : (Jvm.Cond.arrayOver (.object "DeepBathing$Moment")).before args s = true := C.2.2.2.2.2.2.2.2.1.2.2.2.2.2.1
    refine W.anew C.1 C.2.1 C.2.2.2.2.2.1 (hts _ (wg_mem a3 rfl)) hov rfl hd rfl hx (by omega) (by show n - n0 + 1 ≤ n1 - n0; omega) (by show sln n - sln n0 + x.toNatClampNeg ≤ sln n1 - sln n0; omega) fun cA kA comp f1 f2 f3 f4 => ?_
    generalize hH1 : H.push ({ cls := cA, slots := Array.replicate x.toNatClampNeg .null, vm := .none } : Cell) = H1
    have z1 : H1.size = H.size + 1 := by rw [← hH1, Array.size_push]
    have e1 : H1[H.size]? = some (arrV cA x.toNatClampNeg (fun _ => .null)) := by rw [← hH1, Array.getElem?_push_size, ← arrV_new]
    have o1 : ∀ q : Nat, q < H.size → H1[q]? = H[q]? := fun q hq => by rw [← hH1, Array.getElem?_push, if_neg (Nat.ne_of_lt hq)]
    have hkk := kk p ev s m args below meth cc H1 locs lsA C ?_ (va_S_push hS (by omega) o1) hL
    · rw [show n + 1 - n0 = n - n0 + 1 by omega, show sln (n + 1) - sln n0 = sln n - sln n0 + x.toNatClampNeg by omega] at hkk
      rw [hP.2]
      exact hkk
    · refine va_P_push hP z1 o1 ?_ (fun q hq => ?_)
      · rw [hP.2] at e1
        have ecA : cA = xA X 5 := by
          obtain ⟨_, _, -, -, -, h9⟩ := (hK.2 5 _ rfl).2
          exact Option.some.inj (f1.symm.trans h9)
        subst ecA
        show va_at X.1 vwCl (xB X + n, ce X _ _ n (shp n)) H1
        unfold ce
        rw [k2, k3]
        simp only [sR, if_true]
        exact e1
      · exact ce_congr (by rw [sL_1, sI_1, if_neg (by omega)]) (by rw [sL_2, if_neg (by omega), sI_2]) (by simp [sR, show q ≠ n by omega])
  · cases hc
/-- a Moment goes into the row of Moments -/
theorem Ev_aast {k k' : Nat} {y : Int32} (h : opn i pc = some (79, b, c, e, nx, vi, vl)) (hk : isA n k 5 = true) (hk' : isO n k' 4 = true) (hi : vp_in y (shp k).2) (kk : Ev l X d i nx ls st n0 n1 n (sR ρ k (va_up (ρ k) y.toNatClampNeg (some k'))) σ Q) : Ev l X d i pc ls (.ref k' :: .int y :: .ref k :: st) n0 n1 n ρ σ Q := by
  obtain ⟨hd, rfl⟩ := plain_ok (ins0 := .aastore) (fun _ _ => rfl) h rfl
  obtain ⟨k1, k2⟩ := isA_lt hk
  obtain ⟨j1, j2, j3⟩ := isO_lt hk'
  intro p ev s m args below meth cc H locs lsA C hP hS hL
  have he := WS_get (X := X) (ρ := ρ) (σ := σ) k1
  have hce : ∀ r : Rf, ce X r σ k (shp k) = .inl (xA X 5, ((shp k).2, .inr (.inr (.inr (.inr (fun j => (r k j).map (xB X + ·))))))) := fun r => by unfold ce; rw [k2]; rfl
  rw [hce] at he
  have hj := WS_get (X := X) (ρ := ρ) (σ := σ) j1
  rw [ce_obj j2, j3] at hj
  have hK := C.2.2.2.2.2.2.2.2.2.1
  have hD := WS_D X n ρ σ
  have hlt : y.toNatClampNeg < (shp k).2 := Nat.not_le.mp fun q => hi (Or.inr q)
  have h0 : ¬ y < 0 := fun q => hi (Or.inl q)
  obtain ⟨r', hr', cellV, g1, g2, g3, -⟩ := hP.1 k' _ hj
  have hr4 : r' = (cN 4, cT 4, cF 4) := Option.some.inj (hr'.symm.trans (cl_q 4 (by decide)))
  subst hr4
  obtain ⟨kA, comp, q1, q2, q3, -⟩ := (hK.2 5 _ rfl).2
  obtain ⟨kE, hkE, -⟩ := Vm.findClass_spec q3
  have hCa := (hK.1 4 _ (cl_q 4 (by decide))).2
  obtain ⟨hfc, kC, hkC, hkind⟩ := id hCa
  have hcc : X.1.1 4 = comp := Option.some.inj (hfc.symm.trans q3)
  refine W.aast C.1 C.2.1 (hP.1 k _ he) (fun q h => by cases h) (fun h => by cases h) q1 q2 rfl hkE ⟨h0, by show _ < (arrV _ _ _).slots.size; rw [arrV_size]; exact hlt⟩ g1 (fun q h => by rw [g3] at h; cases h) (by rw [g2]; exact hkC) (by rw [g2, ← hcc]; exact va_assign hCa) rfl rfl hd fun H1 e1 z oq => ?_
  have hP1 := hP.1.set hD he (e := ce X (sR ρ k (va_up (ρ k) y.toNatClampNeg (some k'))) σ k (shp k)) (by
    rw [hce]
    show H1[xB X + k]? = some (vp_cell _ _)
    rw [e1]
    rw [vp_cell_q, vp_cell_q, arrV_store]
    congr 2
    funext q
    by_cases hq : q = y.toNatClampNeg
    · subst hq
      simp [updV, va_up, sR, va_rf]
    · simp [updV, va_up, sR, hq]) oq
  rw [WS_set rfl (fun q hq => by exact ce_congr rfl rfl (by simp [sR, hq]))] at hP1
  exact kk p ev s m args below meth cc H1 _ lsA C ⟨hP1, z.trans hP.2⟩ (hS.put z oq (Nat.le_add_right _ _)) hL
end EvN
