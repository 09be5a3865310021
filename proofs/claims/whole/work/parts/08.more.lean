/-! More rows: switches by values, fewer locals, row copies, class objects; ends of calls by their kinds. -/
section ROWS4
variable {G : GG} {l : Launch} {M : Mth} {d : Nat} {post : Option AVal → AS → Prop} {σ : AS} {kk nn pc : Nat} {L : List (Option AVal)} {st : List AVal}
def leL : List (Option AVal) → List (Option AVal) → Prop
  | [], _ => True
  | none :: L', [] => leL L' []
  | none :: L', _ :: L => leL L' L
  | some v :: L', a :: L => a = some v ∧ leL L' L
  | some _ :: _, [] => False
theorem leL_get : ∀ (L' L : List (Option AVal)), leL L' L → ∀ i v, lget L' i = some v → lget L i = some v
  | [], L, _, i, v, h => by cases h
  | none :: L', [], hl, 0, v, h => by cases h
  | none :: L', [], hl, i + 1, v, h => by
    have := leL_get L' [] hl i v h
    cases this
  | none :: L', _ :: L, hl, 0, v, h => by cases h
  | none :: L', _ :: L, hl, i + 1, v, h => leL_get L' L hl i v h
  | some w :: L', a :: L, hl, 0, v, h => hl.1.trans h
  | some w :: L', a :: L, hl, i + 1, v, h => leL_get L' L hl.2 i v h
  | some w :: L', [], hl, _, _, _ => hl.elim
theorem AW.weak {L' : List (Option AVal)} (h : AW G l M d post σ kk nn pc L' st) (hl : leL L' L) : AW G l M d post σ kk nn pc L st := by
  intro p e R s m args below meth co Qc ad H ls locs cells slots C hR hL hst hlo hc hs hQ
  exact h p e R s m args below meth co Qc ad H ls locs cells slots C hR ⟨hL.1, hL.2.1, fun i v hv => hL.2.2 i v (leL_get L' L hl i v hv)⟩ hst hlo hc hs hQ
theorem AW.posts {post' : Option AVal → AS → Prop} (h : AW G l M d post σ kk nn pc L st) (hp : ∀ v σ', post v σ' → post' v σ') : AW G l M d post' σ kk nn pc L st := by
  intro p e R s m args below meth co Qc ad H ls locs cells slots C hR hL hst hlo hc hs hQ
  exact h p e R s m args below meth co Qc ad H ls locs cells slots C hR hL hst hlo hc hs (fun v ad' σ' t a b c' d' e' => hQ v ad' σ' t a b c' d' (hp v σ' e'))
theorem AW.room {kk' nn' : Nat} (h : AW G l M d post σ kk nn pc L st) (h1 : kk ≤ kk') (h2 : nn ≤ nn') : AW G l M d post σ kk' nn' pc L st := by
  intro p e R s m args below meth co Qc ad H ls locs cells slots C hR hL hst hlo hc hs hQ
  exact h p e R s m args below meth co Qc ad H ls locs cells slots C hR hL hst hlo (by omega) (by omega) hQ
theorem aw_sw {dflt lo hi : Int} {offs : Array Int} {len : Nat} {x k : Int32} {off : Int} {tgt : Nat} (hd : decode (mC M) pc = .ok (.tableswitch dflt lo hi offs, len)) (hx : x = k) (h1 : ¬ k.toInt < lo) (h2 : ¬ hi < k.toInt) (ho : offs[(k.toInt - lo).toNat]? = some off) (ht : (pc : Int) + off = (tgt : Int)) (kt : AW G l M d post σ kk nn tgt L st) : AW G l M d post σ kk nn pc L (xI x :: st) := by
  subst hx
  exact aw_switchIn hd h1 h2 ho ht kt
theorem i32_eq {x y : Int32} (h : x.toInt = y.toInt) : x = y := Int32.toInt_inj.mp h
/-- answers by their kinds -/
def retI (f : Int32 → AS → Prop) : Option AVal → AS → Prop
  | some (.inl x), σ => f x σ
  | _, _ => False
def retL (f : Int64 → AS → Prop) : Option AVal → AS → Prop
  | some (.inr (.inl x)), σ => f x σ
  | _, _ => False
def retR (f : Option Nm → AS → Prop) : Option AVal → AS → Prop
  | some (.inr (.inr r)), σ => f r σ
  | _, _ => False
def retV (f : AS → Prop) : Option AVal → AS → Prop
  | none, σ => f σ
  | _, _ => False
theorem retI_to {f : Int32 → AS → Prop} {g : Option AVal → AS → Prop} (h : ∀ x σ', f x σ' → g (some (xI x)) σ') : ∀ v σ', retI f v σ' → g v σ' := by
  intro v σ' hv
  rcases v with _ | (x | x | r)
  · exact hv.elim
  · exact h x σ' hv
  · exact hv.elim
  · exact hv.elim
theorem retL_to {f : Int64 → AS → Prop} {g : Option AVal → AS → Prop} (h : ∀ x σ', f x σ' → g (some (xL x)) σ') : ∀ v σ', retL f v σ' → g v σ' := by
  intro v σ' hv
  rcases v with _ | (x | x | r)
  · exact hv.elim
  · exact hv.elim
  · exact h x σ' hv
  · exact hv.elim
theorem retR_to {f : Option Nm → AS → Prop} {g : Option AVal → AS → Prop} (h : ∀ x σ', f x σ' → g (some (xR x)) σ') : ∀ v σ', retR f v σ' → g v σ' := by
  intro v σ' hv
  rcases v with _ | (x | x | r)
  · exact hv.elim
  · exact hv.elim
  · exact hv.elim
  · exact h r σ' hv
theorem retV_to {f : AS → Prop} {g : Option AVal → AS → Prop} (h : ∀ σ', f σ' → g none σ') : ∀ v σ', retV f v σ' → g v σ' := by
  intro v σ' hv
  rcases v with _ | v
  · exact h σ' hv
  · exact hv.elim
/-- System.arraycopy of rows of Objects -/
def cpyS (σ : AS) (i sp dp n k : Nat) : AS := (σ.1, σ.2.1, σ.2.2.1, σ.2.2.2.1, σ.2.2.2.2.1, (fun x y j => if x = 23 ∧ y = k ∧ dp ≤ j ∧ j < dp + n then σ.2.2.2.2.2.1 23 i (sp + (j - dp)) else σ.2.2.2.2.2.1 x y j), σ.2.2.2.2.2.2)
theorem gQ_cpy (σ : AS) (i sp dp n k x y j : Nat) : gQ (cpyS σ i sp dp n k) x y j = if x = 23 ∧ y = k ∧ dp ≤ j ∧ j < dp + n then gQ σ 23 i (sp + (j - dp)) else gQ σ x y j := rfl
theorem aw_copy {idx i k : Nat} {sp dp n : Int32} (hw : Cond.methodLink (mO M) idx arraycopyName ∈ TW ∧ Cond.native arraycopyName ∈ TW ∧ Cond.static arraycopyName ∈ TW ∧ Cond.initialized "java/lang/System" ∈ TW) (hd : decode (mC M) pc = .ok (.invokestatic idx, 3)) (hk : k ≠ 0) (h1 : ¬ sp < 0) (h2 : ¬ dp < 0) (h3 : ¬ n < 0) (h4 : sp.toNatClampNeg + n.toNatClampNeg ≤ gN σ 23 i) (h5 : dp.toNatClampNeg + n.toNatClampNeg ≤ gN σ 23 k) (hob : ∀ j, inObj (gQ σ 23 i j)) (h0 : st.length ≤ 4)
    (k2 : AW G l M (d + 1) post (cpyS σ i sp.toNatClampNeg dp.toNatClampNeg n.toNatClampNeg k) kk nn (pc + 3) L st) : AW G l M (d + 1) post σ kk nn pc L (xI n :: xI dp :: xR (some (23, k)) :: xI sp :: xR (some (23, i)) :: st) := by
  intro p e R s m args below meth co Qc ad H ls locs cells slots C hR hL hst hlo hc hs hQ
  have hts := C.2.2.2.2.2.1
  have K := C.2.2.2.2.2.2.2.2.1
  have hi : i < cnt σ 23 := ok_hd (ok_tl (ok_tl (ok_tl (ok_tl hst)))) _ rfl
  have hkk : k < cnt σ 23 := ok_hd (ok_tl (ok_tl hst)) _ rfl
  have hst' := ok_tl (ok_tl (ok_tl (ok_tl (ok_tl hst))))
  have hc0 := hR.2.1 23 i (by decide) (by decide) hi
  have hc1 := hR.2.1 23 k (by decide) (by decide) hkk
  rw [acell_q ad hk] at hc1
  have nn' : ∀ z : Int32, ¬ z < 0 → z.toInt = (z.toNatClampNeg : Int) := by
    intro z hz
    have hz0 : (0 : Int) ≤ z.toInt := by
      have := Int32.not_lt.mp hz
      simpa using Int32.le_iff_toInt_le.mp this
    show z.toInt = ((z.toInt.toNat : Nat) : Int)
    omega
  have hnf : ¬ fixd 23 k := by unfold fixd; omega
  intro T hT X
  obtain ⟨ho0, k0, hk0, cm0, hkk0⟩ := acell_obj (σ := σ) K ad (i := i)
  obtain ⟨-, k1, hk1, cm1, hkk1⟩ := (K.ty 3 rfl) (gN σ 23 k) (fun j => va_rf ((gQ σ 23 k j).map (adn ad)))
  have hfr := C.2.2.2.2.2.2.2.2.2
  obtain ⟨vm', X', step⟩ := X.arraycopy C.1 C.2.2.2.2.1 (hts _ hw.1) (hts _ hw.2.1) (hts _ hw.2.2.1) (hts _ hw.2.2.2) (src := ad 23 i) (dst := ad 23 k) (cs := acell G ad σ 23 i) (cd := arrV (G.2.1 3) (gN σ 23 k) (fun j => va_rf ((gQ σ 23 k j).map (adn ad)))) (srcPos := sp) (destPos := dp) (n := n) (by rw [hT]; exact hc0) (by rw [hT]; exact hc1)
    ho0 (fun _ h => by cases h) (acell_kn K ad) (fun h => by cases h) hk0 hk1 hkk0 hkk1 rfl h1 h2 h3
    (by have hge := acell_ge (G := G) ad i hR.2.2.2.2.2.2.2.1; rw [nn' sp h1, nn' n h3]; omega) (by rw [nn' dp h2, nn' n h3, arrV_size]; omega)
    (fun vm₁ hal j hj => by
      have e : (acell G ad σ 23 i).slots.getD (sp.toNatClampNeg + j) .null = va_rf ((gQ σ 23 i (sp.toNatClampNeg + j)).map (adn ad)) := by
        rw [Array.getD_eq_getD_getElem?, acell_rd ad hR.2.2.2.2.2.2.2.1 (by omega)]
        rfl
      rw [e]
      cases hy : gQ σ 23 i (sp.toNatClampNeg + j) with
      | none => exact ⟨rfl, trivial⟩
      | some y =>
        obtain ⟨cellV, g1, g2, ⟨kC, hkC⟩, hasg⟩ := any_of hR K (hob _ y hy) (hR.2.2.2.2.2.2.1 23 i _ hi y hy)
        obtain ⟨kA, comp, r1, r2, r3, -⟩ := (K.1.2 3 _ rfl).2
        cases hk1.symm.trans r1
        cases hkk1.symm.trans r2
        obtain ⟨kE, hkE, -⟩ := Vm.findClass_spec r3
        obtain ⟨kC', hkC', -⟩ := hal.2.2 _ _ hkC
        obtain ⟨kE', hkE', -⟩ := hal.2.2 _ _ hkE
        refine ⟨rfl, cellV, (show T.heap[adn ad y]? = some cellV by rw [hT]; exact g1), (fun q h => by rw [h] at g2; cases g2), ⟨kC', hkC'⟩, ⟨kE', hkE'⟩, ?_⟩
        show vm₁.assignable _ _ = true
        rw [hal.assignable]
        exact hasg _ r3)
    (g := F0 m pc ls ((xI n :: xI dp :: xR (some (23, k)) :: xI sp :: xR (some (23, i)) :: st).map (cv ad))) rfl (by rw [C.2.2.1]; exact hL.1) (rest := st.map (cv ad)) rfl (by rw [C.2.1]; exact hd) (by have := hfr.1; omega) (by
      have h6 := cat_le ad st
      have h7 : nativeFrameWords "java/lang/System" "arraycopy" 5 ≤ 20 := by decide
      have h8 := hfr.2
      show 2 * 0 + _ + _ ≤ _
      omega)
  have e1 : copied (acell G ad σ 23 i) (arrV (G.2.1 3) (gN σ 23 k) (fun j => va_rf ((gQ σ 23 k j).map (adn ad)))) sp dp n = acell G ad (cpyS σ i sp.toNatClampNeg dp.toNatClampNeg n.toNatClampNeg k) 23 k := by
    rw [acell_q ad hk]
    refine (va_copiedX (fun z : Option Nm => va_rf (z.map (adn ad))) (acell G ad σ 23 i) (G.2.1 3) (gQ σ 23 i) (gQ σ 23 k) (n0 := gN σ 23 i) (n1 := gN σ 23 k) (fun j hj => acell_rd ad hR.2.2.2.2.2.2.2.1 hj) h4).trans ?_
    refine congrArg (fun f => arrV _ _ f) (funext fun j => ?_)
    rw [gQ_cpy]
    unfold va_cpy
    by_cases hj : dp.toNatClampNeg ≤ j ∧ j < dp.toNatClampNeg + n.toNatClampNeg
    · rw [if_pos hj, if_pos ⟨rfl, rfl, hj⟩]
    · rw [if_neg hj, if_neg (fun h => hj h.2.2)]
  rw [e1] at X' step
  have hl : ad 23 k < H.size := (hR.2.2.2.1 23 k hkk).1 (by decide)
  have hheap : ((T.setVm vm').setCell (ad 23 k) (acell G ad (cpyS σ i sp.toNatClampNeg dp.toNatClampNeg n.toNatClampNeg k) 23 k)).heap = H.setIfInBounds (ad 23 k) (acell G ad (cpyS σ i sp.toNatClampNeg dp.toNatClampNeg n.toNatClampNeg k) 23 k) := by rw [← hT]; rfl
  have hE : Ext σ ad (cpyS σ i sp.toNatClampNeg dp.toNatClampNeg n.toNatClampNeg k) ad := fun _ _ h => ⟨h, rfl⟩
  have hR' : Rep G ad (cpyS σ i sp.toNatClampNeg dp.toNatClampNeg n.toNatClampNeg k) (H.setIfInBounds (ad 23 k) (acell G ad (cpyS σ i sp.toNatClampNeg dp.toNatClampNeg n.toNatClampNeg k) 23 k)) := by
    refine rep_ast hR hkk (by decide) hnf (by simp) (fun q hq => by simp [Array.getElem?_setIfInBounds, Ne.symm hq]) (by simp [Array.getElem?_setIfInBounds, hl]) ⟨rfl, rfl, rfl, rfl⟩ (fun x y hne => ⟨fun _ => rfl, fun j => ?_, fun _ => rfl⟩) (fun j => ?_)
    · rw [gQ_cpy, if_neg (fun h => hne ⟨h.1, h.2.1⟩)]
    · rw [gQ_cpy]
      split
      · exact hR.2.2.2.2.2.2.1 23 i _ hi
      · exact hR.2.2.2.2.2.2.1 23 k _ hkk
  obtain ⟨t, a1, b1⟩ := k2 p e R s m args below meth co Qc ad _ ls _ cells slots C hR' (hL.ext hE) (fun v hv => ext_okv hE (hst' v hv)) (fun q hq => by
      rcases List.mem_append.mp hq with h | h
      · exact hlo q h
      · obtain ⟨z, -, hz⟩ := List.mem_map.mp h
        rw [← hz]
        exact (hR.2.2.2.1 23 k hkk).2.1 hnf) hc hs (fun v ad' σ2 t hW hR2 hE2 => hQ v ad' σ2 t hW hR2 (hE.tr hE2)) _ hheap X'
  exact ⟨t, step t a1, b1⟩
theorem aw_ldcM {idx : Nat} (hw : Cond.classLink (mO M) idx "[Ljava/lang/Object;" ∈ TW) (hd : decode (mC M) pc = .ok (.ldc idx, 2)) (k : AW G l M d post σ kk nn (pc + 2) L (xR (some (31, 0)) :: st)) : AW G l M d post σ kk nn pc L st := by
  intro p e R s m args below meth co Qc ad H ls locs cells slots C hR hL hst hlo hc hs hQ
  have h31 : 0 < cnt σ 31 := by rw [hR.2.2.2.2.2.2.2.2.2.2.1]; decide
  have e9 := ((hR.2.2.2.1 31 0 h31).2.2 (Or.inr (Or.inr (Or.inr (Or.inl rfl))))).1
  have h := k p e R s m args below meth co Qc ad H ls locs cells slots C hR hL (ok_c (fun n h => by cases h; exact h31) hst) hlo hc hs hQ
  exact va_ldcM (mi := ad 31 0) C.1 C.2.1 C.2.2.2.2.1 (C.2.2.2.2.2.1 _ hw) (by rw [e9]; exact C.2.2.2.2.2.2.2.2.1.2.2.2.1.2.2) hd h
theorem aw_getC {idx i : Nat} (hw : Cond.methodLink (mO M) idx ⟨"java/lang/Object", "getClass", "()Ljava/lang/Class;"⟩ ∈ TW ∧ Cond.selects "[Ljava/lang/Object;" ⟨"java/lang/Object", "getClass", "()Ljava/lang/Class;"⟩ ⟨"java/lang/Object", "getClass", "()Ljava/lang/Class;"⟩ ∈ TW ∧ Cond.instanceMethod ⟨"java/lang/Object", "getClass", "()Ljava/lang/Class;"⟩ ∈ TW ∧ Cond.native ⟨"java/lang/Object", "getClass", "()Ljava/lang/Class;"⟩ ∈ TW) (hd : decode (mC M) pc = .ok (.invokevirtual idx, 3)) (h0 : st.length ≤ 4) (k : AW G l M (d + 1) post σ kk nn (pc + 3) L (xR (some (31, 0)) :: st)) : AW G l M (d + 1) post σ kk nn pc L (xR (some (23, i)) :: st) := by
  intro p e R s m args below meth co Qc ad H ls locs cells slots C hR hL hst hlo hc hs hQ
  have hts := C.2.2.2.2.2.1
  have K := C.2.2.2.2.2.2.2.2.1
  have hi : i < cnt σ 23 := ok_hd hst _ rfl
  have h31 : 0 < cnt σ 31 := by rw [hR.2.2.2.2.2.2.2.2.2.2.1]; decide
  have e9 := ((hR.2.2.2.1 31 0 h31).2.2 (Or.inr (Or.inr (Or.inr (Or.inl rfl))))).1
  have h := k p e R s m args below meth co Qc ad H ls locs cells slots C hR hL (ok_c (fun n h => by cases h; exact h31) (ok_tl hst)) hlo hc hs hQ
  have hcell := hR.2.1 23 i (by decide) (by decide) hi
  have hfr := C.2.2.2.2.2.2.2.2.2
  obtain ⟨_, _, _, _, _, hnm0⟩ := (K.1.2 3 _ rfl).2
  obtain ⟨hst0, hnm⟩ := acell_cls (σ := σ) K ad (i := i) hnm0
  exact va_getC (C := "[Ljava/lang/Object;") (mi := ad 31 0) C.1 C.2.1 (by rw [C.2.2.1]; exact hL.1.symm) C.2.2.2.2.1 (hts _ hw.1) (va_Dc.use K.2.2.2.1.1) (hts _ hw.2.1) (hts _ hw.2.2.1) (hts _ hw.2.2.2) (by rw [e9]; exact K.2.2.2.1.2.2) ⟨_, hcell, hst0, hnm⟩ (by have := hfr.1; omega) (by have h6 := cat_le ad st; have h8 := hfr.2; omega) hd h
end ROWS4
