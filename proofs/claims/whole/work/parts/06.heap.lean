/-! Rows that read and write the heap; new objects and arrays; calls; ends. -/
section HEAP0
variable {G : GG} {ad : Nat → Nat → Nat} {σ σ' : AS} {H H' : Heap} {c i : Nat}
theorem acell_eq (h : (∀ j, gA σ' c i j = gA σ c i j) ∧ (∀ j, gQ σ' c i j = gQ σ c i j) ∧ (∀ j, gL σ' c i j = gL σ c i j) ∧ gN σ' c i = gN σ c i) : acell G ad σ' c i = acell G ad σ c i := by
  obtain ⟨h1, h2, h3, h4⟩ := h
  have e1 : gA σ' c i = gA σ c i := funext h1
  have e2 : gQ σ' c i = gQ σ c i := funext h2
  have e3 : gL σ' c i = gL σ c i := funext h3
  unfold acell acell0
  rw [e1, e2, e3, h4]
theorem fv_eq {f : Nat} (h1 : gI σ' c f i = gI σ c f i) (h2 : gR σ' c f i = gR σ c f i) : fv ad σ' c i f = fv ad σ c i f := by unfold fv; rw [h1, h2]
/-- one object or array was written -/
theorem rep_set (hR : Rep G ad σ H) (hi : i < cnt σ c) (hnf : ¬ fixd c i) (z : H'.size = H.size) (oq : ∀ q, q ≠ ad c i → H'[q]? = H[q]?) (hcnt : ∀ x, cnt σ' x = cnt σ x)
    (obj : ∀ r, vwCl[c]? = some r → t_OB (ad c i) (G.1.1 c) r.2.2 (G.1.2 c) H' (fv ad σ' c i)) (arr : 20 ≤ c → c < 28 → H'[ad c i]? = some (acell G ad σ' c i))
    (oI : ∀ x f y, ¬ (x = c ∧ y = i) → gI σ' x f y = gI σ x f y) (oR : ∀ x f y, ¬ (x = c ∧ y = i) → gR σ' x f y = gR σ x f y)
    (oA : ∀ x y, ¬ (x = c ∧ y = i) → (∀ j, gA σ' x y j = gA σ x y j) ∧ (∀ j, gQ σ' x y j = gQ σ x y j) ∧ (∀ j, gL σ' x y j = gL σ x y j)) (oN : ∀ x y, gN σ' x y = gN σ x y)
    (kR : ∀ f, okn σ (gR σ' c f i)) (kQ : ∀ j, okn σ (gQ σ' c i j)) : Rep G ad σ' H' := by
  obtain ⟨h1, h2, h3, h4, h5, h6, h7, h8⟩ := hR
  have hgB : gB G ≤ ad c i := (h4 c i hi).2.1 hnf
  have ne : ∀ x y, y < cnt σ x → x ≠ 31 → ¬ (x = c ∧ y = i) → ad x y ≠ ad c i := fun x y hy hx hn e => by
    have := h3 c i x y hi hy hnf hx e.symm
    exact hn ⟨this.1.symm, this.2.symm⟩
  have okc : ∀ r, okn σ r → okn σ' r := fun r h n e => by rw [hcnt]; exact h n e
  refine ⟨fun x y hy r hr => ?_, fun x y hx hx2 hy => ?_, fun x y x' y' hy hy' => ?_, fun x y hy => ?_, ⟨by rw [z]; exact h5.1, fun q hq => ?_⟩, fun x f y hy => ?_, fun x y j hy => ?_, ?_⟩
  · rw [hcnt] at hy
    by_cases hn : x = c ∧ y = i
    · obtain ⟨rfl, rfl⟩ := hn
      exact obj r hr
    · have := (h1 x y hy r hr).kept (oq _ (ne x y hy (by have := cls_lt hr; omega) hn))
      exact this.to (fun f _ => (fv_eq (oI x f y hn) (oR x f y hn)).symm)
  · rw [hcnt] at hy
    by_cases hn : x = c ∧ y = i
    · obtain ⟨rfl, rfl⟩ := hn
      exact arr hx hx2
    · rw [oq _ (ne x y hy (by omega) hn), h2 x y hx hx2 hy, acell_eq ⟨(oA x y hn).1, (oA x y hn).2.1, (oA x y hn).2.2, oN x y⟩]
  · rw [hcnt] at hy hy'
    exact h3 x y x' y' hy hy'
  · rw [hcnt] at hy
    rw [z]
    exact h4 x y hy
  · rw [oq q (fun e => by omega)]
    exact h5.2 q hq
  · rw [hcnt] at hy
    by_cases hn : x = c ∧ y = i
    · obtain ⟨rfl, rfl⟩ := hn
      exact okc _ (kR f)
    · rw [oR x f y hn]
      exact okc _ (h6 x f y hy)
  · rw [hcnt] at hy
    by_cases hn : x = c ∧ y = i
    · obtain ⟨rfl, rfl⟩ := hn
      exact okc _ (kQ j)
    · rw [(oA x y hn).2.1]
      exact okc _ (h7 x y j hy)
  · rw [oN, hcnt, hcnt, hcnt, hcnt]
    exact h8
def adU (ad : Nat → Nat → Nat) (c i q : Nat) : Nat → Nat → Nat := fun x y => if x = c ∧ y = i then q else ad x y
theorem adU_self {q : Nat} : adU ad c i q c i = q := if_pos ⟨rfl, rfl⟩
theorem adU_ne {q x y : Nat} (h : ¬ (x = c ∧ y = i)) : adU ad c i q x y = ad x y := if_neg h
/-- a new object or array at the heap's end -/
theorem rep_new (hR : Rep G ad σ H) (hc : c ≠ 30 ∧ c ≠ 31 ∧ c ≠ 27 ∧ c ≠ 32 ∧ (c = 23 → 0 < cnt σ 23)) (z : H'.size = H.size + 1) (oq : ∀ q, q < H.size → H'[q]? = H[q]?) (hcnt : ∀ x, cnt σ' x = if x = c then cnt σ c + 1 else cnt σ x)
    (obj : ∀ r, vwCl[c]? = some r → t_OB H.size (G.1.1 c) r.2.2 (G.1.2 c) H' (fv (adU ad c (cnt σ c) H.size) σ' c (cnt σ c))) (arr : 20 ≤ c → c < 28 → H'[H.size]? = some (acell G (adU ad c (cnt σ c) H.size) σ' c (cnt σ c)))
    (oI : ∀ x f y, ¬ (x = c ∧ y = cnt σ c) → gI σ' x f y = gI σ x f y) (oR : ∀ x f y, ¬ (x = c ∧ y = cnt σ c) → gR σ' x f y = gR σ x f y)
    (oA : ∀ x y, ¬ (x = c ∧ y = cnt σ c) → (∀ j, gA σ' x y j = gA σ x y j) ∧ (∀ j, gQ σ' x y j = gQ σ x y j) ∧ (∀ j, gL σ' x y j = gL σ x y j) ∧ gN σ' x y = gN σ x y)
    (kR : ∀ f, gR σ' c f (cnt σ c) = none ∨ ¬ c < 14) (kQ : ∀ j, gQ σ' c (cnt σ c) j = none ∨ c < 14) (kR2 : ∀ f, okn σ (gR σ' c f (cnt σ c))) (kQ2 : ∀ j, okn σ (gQ σ' c (cnt σ c) j)) : Rep G (adU ad c (cnt σ c) H.size) σ' H' ∧ Ext σ ad σ' (adU ad c (cnt σ c) H.size) := by
  obtain ⟨h1, h2, h3, h4, h5, h6, h7, h8⟩ := hR
  have ne : ∀ x y, y < cnt σ x → ¬ (x = c ∧ y = cnt σ c) := fun x y hy hn => by obtain ⟨rfl, rfl⟩ := hn; omega
  have old : ∀ x y, y < cnt σ' x → ¬ (x = c ∧ y = cnt σ c) → y < cnt σ x := fun x y hy hn => by
    rw [hcnt] at hy
    split at hy
    · rename_i hx
      subst hx
      have : y ≠ cnt σ x := fun e => hn ⟨rfl, e⟩
      omega
    · exact hy
  have up : ∀ x y, y < cnt σ x → y < cnt σ' x := fun x y hy => by
    rw [hcnt]
    split
    · rename_i hx
      subst hx
      omega
    · exact hy
  have hE : Ext σ ad σ' (adU ad c (cnt σ c) H.size) := fun x y hy => ⟨up x y hy, adU_ne (ne x y hy)⟩
  have nf : ¬ fixd c (cnt σ c) := by
    rintro (⟨e, f⟩ | ⟨e, f⟩ | e | e | e)
    · have := hc.2.2.2.2 e
      subst e
      omega
    · exact hc.2.2.1 e
    · exact hc.1 e
    · exact hc.2.1 e
    · exact hc.2.2.2.1 e
  have lt : ∀ x y, y < cnt σ x → x ≠ 31 → ad x y < H.size := fun x y hy hx => (h4 x y hy).1 hx
  refine ⟨⟨fun x y hy r hr => ?_, fun x y hx hx2 hy => ?_, fun x y x' y' hy hy' hf hx' hxy => ?_, fun x y hy => ?_, ⟨by rw [z]; have := h5.1; omega, fun q hq => ?_⟩, fun x f y hy => ?_, fun x y j hy => ?_, ?_⟩, hE⟩
  · by_cases hn : x = c ∧ y = cnt σ c
    · obtain ⟨rfl, rfl⟩ := hn
      rw [adU_self]
      exact obj r hr
    · have hy := old x y hy hn
      rw [adU_ne hn]
      refine ((h1 x y hy r hr).kept (oq _ (lt x y hy (by have := cls_lt hr; omega)))).to (fun f _ => ?_)
      unfold fv
      rw [oI x f y hn, oR x f y hn]
      split
      · rw [ext_mapn hE (h6 x f y hy)]
      · rfl
  · by_cases hn : x = c ∧ y = cnt σ c
    · obtain ⟨rfl, rfl⟩ := hn
      rw [adU_self]
      exact arr hx hx2
    · have hy := old x y hy hn
      rw [adU_ne hn, oq _ (lt x y hy (by omega)), h2 x y hx hx2 hy]
      have e1 : gA σ' x y = gA σ x y := funext (oA x y hn).1
      have e2 : gQ σ' x y = gQ σ x y := funext (oA x y hn).2.1
      have e3 : gL σ' x y = gL σ x y := funext (oA x y hn).2.2.1
      have e4 : (fun j => va_rf ((gQ σ x y j).map (adn (adU ad c (cnt σ c) H.size)))) = (fun j => va_rf ((gQ σ x y j).map (adn ad))) := funext fun j => by rw [ext_mapn hE (h7 x y j hy)]
      unfold acell acell0
      rw [e1, e2, e3, e4, (oA x y hn).2.2.2]
  · by_cases hn : x = c ∧ y = cnt σ c
    · by_cases hn' : x' = c ∧ y' = cnt σ c
      · exact ⟨hn.1.trans hn'.1.symm, hn.2.trans hn'.2.symm⟩
      · have hy' := old x' y' hy' hn'
        obtain ⟨rfl, rfl⟩ := hn
        rw [adU_self, adU_ne hn'] at hxy
        have := lt x' y' hy' hx'
        omega
    · have hy := old x y hy hn
      by_cases hn' : x' = c ∧ y' = cnt σ c
      · obtain ⟨rfl, rfl⟩ := hn'
        rw [adU_self, adU_ne hn] at hxy
        have := lt x y hy (fun e => hf (Or.inr (Or.inr (Or.inr (Or.inl e)))))
        omega
      · have hy' := old x' y' hy' hn'
        rw [adU_ne hn, adU_ne hn'] at hxy
        exact h3 x y x' y' hy hy' hf hx' hxy
  · by_cases hn : x = c ∧ y = cnt σ c
    · obtain ⟨rfl, rfl⟩ := hn
      rw [adU_self]
      exact ⟨fun _ => by omega, fun _ => h5.1, fun h => absurd h nf⟩
    · have hy := old x y hy hn
      rw [adU_ne hn]
      obtain ⟨g1, g2, g3⟩ := h4 x y hy
      exact ⟨fun hx => by have := g1 hx; omega, g2, g3⟩
  · rw [oq q (by have := h5.1; omega)]
    exact h5.2 q hq
  · by_cases hn : x = c ∧ y = cnt σ c
    · obtain ⟨rfl, rfl⟩ := hn
      exact ext_okn hE (kR2 f)
    · rw [oR x f y hn]
      exact ext_okn hE (h6 x f y (old x y hy hn))
  · by_cases hn : x = c ∧ y = cnt σ c
    · obtain ⟨rfl, rfl⟩ := hn
      exact ext_okn hE (kQ2 j)
    · rw [(oA x y hn).2.1]
      exact ext_okn hE (h7 x y j (old x y hy hn))
  · obtain ⟨a1, a2, a3, a4, a5⟩ := h8
    have n23 : ¬ (23 = c ∧ 0 = cnt σ c) := fun h => by
      have := hc.2.2.2.2 h.1.symm
      rw [h.1] at this
      omega
    refine ⟨?_, up _ _ a2, ?_, ?_, ?_⟩
    · rw [(oA 23 0 n23).2.2.2]; exact a1
    · rw [hcnt, if_neg (Ne.symm hc.1)]; exact a3
    · rw [hcnt, if_neg (Ne.symm hc.2.1)]; exact a4
    · rw [hcnt, if_neg (Ne.symm hc.2.2.2.1)]; exact a5
end HEAP0
abbrev FL (M : Mth) (c f idx : Nat) : Prop := FLo (mO M) c f idx
section ROWS2
variable {G : GG} {l : Launch} {M : Mth} {d : Nat} {post : Option AVal → AS → Prop} {σ : AS} {kk nn pc : Nat} {L : List (Option AVal)} {st : List AVal}
theorem aw_get {c f i idx : Nat} (hf : FL M c f idx) (hd : decode (mC M) pc = .ok (.getfield idx, 3)) {w : AVal} (hw : w = if isRf c f = true then xR (gR σ c f i) else xI (gI σ c f i)) (k : AW G l M d post σ kk nn (pc + 3) L (w :: st)) : AW G l M d post σ kk nn pc L (xR (some (c, i)) :: st) := by
  intro p e R s m args below meth co Qc ad H ls locs cells slots C hR hL hst hlo hc hs hQ
  have hi : i < cnt σ c := ok_hd hst _ rfl
  obtain ⟨r, ref, hr, hk, hlink, hsame⟩ := hf
  obtain ⟨cell, q1, q2, q3, q4⟩ := hR.1 c i hi r hr
  obtain ⟨hS, hfc, kC, hkC, hkind⟩ := C.2.2.2.2.2.2.2.2.1.1.1 c _ hr
  obtain ⟨cf, kf, fi, fd, hfd, hsl⟩ := hS f hk
  have hts := C.2.2.2.2.2.1
  have hsame' : s.fieldFound? ref (r.2.1 f).2.1 (r.2.1 f).2.2.1 = some (cf, kf, fi, fd) := by
    rcases hsame with e | e
    · rw [← e]; exact hfd
    · exact u_same (hts _ e) _ hfd
  have hv : cv ad w = fv ad σ c i f := by
    rw [hw]
    unfold fv
    split <;> rfl
  refine W.getf C.1 C.2.1 C.2.2.2.2.1 (hts _ hlink) hsame' (u_facts hfc hkC (u_lays hts (cls_in hr) hk) hfd).1 q1 (by rw [q3]; exact fun h => by cases h) (v := cv ad w) (by rw [hsl, q4 f hk, hv]) rfl rfl hd ?_
  refine k p e R s m args below meth co Qc ad H ls locs cells slots C hR hL (ok_c ?_ (ok_tl hst)) hlo hc hs hQ
  rw [hw]
  split
  · exact hR.2.2.2.2.2.1 c f i hi
  · trivial
theorem aw_getI {c f i idx : Nat} (hf : FL M c f idx) (hr : isRf c f = false) (hd : decode (mC M) pc = .ok (.getfield idx, 3)) (k : AW G l M d post σ kk nn (pc + 3) L (xI (gI σ c f i) :: st)) : AW G l M d post σ kk nn pc L (xR (some (c, i)) :: st) := aw_get hf hd (by rw [hr]; rfl) k
theorem aw_getR {c f i idx : Nat} (hf : FL M c f idx) (hr : isRf c f = true) (hd : decode (mC M) pc = .ok (.getfield idx, 3)) (k : AW G l M d post σ kk nn (pc + 3) L (xR (gR σ c f i) :: st)) : AW G l M d post σ kk nn pc L (xR (some (c, i)) :: st) := aw_get hf hd (by rw [hr]; rfl) k
/-- a field written: final ones in their own constructor -/
theorem aw_put0 {c f i idx : Nat} (hf : FL M c f idx) (hnx : ¬ fixd c i) (hfin : ∀ r, vwCl[c]? = some r → (r.2.1 f).2.2.2 = false ∨ ((mY M).name = "<init>" ∧ (r.2.1 f).1 = mO M)) (hd : decode (mC M) pc = .ok (.putfield idx, 3)) {w : AVal} {σ' : AS} (hn : narrow (tyT c f) (cv (fun _ _ => 0) w) = cv (fun _ _ => 0) w) (hfit : fits (tyT c f) (cv (fun _ _ => 0) w) = true)
    (hσ : (isRf c f = false ∧ ∃ x, w = xI x ∧ σ' = sI σ c f i x) ∨ (isRf c f = true ∧ ∃ r, w = xR r ∧ σ' = sR σ c f i r)) (k : AW G l M d post σ' kk nn (pc + 3) L st) : AW G l M d post σ kk nn pc L (w :: xR (some (c, i)) :: st) := by
  intro p e R s m args below meth co Qc ad H ls locs cells slots C hR hL hst hlo hc hs hQ
  have hi : i < cnt σ c := ok_hd (ok_tl hst) _ rfl
  obtain ⟨r, ref, hr, hk, hlink, hsame⟩ := hf
  obtain ⟨cell, q1, q2, q3, q4⟩ := hR.1 c i hi r hr
  have hKv := C.2.2.2.2.2.2.2.2.1.1
  obtain ⟨hS, hfc, kC, hkC, hkind⟩ := hKv.1 c _ hr
  obtain ⟨cf, kf, fi, fd, hfd, hsl⟩ := hS f hk
  have hts := C.2.2.2.2.2.1
  have hown := C.2.2.2.2.1
  have hap := va_apart (own := mO M) hts (cls_in hr) (tyT c) (cls_ty hr) (cls_nm hr) hKv hr
  have hsame' : s.fieldFound? ref (r.2.1 f).2.1 (r.2.1 f).2.2.1 = some (cf, kf, fi, fd) := by
    rcases hsame with e | e
    · rw [← e]; exact hfd
    · exact u_same (hts _ e) _ hfd
  have hst' := (u_facts hfc hkC (u_lays hts (cls_in hr) hk) hfd).1
  have hnw : narrow (tyT c f) (cv ad w) = cv ad w := by
    rcases hσ with ⟨-, x, rfl, -⟩ | ⟨-, q, rfl, -⟩
    · exact hn
    · cases q with
      | none => exact hn
      | some n => cases h : tyT c f <;> rfl
  have hft : fits (tyT c f) (cv ad w) = true := by
    rcases hσ with ⟨-, x, rfl, -⟩ | ⟨-, q, rfl, -⟩
    · exact hfit
    · cases q with
      | none => exact hfit
      | some n =>
        cases h : tyT c f <;> rw [h] at hfit <;> first | rfl | cases hfit
  have fin : ∀ H' : Heap, H'[ad c i]? = some (cell.setSlot fd.slot (cv ad w)) → H'.size = H.size → (∀ q, q ≠ ad c i → H'[q]? = H[q]?) → W p l e R s m args below meth co H' (locs ++ [⟨ad c i, fd.slot⟩]) cells slots (MQ below Qc args s R.cells R.slots (gA0 G)) (F0 m (pc + 3) ls (st.map (cv ad))) := by
    intro H' e1 e2 e3
    rw [hsl] at e1
    have hcnt : ∀ x, cnt σ' x = cnt σ x := by
      rcases hσ with ⟨-, x, -, rfl⟩ | ⟨-, q, -, rfl⟩ <;> exact fun _ => rfl
    have hE : Ext σ ad σ' ad := fun x y h => ⟨by rw [hcnt]; exact h, rfl⟩
    have hV : ∀ j, updV (fv ad σ c i) f (cv ad w) j = fv ad σ' c i j := by
      intro j
      unfold updV
      by_cases hj : j = f
      · subst hj
        rw [if_pos rfl]
        rcases hσ with ⟨h0, x, rfl, rfl⟩ | ⟨h0, q, rfl, rfl⟩
        · unfold fv; rw [h0, gI_sI]; simp [cv]
        · unfold fv; rw [h0, gR_sR]; simp [cv]
      · rw [if_neg hj]
        rcases hσ with ⟨h0, x, rfl, rfl⟩ | ⟨h0, q, rfl, rfl⟩
        · exact (fv_eq (σ := σ) (σ' := sI σ c f i x) (c := c) (i := i) (f := j) (by rw [gI_sI, if_neg (fun z => hj z.2.1)]) rfl).symm
        · exact (fv_eq (σ := σ) (σ' := sR σ c f i q) (c := c) (i := i) (f := j) rfl (by rw [gR_sR, if_neg (fun z => hj z.2.1)])).symm
    have hR' : Rep G ad σ' H' := by
      refine rep_set hR hi hnx e2 e3 hcnt (fun r' hr' => ?_) (fun h20 _ => absurd (cls_lt hr) (by omega)) ?_ ?_ ?_ ?_ ?_ ?_
      · cases hr.symm.trans hr'
        exact t_OB.to (V := updV (fv ad σ c i) f (cv ad w)) ⟨_, e1, q2, q3, t_set q4 hap hk (cv ad w)⟩ (fun j _ => hV j)
      · rcases hσ with ⟨h0, x, -, rfl⟩ | ⟨h0, q, -, rfl⟩
        · intro x' f' y' hne; rw [gI_sI, if_neg (fun z => hne ⟨z.1, z.2.2⟩)]
        · intro _ _ _ _; rfl
      · rcases hσ with ⟨h0, x, -, rfl⟩ | ⟨h0, q, -, rfl⟩
        · intro _ _ _ _; rfl
        · intro x' f' y' hne; rw [gR_sR, if_neg (fun z => hne ⟨z.1, z.2.2⟩)]
      · rcases hσ with ⟨h0, x, -, rfl⟩ | ⟨h0, q, -, rfl⟩ <;> exact fun _ _ _ => ⟨fun _ => rfl, fun _ => rfl, fun _ => rfl⟩
      · rcases hσ with ⟨h0, x, -, rfl⟩ | ⟨h0, q, -, rfl⟩ <;> exact fun _ _ => rfl
      · intro f'
        rcases hσ with ⟨h0, x, -, rfl⟩ | ⟨h0, q, rfl, rfl⟩
        · exact hR.2.2.2.2.2.1 c f' i hi
        · rw [gR_sR]
          split
          · exact ok_hd hst
          · exact hR.2.2.2.2.2.1 c f' i hi
      · intro j
        rcases hσ with ⟨h0, x, -, rfl⟩ | ⟨h0, q, -, rfl⟩ <;> exact hR.2.2.2.2.2.2.1 c i j hi
    refine k p e R s m args below meth co Qc ad H' ls _ cells slots C hR' (hL.ext hE) (fun v hv => ext_okv hE (ok_tl (ok_tl hst) v hv)) (fun q hq => ?_) hc hs (fun v ad' σ2 t hW hR2 hE2 => hQ v ad' σ2 t hW hR2 (hE.tr hE2))
    rcases List.mem_append.mp hq with h | h
    · exact hlo q h
    · rw [List.mem_singleton.mp h]
      exact (hR.2.2.2.1 c i hi).2.1 hnx
  cases hff : (r.2.1 f).2.2.2 with
  | false =>
    have hlay := hts _ (cls_in hr _ (u_in_lay hk))
    unfold u_lay at hlay
    rw [if_neg (by rw [hff]; decide)] at hlay
    have h6 := u_store hfc hkC hkind hlay hfd (cls_ty hr f hk) hnw hft
    exact W.putK C.1 C.2.1 (f := fd) ⟨hown, hts _ hlink, ⟨_, _, _, hsame'⟩, hst'⟩ (by rw [q2]; exact h6) q1 q3 (by rw [hsl]; exact k2_hasslot (q4 f hk)) rfl rfl hd fin
  | true =>
    rcases hfin r hr with h | ⟨h1, h2⟩
    · rw [hff] at h; cases h
    · have hlay := hts _ (cls_in hr _ (u_in_lay hk))
      unfold u_lay at hlay
      rw [if_pos hff] at hlay
      have hcf : m.cls = cf := by
        obtain ⟨_, _, c', _, _, _, -, -, hf', -, -, -, hown2, -⟩ := Cond.laysFinal_spec hlay
        have e1 : c' = cf := by have := hfd.symm.trans hf'; simp at this; exact this.1.symm
        rw [h2] at hown2
        rw [← e1]; exact Option.some.inj (hown.symm.trans hown2)
      have h6 := u_fits hfc hkC hkind (Or.inr hlay) hfd (cls_ty hr f hk) hnw hft
      exact W.putFinK C.1 C.2.1 hown (hts _ hlink) hsame' hst' hcf (C.2.2.2.2.2.2.2.1.trans h1) (by rw [q2]; exact h6) q1 q3 (by rw [hsl]; exact k2_hasslot (q4 f hk)) rfl rfl hd fin
theorem aw_putI {c f i idx : Nat} {x : Int32} (hf : FL M c f idx) (hc14 : c < 20) (hfin : ∀ r, vwCl[c]? = some r → (r.2.1 f).2.2.2 = false ∨ ((mY M).name = "<init>" ∧ (r.2.1 f).1 = mO M)) (hd : decode (mC M) pc = .ok (.putfield idx, 3)) (hr : isRf c f = false) (hn : narrow (tyT c f) (.int x) = .int x ∧ fits (tyT c f) (.int x) = true) (k : AW G l M d post (sI σ c f i x) kk nn (pc + 3) L st) : AW G l M d post σ kk nn pc L (xI x :: xR (some (c, i)) :: st) :=
  aw_put0 hf (by unfold fixd; omega) hfin hd (w := xI x) hn.1 hn.2 (Or.inl ⟨hr, x, rfl, rfl⟩) k
theorem aw_putR {c f i idx : Nat} {r : Option Nm} (hf : FL M c f idx) (hc14 : c < 20) (hfin : ∀ r, vwCl[c]? = some r → (r.2.1 f).2.2.2 = false ∨ ((mY M).name = "<init>" ∧ (r.2.1 f).1 = mO M)) (hd : decode (mC M) pc = .ok (.putfield idx, 3)) (hr : isRf c f = true) (hft : fits (tyT c f) .null = true ∧ fits (tyT c f) (.ref 0) = true) (k : AW G l M d post (sR σ c f i r) kk nn (pc + 3) L st) : AW G l M d post σ kk nn pc L (xR r :: xR (some (c, i)) :: st) := by
  refine aw_put0 hf (by unfold fixd; omega) hfin hd (w := xR r) ?_ ?_ (Or.inr ⟨hr, r, rfl, rfl⟩) k
  · cases r <;> cases tyT c f <;> rfl
  · cases r with
    | none => exact hft.1
    | some n => exact hft.2

/-- array cells by their sort -/
theorem acell0_i (ad : Nat → Nat → Nat) {c i t : Nat} (h : aty c = t) (h3 : t ≠ 3) (h4 : t ≠ 4) : acell0 G ad σ c i = arrV (G.2.1 t) (gN σ c i) (fun j => .int (gA σ c i j)) := by
  unfold acell0
  rw [h]
  split
  · exact absurd rfl h3
  · exact absurd rfl h4
  · rfl
theorem acell_i (ad : Nat → Nat → Nat) {c i t : Nat} (h : aty c = t) (h3 : t ≠ 3) (h4 : t ≠ 4) (h27 : c ≠ 27) : acell G ad σ c i = arrV (G.2.1 t) (gN σ c i) (fun j => .int (gA σ c i j)) := by
  unfold acell
  rw [fixz_o (fun q => by rcases q with q | q; exact absurd (by rw [q.1] at h; exact h.symm) h3; exact h27 q.1), acell0_i ad h h3 h4]
theorem acell_q (ad : Nat → Nat → Nat) {i : Nat} (h : i ≠ 0) : acell G ad σ 23 i = arrV (G.2.1 3) (gN σ 23 i) (fun j => va_rf ((gQ σ 23 i j).map (adn ad))) := by
  unfold acell
  rw [fixz_o (fun q => by rcases q with q | q; exact h q.2; exact absurd q.1 (by decide))]
  rfl
theorem acell_l (ad : Nat → Nat → Nat) {i : Nat} : acell G ad σ 24 i = arrV (G.2.1 4) (gN σ 24 i) (fun j => .long (gL σ 24 i j)) := by
  unfold acell
  rw [fixz_o (fun q => by rcases q with q | q <;> exact absurd q.1 (by decide))]
  rfl
theorem acell_size (ad : Nat → Nat → Nat) (c i : Nat) (h : ¬ (c = 23 ∧ i = 0)) : (acell G ad σ c i).slots.size = gN σ c i := by
  unfold acell
  rw [fixz_slots h]
  unfold acell0
  split <;> exact arrV_size _ _ _
theorem vp_in_lt {x : Int32} {n : Nat} (h : vp_in x n) : x.toNatClampNeg < n := Nat.not_le.mp fun q => h (Or.inr q)
theorem KK.ty {U : State} (h : KK G U) (t : Nat) {q : ClassId × FieldType} (hq : (tysG G)[t]? = some q) : ArrOfT U q.1 q.2 := (h.1.2 t q hq).1
/-- an array of ints, also the script -/
theorem acell_int {U : State} (K : KK G U) (ad : Nat → Nat → Nat) {c i : Nat} (h : aty c = 0) : U.isArrayOf (acell G ad σ c i) .int ∧ (acell G ad σ c i).vm ≠ .unknown ∧ (acell G ad σ c i).slots = (arrV (G.2.1 0) (gN σ c i) (fun j => .int (gA σ c i j))).slots := by
  have e0 := acell0_i (G := G) (σ := σ) ad (c := c) (i := i) (t := 0) h (by decide) (by decide)
  have z : U.isArrayOf (acell0 G ad σ c i) .int ∧ (acell0 G ad σ c i).vm ≠ .unknown := by rw [e0]; exact ⟨K.ty 0 rfl _ _, fun h => by cases h⟩
  refine ⟨?_, ?_, by unfold acell; rw [fixz_slots (fun q => by rw [q.1] at h; cases h), e0]⟩
  · unfold acell fixz
    split
    · rename_i q
      split
      · rename_i y hy
        have q27 : c = 27 ∧ i = 0 := by
          rcases q with q | q
          · rw [q.1] at h; cases h
          · exact q
        rw [q27.1, q27.2] at hy
        exact (K.2.2.2.2.2.2.2.2.2.2.1 y hy).1
      · exact z.1
    · exact z.1
  · unfold acell fixz
    split
    · rename_i q
      split
      · rename_i y hy
        have q27 : c = 27 ∧ i = 0 := by
          rcases q with q | q
          · rw [q.1] at h; cases h
          · exact q
        rw [q27.1, q27.2] at hy
        exact (K.2.2.2.2.2.2.2.2.2.2.1 y hy).2
      · exact z.2
    · exact z.2
theorem acell_obj {U : State} (K : KK G U) (ad : Nat → Nat → Nat) {i : Nat} : U.isArrayOf (acell G ad σ 23 i) (.object "java/lang/Object") := by
  unfold acell fixz
  split
  · rename_i q
    split
    · rename_i y hy
      have q0 : i = 0 := by rcases q with q | q; exact q.2; exact absurd q.1 (by decide)
      rw [q0] at hy
      exact (K.2.2.2.2.2.2.2.2.2.2.2 y hy).1
    · exact K.ty 3 rfl _ _
  · exact K.ty 3 rfl _ _
theorem acell_cls {U : State} (K : KK G U) (ad : Nat → Nat → Nat) {i : Nat} (h : U.vm.findClass "[Ljava/lang/Object;" = some (G.2.1 3)) : (acell G ad σ 23 i).vm.isStatics = false ∧ U.vm.findClass "[Ljava/lang/Object;" = some (acell G ad σ 23 i).cls := by
  unfold acell fixz
  split
  · rename_i q
    split
    · rename_i y hy
      have q0 : i = 0 := by rcases q with q | q; exact q.2; exact absurd q.1 (by decide)
      rw [q0] at hy
      exact ⟨(K.2.2.2.2.2.2.2.2.2.2.2 y hy).2.2.1, (K.2.2.2.2.2.2.2.2.2.2.2 y hy).2.2.2.1⟩
    · exact ⟨rfl, h⟩
  · exact ⟨rfl, h⟩
theorem acell_kn {U : State} (K : KK G U) (ad : Nat → Nat → Nat) {i : Nat} : (acell G ad σ 23 i).vm ≠ .unknown := by
  unfold acell fixz
  split
  · rename_i q
    split
    · rename_i y hy
      have q0 : i = 0 := by rcases q with q | q; exact q.2; exact absurd q.1 (by decide)
      rw [q0] at hy
      exact (K.2.2.2.2.2.2.2.2.2.2.2 y hy).2.1
    · exact fun h => by cases h
  · exact fun h => by cases h
/-- of the empty array: its length as an int -/
theorem acell_len {U : State} (K : KK G U) (ad : Nat → Nat → Nat) (c i : Nat) (h0 : gN σ 23 0 = 0) : (acell G ad σ c i).slots.size.toInt32 = nI (gN σ c i) := by
  by_cases h : c = 23 ∧ i = 0
  · obtain ⟨rfl, rfl⟩ := h
    rw [h0]
    unfold acell fixz
    rw [if_pos (Or.inl ⟨rfl, rfl⟩)]
    split
    · rename_i y hy
      exact (K.2.2.2.2.2.2.2.2.2.2.2 y hy).2.2.2.2
    · show (arrV (G.2.1 3) (gN σ 23 0) _).slots.size.toInt32 = nI 0
      rw [arrV_size, h0]
      rfl
  · rw [acell_size ad c i h]
    rfl
theorem acell_ge (ad : Nat → Nat → Nat) (i : Nat) (h0 : gN σ 23 0 = 0) : gN σ 23 i ≤ (acell G ad σ 23 i).slots.size := by
  by_cases h : i = 0
  · rw [h, h0]; exact Nat.zero_le _
  · rw [acell_size ad 23 i (fun q => h q.2)]; exact Nat.le_refl _
theorem acell_rd (ad : Nat → Nat → Nat) {i j : Nat} (h0 : gN σ 23 0 = 0) (h : j < gN σ 23 i) : (acell G ad σ 23 i).slots[j]? = some (va_rf ((gQ σ 23 i j).map (adn ad))) := by
  have hi : i ≠ 0 := fun e => by rw [e, h0] at h; exact absurd h (Nat.not_lt_zero _)
  rw [acell_q ad hi]
  exact arrV_read _ _ h
theorem aw_iald {c i : Nat} {j : Int32} (hd : decode (mC M) pc = .ok (.iaload, 1)) (hcc : 20 ≤ c ∧ c < 28 ∧ aty c = 0) (hin : vp_in j (gN σ c i)) (k : AW G l M d post σ kk nn (pc + 1) L (xI (gA σ c i j.toNatClampNeg) :: st)) : AW G l M d post σ kk nn pc L (xI j :: xR (some (c, i)) :: st) := by
  intro p e R s m args below meth co Qc ad H ls locs cells slots C hR hL hst hlo hc hs hQ
  have hi : i < cnt σ c := ok_hd (ok_tl hst) _ rfl
  have hcell := hR.2.1 c i hcc.1 hcc.2.1 hi
  obtain ⟨f1, f2, f3⟩ := acell_int (σ := σ) C.2.2.2.2.2.2.2.2.1 ad (c := c) (i := i) hcc.2.2
  exact W.iald (v := .int (gA σ c i j.toNatClampNeg)) C.1 C.2.1 hcell f1 f2 (by rw [acell_size ad c i (fun q => by have := hcc.2.2; rw [q.1] at this; cases this)]; exact hin) (by rw [f3]; exact arrV_read _ _ (vp_in_lt hin)) rfl rfl hd (k p e R s m args below meth co Qc ad H ls locs cells slots C hR hL (ok_c ok_t (ok_tl (ok_tl hst))) hlo hc hs hQ)
theorem aw_zald {i : Nat} {j : Int32} (hd : decode (mC M) pc = .ok (.baload, 1)) (hin : vp_in j (gN σ 21 i)) (k : AW G l M d post σ kk nn (pc + 1) L (xI (gA σ 21 i j.toNatClampNeg) :: st)) : AW G l M d post σ kk nn pc L (xI j :: xR (some (21, i)) :: st) := by
  intro p e R s m args below meth co Qc ad H ls locs cells slots C hR hL hst hlo hc hs hQ
  have hi : i < cnt σ 21 := ok_hd (ok_tl hst) _ rfl
  have hcell := hR.2.1 21 i (by decide) (by decide) hi
  rw [acell_i ad (c := 21) (i := i) (t := 1) rfl (by decide) (by decide) (by decide)] at hcell
  exact W.zald (v := .int (gA σ 21 i j.toNatClampNeg)) C.1 C.2.1 hcell (C.2.2.2.2.2.2.2.2.1.ty 1 rfl _ _) (fun h => by cases h) (by rw [arrV_size]; exact hin) (arrV_read _ _ (vp_in_lt hin)) rfl rfl hd (k p e R s m args below meth co Qc ad H ls locs cells slots C hR hL (ok_c ok_t (ok_tl (ok_tl hst))) hlo hc hs hQ)
theorem aw_bald {i : Nat} {j : Int32} (hd : decode (mC M) pc = .ok (.baload, 1)) (hin : vp_in j (gN σ 22 i)) (k : AW G l M d post σ kk nn (pc + 1) L (xI (gA σ 22 i j.toNatClampNeg) :: st)) : AW G l M d post σ kk nn pc L (xI j :: xR (some (22, i)) :: st) := by
  intro p e R s m args below meth co Qc ad H ls locs cells slots C hR hL hst hlo hc hs hQ
  have hi : i < cnt σ 22 := ok_hd (ok_tl hst) _ rfl
  have hcell := hR.2.1 22 i (by decide) (by decide) hi
  rw [acell_i ad (c := 22) (i := i) (t := 2) rfl (by decide) (by decide) (by decide)] at hcell
  exact W.bald (v := .int (gA σ 22 i j.toNatClampNeg)) C.1 C.2.1 hcell (C.2.2.2.2.2.2.2.2.1.ty 2 rfl _ _) (fun h => by cases h) (by rw [arrV_size]; exact hin) (arrV_read _ _ (vp_in_lt hin)) rfl rfl hd (k p e R s m args below meth co Qc ad H ls locs cells slots C hR hL (ok_c ok_t (ok_tl (ok_tl hst))) hlo hc hs hQ)
theorem aw_aald {i : Nat} {j : Int32} (hd : decode (mC M) pc = .ok (.aaload, 1)) (hin : vp_in j (gN σ 23 i)) (k : AW G l M d post σ kk nn (pc + 1) L (xR (gQ σ 23 i j.toNatClampNeg) :: st)) : AW G l M d post σ kk nn pc L (xI j :: xR (some (23, i)) :: st) := by
  intro p e R s m args below meth co Qc ad H ls locs cells slots C hR hL hst hlo hc hs hQ
  have hi : i < cnt σ 23 := ok_hd (ok_tl hst) _ rfl
  have hcell := hR.2.1 23 i (by decide) (by decide) hi
  have hi0 : i ≠ 0 := fun e => by
    rw [e, hR.2.2.2.2.2.2.2.1] at hin
    exact absurd (vp_in_lt hin) (Nat.not_lt_zero _)
  rw [acell_q ad hi0] at hcell
  exact W.aald (v := va_rf ((gQ σ 23 i j.toNatClampNeg).map (adn ad))) (ty := .object "java/lang/Object") C.1 C.2.1 hcell (C.2.2.2.2.2.2.2.2.1.ty 3 rfl _ _) rfl (fun h => by cases h) (by rw [arrV_size]; exact hin) (arrV_read _ _ (vp_in_lt hin)) rfl rfl hd (k p e R s m args below meth co Qc ad H ls locs cells slots C hR hL (ok_c (hR.2.2.2.2.2.2.1 23 i _ hi) (ok_tl (ok_tl hst))) hlo hc hs hQ)
theorem aw_lald {i : Nat} {j : Int32} (hd : decode (mC M) pc = .ok (.laload, 1)) (hin : vp_in j (gN σ 24 i)) (k : AW G l M d post σ kk nn (pc + 1) L (xL (gL σ 24 i j.toNatClampNeg) :: st)) : AW G l M d post σ kk nn pc L (xI j :: xR (some (24, i)) :: st) := by
  intro p e R s m args below meth co Qc ad H ls locs cells slots C hR hL hst hlo hc hs hQ
  have hi : i < cnt σ 24 := ok_hd (ok_tl hst) _ rfl
  have hcell := hR.2.1 24 i (by decide) (by decide) hi
  rw [acell_l ad] at hcell
  exact W.lald (v := .long (gL σ 24 i j.toNatClampNeg)) C.1 C.2.1 hcell (C.2.2.2.2.2.2.2.2.1.ty 4 rfl _ _) (fun h => by cases h) (by rw [arrV_size]; exact hin) (arrV_read _ _ (vp_in_lt hin)) rfl rfl hd (k p e R s m args below meth co Qc ad H ls locs cells slots C hR hL (ok_c ok_tL (ok_tl (ok_tl hst))) hlo hc hs hQ)
theorem aty_3 {c : Nat} (h : aty c = 3) : c = 23 := by
  unfold aty at h
  split at h <;> first | rfl | cases h
theorem aty_4 {c : Nat} (h : aty c = 4) : c = 24 := by
  unfold aty at h
  split at h <;> first | rfl | cases h
theorem aty_r (c : Nat) : aty c = 0 ∨ aty c = 1 ∨ aty c = 2 ∨ aty c = 3 ∨ aty c = 4 := by
  unfold aty
  split <;> decide
theorem aw_alen {c i : Nat} (hd : decode (mC M) pc = .ok (.arraylength, 1)) (hcc : 20 ≤ c ∧ c < 28) (k : AW G l M d post σ kk nn (pc + 1) L (xI (nI (gN σ c i)) :: st)) : AW G l M d post σ kk nn pc L (xR (some (c, i)) :: st) := by
  intro p e R s m args below meth co Qc ad H ls locs cells slots C hR hL hst hlo hc hs hQ
  have hi : i < cnt σ c := ok_hd hst _ rfl
  have hcell := hR.2.1 c i hcc.1 hcc.2 hi
  have K := C.2.2.2.2.2.2.2.2.1
  have fin : ∀ (ty : FieldType), s.isArrayOf (acell G ad σ c i) ty → W p l e R s m args below meth co H locs cells slots (MQ below Qc args s R.cells R.slots (gA0 G)) (F0 m pc ls ((xR (some (c, i)) :: st).map (cv ad))) := fun ty harr => W.alen (n := nI (gN σ c i)) C.1 C.2.1 hcell harr (acell_len K ad c i hR.2.2.2.2.2.2.2.1) rfl rfl hd (k p e R s m args below meth co Qc ad H ls locs cells slots C hR hL (ok_c ok_t (ok_tl hst)) hlo hc hs hQ)
  rcases aty_r c with h | h | h | h | h
  · exact fin _ (acell_int K ad h).1
  · exact fin _ (by rw [acell_i ad h (by decide) (by decide) (fun e => by rw [e] at h; cases h)]; exact K.ty 1 rfl _ _)
  · exact fin _ (by rw [acell_i ad h (by decide) (by decide) (fun e => by rw [e] at h; cases h)]; exact K.ty 2 rfl _ _)
  · have := aty_3 h
    subst this
    exact fin _ (acell_obj K ad)
  · have := aty_4 h
    subst this
    exact fin _ (by rw [acell_l ad]; exact K.ty 4 rfl _ _)
/-- an array's place was written -/
theorem rep_ast {ad : Nat → Nat → Nat} {H H' : Heap} {σ' : AS} {c i : Nat} (hR : Rep G ad σ H) (hi : i < cnt σ c) (hc : 20 ≤ c ∧ c < 28) (hnf : ¬ fixd c i) (z : H'.size = H.size) (oq : ∀ q, q ≠ ad c i → H'[q]? = H[q]?) (e : H'[ad c i]? = some (acell G ad σ' c i)) (h0 : σ'.1 = σ.1 ∧ σ'.2.1 = σ.2.1 ∧ σ'.2.2.1 = σ.2.2.1 ∧ σ'.2.2.2.1 = σ.2.2.2.1)
    (oA : ∀ x y, ¬ (x = c ∧ y = i) → (∀ j, gA σ' x y j = gA σ x y j) ∧ (∀ j, gQ σ' x y j = gQ σ x y j) ∧ (∀ j, gL σ' x y j = gL σ x y j)) (kQ : ∀ j, okn σ (gQ σ' c i j)) : Rep G ad σ' H' := by
  obtain ⟨g1, g2, g3, g4⟩ := h0
  have n14 : ∀ r, vwCl[c]? = some r → False := fun r h => by have := cls_lt h; omega
  refine rep_set hR hi hnf z oq (fun x => congrFun g1 x) (fun r hr => (n14 r hr).elim) (fun _ _ => e) (fun x f y _ => congrFun (congrFun (congrFun g2 x) f) y) (fun x f y _ => congrFun (congrFun (congrFun g3 x) f) y) oA (fun x y => congrFun (congrFun g4 x) y) (fun f => ?_) kQ
  have : gR σ' c f i = gR σ c f i := congrFun (congrFun (congrFun g3 c) f) i
  rw [this]
  exact hR.2.2.2.2.2.1 c f i hi
theorem aw_iast {c i : Nat} {j x : Int32} (hd : decode (mC M) pc = .ok (.iastore, 1)) (hcc : 20 ≤ c ∧ c < 27 ∧ aty c = 0) (hin : vp_in j (gN σ c i)) (k : AW G l M d post (sA σ c i j.toNatClampNeg x) kk nn (pc + 1) L st) : AW G l M d post σ kk nn pc L (xI x :: xI j :: xR (some (c, i)) :: st) := by
  intro p e R s m args below meth co Qc ad H ls locs cells slots C hR hL hst hlo hc hs hQ
  have hi : i < cnt σ c := ok_hd (ok_tl (ok_tl hst)) _ rfl
  have hcell := hR.2.1 c i hcc.1 (by omega) hi
  have e0 := acell_i (G := G) (σ := σ) ad (c := c) (i := i) (t := 0) hcc.2.2 (by decide) (by decide) (by omega)
  rw [e0] at hcell
  refine W.iast C.1 C.2.1 hcell (C.2.2.2.2.2.2.2.2.1.ty 0 rfl _ _) (fun h => by cases h) (by rw [arrV_size]; exact hin) rfl rfl hd (fun H' e1 z oq => ?_)
  have hE : Ext σ ad (sA σ c i j.toNatClampNeg x) ad := fun _ _ h => ⟨h, rfl⟩
  have hnf : ¬ fixd c i := (by have h23 : c ≠ 23 := (fun h => by rw [h] at hcc; exact absurd hcc.2.2 (by decide)); unfold fixd; omega)
  refine k p e R s m args below meth co Qc ad H' ls _ cells slots C (rep_ast hR hi ⟨hcc.1, by omega⟩ hnf z oq ?_ ⟨rfl, rfl, rfl, rfl⟩ ?_ ?_) (hL.ext hE) (fun v hv => ext_okv hE (ok_tl (ok_tl (ok_tl hst)) v hv)) (fun q hq => ?_) hc hs (fun v ad' σ2 t hW hR2 hE2 => hQ v ad' σ2 t hW hR2 (hE.tr hE2))
  · rw [e1, acell_i ad (c := c) (i := i) (t := 0) hcc.2.2 (by decide) (by decide) (by omega)]
    have ef : updV (fun j => Value.int (gA σ c i j)) j.toNatClampNeg (.int x) = (fun j2 => Value.int (gA (sA σ c i j.toNatClampNeg x) c i j2)) := by
      funext q
      rw [gA_sA]
      unfold updV
      by_cases hq : q = j.toNatClampNeg
      · rw [if_pos hq, if_pos ⟨rfl, rfl, hq⟩]
      · rw [if_neg hq, if_neg (fun h => hq h.2.2)]
    exact congrArg some ((arrV_store _ _ _ _ (.int x)).trans (congrArg (fun f => arrV _ _ f) ef))
  · intro x y hne
    exact ⟨fun j2 => by rw [gA_sA, if_neg (fun h => hne ⟨h.1, h.2.1⟩)], fun _ => rfl, fun _ => rfl⟩
  · exact fun j2 => hR.2.2.2.2.2.2.1 c i j2 hi
  · rcases List.mem_append.mp hq with h | h
    · exact hlo q h
    · rw [List.mem_singleton.mp h]
      exact (hR.2.2.2.1 c i hi).2.1 hnf
theorem aw_zast {i : Nat} {j x : Int32} (hd : decode (mC M) pc = .ok (.bastore, 1)) (hin : vp_in j (gN σ 21 i)) (k : AW G l M d post (sA σ 21 i j.toNatClampNeg (vp_nar .boolean x)) kk nn (pc + 1) L st) : AW G l M d post σ kk nn pc L (xI x :: xI j :: xR (some (21, i)) :: st) := by
  intro p e R s m args below meth co Qc ad H ls locs cells slots C hR hL hst hlo hc hs hQ
  have hi : i < cnt σ 21 := ok_hd (ok_tl (ok_tl hst)) _ rfl
  have hcell := hR.2.1 21 i (by decide) (by decide) hi
  have e0 := acell_i (G := G) (σ := σ) ad (c := 21) (i := i) (t := 1) rfl (by decide) (by decide) (by decide)
  rw [e0] at hcell
  refine W.zast C.1 C.2.1 hcell (C.2.2.2.2.2.2.2.2.1.ty 1 rfl _ _) (fun h => by cases h) (by rw [arrV_size]; exact hin) rfl rfl hd (fun H' e1 z oq => ?_)
  have hE : Ext σ ad (sA σ 21 i j.toNatClampNeg (vp_nar .boolean x)) ad := fun _ _ h => ⟨h, rfl⟩
  have hnf : ¬ fixd 21 i := (by unfold fixd; omega)
  refine k p e R s m args below meth co Qc ad H' ls _ cells slots C (rep_ast hR hi (by decide) hnf z oq ?_ ⟨rfl, rfl, rfl, rfl⟩ ?_ ?_) (hL.ext hE) (fun v hv => ext_okv hE (ok_tl (ok_tl (ok_tl hst)) v hv)) (fun q hq => ?_) hc hs (fun v ad' σ2 t hW hR2 hE2 => hQ v ad' σ2 t hW hR2 (hE.tr hE2))
  · rw [e1, acell_i ad (c := 21) (i := i) (t := 1) rfl (by decide) (by decide) (by decide)]
    have ef : updV (fun j => Value.int (gA σ 21 i j)) j.toNatClampNeg (.int (vp_nar .boolean x)) = (fun j2 => Value.int (gA (sA σ 21 i j.toNatClampNeg (vp_nar .boolean x)) 21 i j2)) := by
      funext q
      rw [gA_sA]
      unfold updV
      by_cases hq : q = j.toNatClampNeg
      · rw [if_pos hq, if_pos ⟨rfl, rfl, hq⟩]
      · rw [if_neg hq, if_neg (fun h => hq h.2.2)]
    exact congrArg some ((arrV_store _ _ _ _ (.int (vp_nar .boolean x))).trans (congrArg (fun f => arrV _ _ f) ef))
  · intro x y hne
    exact ⟨fun j2 => by rw [gA_sA, if_neg (fun h => hne ⟨h.1, h.2.1⟩)], fun _ => rfl, fun _ => rfl⟩
  · exact fun j2 => hR.2.2.2.2.2.2.1 21 i j2 hi
  · rcases List.mem_append.mp hq with h | h
    · exact hlo q h
    · rw [List.mem_singleton.mp h]
      exact (hR.2.2.2.1 21 i hi).2.1 hnf
theorem aw_bast {i : Nat} {j x : Int32} (hd : decode (mC M) pc = .ok (.bastore, 1)) (hin : vp_in j (gN σ 22 i)) (k : AW G l M d post (sA σ 22 i j.toNatClampNeg (vp_nar .byte x)) kk nn (pc + 1) L st) : AW G l M d post σ kk nn pc L (xI x :: xI j :: xR (some (22, i)) :: st) := by
  intro p e R s m args below meth co Qc ad H ls locs cells slots C hR hL hst hlo hc hs hQ
  have hi : i < cnt σ 22 := ok_hd (ok_tl (ok_tl hst)) _ rfl
  have hcell := hR.2.1 22 i (by decide) (by decide) hi
  have e0 := acell_i (G := G) (σ := σ) ad (c := 22) (i := i) (t := 2) rfl (by decide) (by decide) (by decide)
  rw [e0] at hcell
  refine W.bast C.1 C.2.1 hcell (C.2.2.2.2.2.2.2.2.1.ty 2 rfl _ _) (fun h => by cases h) (by rw [arrV_size]; exact hin) rfl rfl hd (fun H' e1 z oq => ?_)
  have hE : Ext σ ad (sA σ 22 i j.toNatClampNeg (vp_nar .byte x)) ad := fun _ _ h => ⟨h, rfl⟩
  have hnf : ¬ fixd 22 i := (by unfold fixd; omega)
  refine k p e R s m args below meth co Qc ad H' ls _ cells slots C (rep_ast hR hi (by decide) hnf z oq ?_ ⟨rfl, rfl, rfl, rfl⟩ ?_ ?_) (hL.ext hE) (fun v hv => ext_okv hE (ok_tl (ok_tl (ok_tl hst)) v hv)) (fun q hq => ?_) hc hs (fun v ad' σ2 t hW hR2 hE2 => hQ v ad' σ2 t hW hR2 (hE.tr hE2))
  · rw [e1, acell_i ad (c := 22) (i := i) (t := 2) rfl (by decide) (by decide) (by decide)]
    have ef : updV (fun j => Value.int (gA σ 22 i j)) j.toNatClampNeg (.int (vp_nar .byte x)) = (fun j2 => Value.int (gA (sA σ 22 i j.toNatClampNeg (vp_nar .byte x)) 22 i j2)) := by
      funext q
      rw [gA_sA]
      unfold updV
      by_cases hq : q = j.toNatClampNeg
      · rw [if_pos hq, if_pos ⟨rfl, rfl, hq⟩]
      · rw [if_neg hq, if_neg (fun h => hq h.2.2)]
    exact congrArg some ((arrV_store _ _ _ _ (.int (vp_nar .byte x))).trans (congrArg (fun f => arrV _ _ f) ef))
  · intro x y hne
    exact ⟨fun j2 => by rw [gA_sA, if_neg (fun h => hne ⟨h.1, h.2.1⟩)], fun _ => rfl, fun _ => rfl⟩
  · exact fun j2 => hR.2.2.2.2.2.2.1 22 i j2 hi
  · rcases List.mem_append.mp hq with h | h
    · exact hlo q h
    · rw [List.mem_singleton.mp h]
      exact (hR.2.2.2.1 22 i hi).2.1 hnf
theorem aw_last {i : Nat} {j : Int32} {x : Int64} (hd : decode (mC M) pc = .ok (.lastore, 1)) (hin : vp_in j (gN σ 24 i)) (k : AW G l M d post (sL σ 24 i j.toNatClampNeg x) kk nn (pc + 1) L st) : AW G l M d post σ kk nn pc L (xL x :: xI j :: xR (some (24, i)) :: st) := by
  intro p e R s m args below meth co Qc ad H ls locs cells slots C hR hL hst hlo hc hs hQ
  have hi : i < cnt σ 24 := ok_hd (ok_tl (ok_tl hst)) _ rfl
  have hcell := hR.2.1 24 i (by decide) (by decide) hi
  rw [acell_l ad] at hcell
  refine W.last C.1 C.2.1 hcell (C.2.2.2.2.2.2.2.2.1.ty 4 rfl _ _) (fun h => by cases h) (by rw [arrV_size]; exact hin) rfl rfl hd (fun H' e1 z oq => ?_)
  have hE : Ext σ ad (sL σ 24 i j.toNatClampNeg x) ad := fun _ _ h => ⟨h, rfl⟩
  have hnf : ¬ fixd 24 i := by unfold fixd; omega
  refine k p e R s m args below meth co Qc ad H' ls _ cells slots C (rep_ast hR hi (by decide) hnf z oq ?_ ⟨rfl, rfl, rfl, rfl⟩ ?_ ?_) (hL.ext hE) (fun v hv => ext_okv hE (ok_tl (ok_tl (ok_tl hst)) v hv)) (fun q hq => ?_) hc hs (fun v ad' σ2 t hW hR2 hE2 => hQ v ad' σ2 t hW hR2 (hE.tr hE2))
  · rw [e1, acell_l ad]
    have ef : updV (fun j => Value.long (gL σ 24 i j)) j.toNatClampNeg (.long x) = (fun j2 => Value.long (gL (sL σ 24 i j.toNatClampNeg x) 24 i j2)) := by
      funext q
      rw [gL_sL]
      unfold updV
      by_cases hq : q = j.toNatClampNeg
      · rw [if_pos hq, if_pos ⟨rfl, rfl, hq⟩]
      · rw [if_neg hq, if_neg (fun h => hq h.2.2)]
    exact congrArg some ((arrV_store _ _ _ _ (.long x)).trans (congrArg (fun f => arrV _ _ f) ef))
  · intro x y hne
    exact ⟨fun _ => rfl, fun _ => rfl, fun j2 => by rw [gL_sL, if_neg (fun h => hne ⟨h.1, h.2.1⟩)]⟩
  · exact fun j2 => hR.2.2.2.2.2.2.1 24 i j2 hi
  · rcases List.mem_append.mp hq with h | h
    · exact hlo q h
    · rw [List.mem_singleton.mp h]
      exact (hR.2.2.2.1 24 i hi).2.1 hnf
/-- objects that may lie in a row of Objects -/
def inObj (r : Option Nm) : Prop := ∀ n, r = some n → n.1 < 14
theorem cast_in : ∀ c, c < 14 → (vwCl.getD c ("", TX0, 0)).1 ∈ castW := by decide +kernel
theorem any_of {ad : Nat → Nat → Nat} {H : Heap} {s : State} (hR : Rep G ad σ H) (hK : KK G s) {n : Nm} (h14 : n.1 < 14) (hok : n.2 < cnt σ n.1) : va_Any "java/lang/Object" s H (adn ad n) := by
  obtain ⟨c, i⟩ := n
  obtain ⟨r, hr⟩ : ∃ r, vwCl[c]? = some r := ⟨_, List.getElem?_eq_getElem (show c < vwCl.length from h14)⟩
  obtain ⟨cell, q1, q2, q3, -⟩ := hR.1 c i hok r hr
  obtain ⟨-, hfc, kC, hkC, hkind⟩ := hK.1.1 c _ hr
  have hcast : va_Nw (.castable r.1 "java/lang/Object") s := hK.2.2.1 r.1 (by
    have h := cast_in c h14
    rw [cls_getD hr] at h
    exact h)
  obtain ⟨c0, t0, f1, f2, f3⟩ := Cond.castable_spec (va_Nw.use (A := #[]) rfl hcast)
  refine ⟨cell, q1, by rw [q3]; rfl, ⟨kC, by rw [q2]; exact hkC⟩, fun comp hcomp => ?_⟩
  cases f2.symm.trans hcomp
  cases hfc.symm.trans f1
  rw [q2]
  exact f3
theorem aw_aast {i : Nat} {j : Int32} {r : Option Nm} (hd : decode (mC M) pc = .ok (.aastore, 1)) (hin : vp_in j (gN σ 23 i)) (hob : inObj r) (k : AW G l M d post (sQ σ 23 i j.toNatClampNeg r) kk nn (pc + 1) L st) : AW G l M d post σ kk nn pc L (xR r :: xI j :: xR (some (23, i)) :: st) := by
  intro p e R s m args below meth co Qc ad H ls locs cells slots C hR hL hst hlo hc hs hQ
  have hi : i < cnt σ 23 := ok_hd (ok_tl (ok_tl hst)) _ rfl
  have hcell := hR.2.1 23 i (by decide) (by decide) hi
  have hi0 : i ≠ 0 := fun h => by
    have hlt := vp_in_lt hin
    rw [h, hR.2.2.2.2.2.2.2.1] at hlt; omega
  rw [acell_q ad hi0] at hcell
  have K := C.2.2.2.2.2.2.2.2.1
  have hE : Ext σ ad (sQ σ 23 i j.toNatClampNeg r) ad := fun _ _ h => ⟨h, rfl⟩
  have hlt := vp_in_lt hin
  have hi0 : i ≠ 0 := fun h => by rw [h, hR.2.2.2.2.2.2.2.1] at hlt; omega
  have hnf : ¬ fixd 23 i := by unfold fixd; omega
  have fin : ∀ H' : Heap, H'[ad 23 i]? = some ((arrV (G.2.1 3) (gN σ 23 i) (fun j => va_rf ((gQ σ 23 i j).map (adn ad)))).setSlot j.toNatClampNeg (cv ad (xR r))) → H'.size = H.size → (∀ q, q ≠ ad 23 i → H'[q]? = H[q]?) → W p l e R s m args below meth co H' (locs ++ [⟨ad 23 i, j.toNatClampNeg⟩]) cells slots (MQ below Qc args s R.cells R.slots (gA0 G)) (F0 m (pc + 1) ls (st.map (cv ad))) := by
    intro H' e1 z oq
    refine k p e R s m args below meth co Qc ad H' ls _ cells slots C (rep_ast hR hi (by decide) hnf z oq ?_ ⟨rfl, rfl, rfl, rfl⟩ ?_ ?_) (hL.ext hE) (fun v hv => ext_okv hE (ok_tl (ok_tl (ok_tl hst)) v hv)) (fun q hq => ?_) hc hs (fun v ad' σ2 t hW hR2 hE2 => hQ v ad' σ2 t hW hR2 (hE.tr hE2))
    · rw [e1, acell_q ad hi0, arrV_store]
      have ef : updV (fun j => va_rf ((gQ σ 23 i j).map (adn ad))) j.toNatClampNeg (cv ad (xR r)) = (fun j2 => va_rf ((gQ (sQ σ 23 i j.toNatClampNeg r) 23 i j2).map (adn ad))) := by
        funext q
        rw [gQ_sQ]
        unfold updV
        by_cases hq : q = j.toNatClampNeg
        · rw [if_pos hq, if_pos ⟨rfl, rfl, hq⟩]; rfl
        · rw [if_neg hq, if_neg (fun h => hq h.2.2)]
      exact congrArg (fun f => some (arrV _ _ f)) ef
    · intro x y hne
      exact ⟨fun _ => rfl, fun j2 => by rw [gQ_sQ, if_neg (fun h => hne ⟨h.1, h.2.1⟩)], fun _ => rfl⟩
    · intro j2
      rw [gQ_sQ]
      split
      · exact ok_hd hst
      · exact hR.2.2.2.2.2.2.1 23 i j2 hi
    · rcases List.mem_append.mp hq with h | h
      · exact hlo q h
      · rw [List.mem_singleton.mp h]
        exact (hR.2.2.2.1 23 i hi).2.1 hnf
  cases r with
  | none => exact va_WaastN (C := "java/lang/Object") C.1 C.2.1 hcell (K.ty 3 rfl _ _) (fun h => by cases h) (by rw [arrV_size]; exact hin) rfl rfl hd fin
  | some n =>
    obtain ⟨cellV, g1, g3, ⟨kC, hkC⟩, hasg⟩ := any_of hR K (hob n rfl) (ok_hd hst n rfl)
    obtain ⟨kA, comp, k1, k2, k3, -⟩ := (K.1.2 3 _ rfl).2
    obtain ⟨kE, hkE, -⟩ := Vm.findClass_spec k3
    exact W.aast C.1 C.2.1 hcell (fun q h => by cases h) (fun h => by cases h) k1 k2 rfl hkE ⟨fun q => hin (Or.inl q), by show _ < (arrV _ _ _).slots.size; rw [arrV_size]; exact hlt⟩ g1 (fun q h => by rw [h] at g3; cases g3) hkC (hasg _ k3) rfl rfl hd fin

end ROWS2

