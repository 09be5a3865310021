/-! Reading all asks. -/
section ASKS
variable {G : GG} {l : Launch} {d : Nat} {post : Option AVal → AS → Prop} {σ : AS} {kk nn : Nat}
def ra (n : Nat) (b : Nat → Int32) (i : Nat) : Out := if (hd n b i).1 = 0 then (if (rdE n b (hd n b i).2).1.1 = 0 then (if isG n b (rdE n b (hd n b i).2).1.2 59 = true then (0, tE n b (rdE n b (hd n b i).2).1.2) else (1, tS n b (rdE n b (hd n b i).2).1.2)) else (rdE n b (hd n b i).2).1) else hd n b i
/-- all asks, k of them read, f more may come: how many, and the fault -/
def rall (n : Nat) (b : Nat → Int32) : Nat → Nat → Nat → Nat × Out
  | 0, k, i => if tK n b i = 0 then (k, (0, i)) else (k, if isW n b i 0 = true then (2, tS n b i) else (1, tS n b i))
  | f + 1, k, i => if tK n b i = 0 then (k, (0, i)) else if (ra n b i).1 = 0 then rall n b f (k + 1) (ra n b i).2 else (k, ra n b i)
/-- where ask k starts -/
def ip (n : Nat) (b : Nat → Int32) : Nat → Nat
  | 0 => 0
  | k + 1 => (ra n b (ip n b k)).2
/-- ask object x is the k-th ask, told from token i on -/
def AskR (σ : AS) (x n : Nat) (b : Nat → Int32) (i k : Nat) : Prop := gI σ 2 0 x = nI k ∧ gI σ 2 1 x = (h0 n b i).2 ∧ gI σ 2 2 x = (h1 n b i).2 ∧ gI σ 2 3 x = (h2 n b i).2 ∧ gI σ 2 4 x = (h3 n b i).2 ∧ ∃ a, gR σ 2 5 x = some (25, a) ∧ a < cnt σ 25 ∧ gN σ 25 a = (rdE n b (hd n b i).2).2.length ∧ (rdE n b (hd n b i).2).2.length ≤ 1000 ∧ ∀ j, j < (rdE n b (hd n b i).2).2.length → gA σ 25 a j = (rdE n b (hd n b i).2).2.getD j 0
/-- objects of kind c below a are as they were -/
def oldO (a : Nat) (σ σ' : AS) (c : Nat) : Prop := cnt σ c ≤ cnt σ' c ∧ ∀ i, i < a → (∀ f, gI σ' c f i = gI σ c f i) ∧ ∀ f, gR σ' c f i = gR σ c f i
theorem eqK.oldO {σ' : AS} {a c : Nat} (h : eqK σ σ' c) : oldO a σ σ' c := ⟨Nat.le_of_eq h.1.symm, fun i _ => ⟨fun f => h.2.1 f i, fun f => h.2.2.1 f i⟩⟩
theorem oldO.tr {a c : Nat} {σ1 σ2 : AS} (h : oldO a σ σ1 c) (k : oldO a σ1 σ2 c) : oldO a σ σ2 c := ⟨Nat.le_trans h.1 k.1, fun i hi => ⟨fun f => ((k.2 i hi).1 f).trans ((h.2 i hi).1 f), fun f => ((k.2 i hi).2 f).trans ((h.2 i hi).2 f)⟩⟩
theorem oldO.mono {a a' c : Nat} {σ1 : AS} (h : oldO a σ σ1 c) (k : a' ≤ a) : oldO a' σ σ1 c := ⟨h.1, fun i hi => h.2 i (by omega)⟩
theorem oldO_new {a c n : Nat} (ha : a ≤ cnt σ c) : oldO a σ (nA σ c n) c := ⟨by rw [cnt_nA, if_pos rfl]; omega, fun i hi => ⟨fun g => by rw [gI_nA, if_neg (fun e => by have := e.2; omega)], fun g => by rw [gR_nA, if_neg (fun e => by have := e.2; omega)]⟩⟩
theorem oldO_sI {a c f x : Nat} {v : Int32} (ha : a ≤ x) : oldO a σ (sI σ c f x v) c := ⟨Nat.le_refl _, fun i hi => ⟨fun g => by rw [gI_sI, if_neg (fun e => by have := e.2.2; omega)], fun g => rfl⟩⟩
theorem oldO_sR {a c f x : Nat} {v : Option Nm} (ha : a ≤ x) : oldO a σ (sR σ c f x v) c := ⟨Nat.le_refl _, fun i hi => ⟨fun g => rfl, fun g => by rw [gR_sR, if_neg (fun e => by have := e.2.2; omega)]⟩⟩
/-- int arrays of kind c below a are as they were -/
def oldB (a : Nat) (σ σ' : AS) (c : Nat) : Prop := cnt σ c ≤ cnt σ' c ∧ ∀ i, i < a → gN σ' c i = gN σ c i ∧ ∀ j, gA σ' c i j = gA σ c i j
theorem eqK.oldB {σ' : AS} {a c : Nat} (h : eqK σ σ' c) : oldB a σ σ' c := ⟨Nat.le_of_eq h.1.symm, fun i _ => ⟨h.2.2.2.1 i, fun j => h.2.2.2.2.1 i j⟩⟩
theorem oldB.tr {a c : Nat} {σ1 σ2 : AS} (h : oldB a σ σ1 c) (k : oldB a σ1 σ2 c) : oldB a σ σ2 c := ⟨Nat.le_trans h.1 k.1, fun i hi => ⟨(k.2 i hi).1.trans (h.2 i hi).1, fun j => ((k.2 i hi).2 j).trans ((h.2 i hi).2 j)⟩⟩
theorem oldB.mono {a a' c : Nat} {σ1 : AS} (h : oldB a σ σ1 c) (k : a' ≤ a) : oldB a' σ σ1 c := ⟨h.1, fun i hi => h.2 i (by omega)⟩
theorem oldB_new {a c n : Nat} (ha : a ≤ cnt σ c) : oldB a σ (nA σ c n) c := ⟨by rw [cnt_nA, if_pos rfl]; omega, fun i hi => ⟨by rw [gN_nA, if_neg (fun e => by have := e.2; omega)], fun g => by rw [gA_nA, if_neg (fun e => by have := e.2; omega)]⟩⟩
/-- lists below q0 are as they were -/
def LF (q0 : Nat) (σ σ' : AS) : Prop := cnt σ 0 ≤ cnt σ' 0 ∧ (LW σ → LW σ') ∧ (∀ q n e, q < q0 → AL σ q n e → AL σ' q n e) ∧ ∀ q, q < q0 → lcap σ' q = lcap σ q
theorem LF.tr {q0 : Nat} {σ1 σ2 : AS} (h : LF q0 σ σ1) (k : LF q0 σ1 σ2) : LF q0 σ σ2 := ⟨Nat.le_trans h.1 k.1, fun z => k.2.1 (h.2.1 z), fun q n e hq z => k.2.2.1 q n e hq (h.2.2.1 q n e hq z), fun q hq => (k.2.2.2 q hq).trans (h.2.2.2 q hq)⟩
theorem LF.mono {q0 q1 : Nat} {σ1 : AS} (h : LF q0 σ σ1) (k : q1 ≤ q0) : LF q1 σ σ1 := ⟨h.1, h.2.1, fun q n e hq => h.2.2.1 q n e (by omega), fun q hq => h.2.2.2 q (by omega)⟩
theorem lcap_eq {σ' : AS} {q : Nat} (h : sameK (fun c => c = 0 ∨ c = 23) σ σ') : lcap σ' q = lcap σ q := by
  unfold lcap
  rw [(h 0 (Or.inl rfl)).2.2.1]
  cases gR σ 0 1 q with
  | none => rfl
  | some n => exact (h 23 (Or.inr rfl)).2.2.2.1 n.2
theorem LF.same {q0 : Nat} {σ' : AS} (h : sameK (fun c => c = 0 ∨ c = 23) σ σ') : LF q0 σ σ' := ⟨Nat.le_of_eq (h 0 (Or.inl rfl)).1.symm, fun z => z.same h, fun _ _ _ _ z => z.same h, fun _ _ => lcap_eq h⟩
/-- what reading asks leaves alone -/
def RdF (a0 c0 q0 : Nat) (σ σ' : AS) : Prop := sameK (fun c => c ≠ 0 ∧ c ≠ 2 ∧ c ≠ 8 ∧ c ≠ 10 ∧ c ≠ 20 ∧ c ≠ 23 ∧ c ≠ 25) σ σ' ∧ oldO a0 σ σ' 2 ∧ oldB c0 σ σ' 25 ∧ (∀ c, c = 8 ∨ c = 10 ∨ c = 20 → cnt σ' c = cnt σ c ∧ (∀ f i, gR σ' c f i = gR σ c f i) ∧ ∀ i, gN σ' c i = gN σ c i) ∧ (∀ r, r ≠ 1 → gI σ' 8 1 r = gI σ 8 1 r) ∧ (∀ a j, a ≠ 1 → gA σ' 20 a j = gA σ 20 a j) ∧ LF q0 σ σ'
theorem RdF.tr {a0 c0 q0 : Nat} {σ1 σ2 : AS} (h : RdF a0 c0 q0 σ σ1) (k : RdF a0 c0 q0 σ1 σ2) : RdF a0 c0 q0 σ σ2 := ⟨h.1.tr k.1, h.2.1.tr k.2.1, h.2.2.1.tr k.2.2.1, fun c hc => ⟨(k.2.2.2.1 c hc).1.trans (h.2.2.2.1 c hc).1, fun f i => ((k.2.2.2.1 c hc).2.1 f i).trans ((h.2.2.2.1 c hc).2.1 f i), fun i => ((k.2.2.2.1 c hc).2.2 i).trans ((h.2.2.2.1 c hc).2.2 i)⟩, fun r hr => (k.2.2.2.2.1 r hr).trans (h.2.2.2.2.1 r hr), fun a j ha => (k.2.2.2.2.2.1 a j ha).trans (h.2.2.2.2.2.1 a j ha), h.2.2.2.2.2.2.tr k.2.2.2.2.2.2⟩
theorem RdF.mono {a0 c0 q0 a1 c1 q1 : Nat} {σ1 : AS} (h : RdF a0 c0 q0 σ σ1) (ka : a1 ≤ a0) (kc : c1 ≤ c0) (kq : q1 ≤ q0) : RdF a1 c1 q1 σ σ1 := ⟨h.1, h.2.1.mono ka, h.2.2.1.mono kc, h.2.2.2.1, h.2.2.2.2.1, h.2.2.2.2.2.1, h.2.2.2.2.2.2.mono kq⟩
theorem RdF.rf {a0 c0 q0 : Nat} : RdF a0 c0 q0 σ σ := ⟨sameK.rf, eqK.rf.oldO, eqK.rf.oldB, fun _ _ => ⟨rfl, fun _ _ => rfl, fun _ => rfl⟩, fun _ _ => rfl, fun _ _ _ => rfl, LF.same sameK.rf⟩
theorem RdF.ofRF {a0 c0 q0 : Nat} {σ' : AS} (h : RF σ σ') : RdF a0 c0 q0 σ σ' := ⟨h.1.sub (fun c hc => ⟨hc.2.2.1, hc.2.2.2.1, hc.2.2.2.2.1⟩), (h.1 2 (by decide)).oldO, (h.1 25 (by decide)).oldB, fun c _ => ⟨h.2.1 c, h.2.2.1 c, h.2.2.2.1 c⟩, h.2.2.2.2.1, h.2.2.2.2.2, LF.same (h.1.sub (fun c hc => by rcases hc with rfl | rfl <;> decide))⟩
/-- changes of kinds 2 and 25 alone -/
theorem RdF.of2 {a0 c0 q0 : Nat} {σ' : AS} (h : sameK (fun c => c ≠ 2 ∧ c ≠ 25) σ σ') (k2 : oldO a0 σ σ' 2) (k25 : oldB c0 σ σ' 25) : RdF a0 c0 q0 σ σ' := ⟨h.sub (fun c hc => ⟨hc.2.1, hc.2.2.2.2.2.2⟩), k2, k25, fun c hc => by
  have q := h c (by rcases hc with rfl | rfl | rfl <;> decide)
  exact ⟨q.1, q.2.2.1, q.2.2.2.1⟩, fun r _ => (h 8 (by decide)).2.1 1 r, fun a j _ => (h 20 (by decide)).2.2.2.2.1 a j, LF.same (h.sub (fun c hc => by rcases hc with rfl | rfl <;> decide))⟩
theorem RdF.ofRH {a0 c0 q0 x : Nat} {σ' : AS} (h : RH σ σ' x) (hx : a0 ≤ x) : RdF a0 c0 q0 σ σ' := ⟨h.1.sub (fun c hc => ⟨hc.2.1, hc.2.2.2.1⟩), ⟨Nat.le_of_eq (h.2.1 2).symm, fun i hi => ⟨fun f => h.2.2.2.2 f i (fun e => by omega), fun f => h.2.2.1 2 f i⟩⟩, (h.1 25 (by decide)).oldB, fun c _ => ⟨h.2.1 c, h.2.2.1 c, h.2.2.2.1 c⟩, fun r _ => (h.1 8 (by decide)).2.1 1 r, fun a j _ => (h.1 20 (by decide)).2.2.2.2.1 a j, LF.same (h.1.sub (fun c hc => by rcases hc with rfl | rfl <;> decide))⟩
theorem RdF.ofAdd {a0 c0 q0 q : Nat} {σ' : AS} (h : LAdd σ σ' q) (hq : q0 ≤ q) (h0 : q0 ≤ cnt σ 0) : RdF a0 c0 q0 σ σ' := ⟨h.1.sub (fun c hc => ⟨hc.1, hc.2.2.2.2.2.1⟩), (h.1 2 (by decide)).oldO, (h.1 25 (by decide)).oldB, fun c hc => by
  have q := h.1 c (by rcases hc with rfl | rfl | rfl <;> decide)
  exact ⟨q.1, q.2.2.1, q.2.2.2.1⟩, fun r _ => (h.1 8 (by decide)).2.1 1 r, fun a j _ => (h.1 20 (by decide)).2.2.2.2.1 a j, ⟨Nat.le_of_eq h.2.1.symm, fun _ => h.2.2.1, fun q' n e hq' z => h.2.2.2.1 q' n e (by omega) (by omega) z, fun q' hq' => h.2.2.2.2 q' (by omega) (by omega)⟩⟩
theorem RdF.st {a0 c0 q0 : Nat} {σ' : AS} (h : RdF a0 c0 q0 σ σ') (hS : St σ) : St σ' := hS.of fun c hc => by
  by_cases h1 : c = 8 ∨ c = 10 ∨ c = 20
  · have k := h.2.2.2.1 c h1
    exact ⟨fun f i _ => k.2.1 f i, fun i _ => k.2.2 i, Nat.le_of_eq k.1.symm⟩
  · have k := h.1 c (by
      unfold stKind at hc
      refine ⟨?_, ?_, fun e => h1 (Or.inl e), fun e => h1 (Or.inr (Or.inl e)), fun e => h1 (Or.inr (Or.inr e)), ?_, ?_⟩ <;> (intro e; subst e; revert hc; decide))
    exact ⟨fun f i _ => k.2.2.1 f i, fun i _ => k.2.2.2.1 i, Nat.le_of_eq k.1.symm⟩
theorem AskR.keep {a0 c0 q0 x n i k : Nat} {b : Nat → Int32} {σ' : AS} (h : AskR σ x n b i k) (F : RdF a0 c0 q0 σ σ') (hx : x < a0) (hc : cnt σ 25 ≤ c0) : AskR σ' x n b i k := by
  obtain ⟨k1, k2, k3, k4, k5, a, k6, k7, k8, k9, k10⟩ := h
  obtain ⟨g1, g2⟩ := F.2.1.2 x hx
  obtain ⟨g3, g4⟩ := F.2.2.1.2 a (by omega)
  exact ⟨(g1 0).trans k1, (g1 1).trans k2, (g1 2).trans k3, (g1 3).trans k4, (g1 4).trans k5, a, (g2 5).trans k6, Nat.lt_of_lt_of_le k7 F.2.2.1.1, g3.trans k8, k9, fun j hj => (g4 j).trans (k10 j hj)⟩
/-- a token that stands stays -/
def TokK (σ σ' : AS) : Prop := ∀ f, gI σ' 10 f 0 = gI σ 10 f 0
theorem TokK.tok {σ' : AS} {n j : Nat} {b : Nat → Int32} (h : TokK σ σ') (k : Tok σ n b j) : Tok σ' n b j := ⟨(h 3).trans k.1, (h 4).trans k.2.1, (h 5).trans k.2.2.1, (h 6).trans k.2.2.2⟩
/-- amid the asks: k are read into list q; token j stands here -/
def MidA (σ σ' : AS) (n : Nat) (b : Nat → Int32) (k : Nat) : Prop := RdF (cnt σ 2) (cnt σ 25) (cnt σ 0) σ σ' ∧ cnt σ' 0 = cnt σ 0 + 1 ∧ cnt σ' 2 = cnt σ 2 + k ∧ LW σ' ∧ AL σ' (cnt σ 0) k (fun j => (2, cnt σ 2 + j)) ∧ lcap σ' (cnt σ 0) = (if k = 0 then 0 else 10) ∧ RW σ' 0 n b ∧ Tok σ' n b (ip n b k) ∧ ip n b k ≤ n ∧ (0 < k → 0 < ip n b k) ∧ gI σ' 10 0 0 = 0 ∧ gI σ' 10 1 0 = -1 ∧ ∀ j, j < k → AskR σ' (cnt σ 2 + j) n b (ip n b j) j ∧ gI σ' 2 6 (cnt σ 2 + j) = 0 ∧ gI σ' 2 7 (cnt σ 2 + j) = 0
/-- behind a fault -/
def BadA (σ σ' : AS) (n : Nat) (b : Nat → Int32) (o : Out) : Prop := RdF (cnt σ 2) (cnt σ 25) (cnt σ 0) σ σ' ∧ LW σ' ∧ RW σ' 0 n b ∧ gI σ' 10 0 0 = o.1 ∧ gI σ' 10 1 0 = nI o.2
/-- one ask: what comes of it -/
theorem a_ask {σ1 : AS} {n k : Nat} {b : Nat → Int32} (hS1 : St σ1) (M : MidA σ σ1 n b k) (hk : k ≤ 6) (hn : n ≤ 1000) (hkk : 4 * (7 - k) ≤ kk) (hnn : 1100 * (7 - k) ≤ nn)
    (g0 : ¬ (ra n b (ip n b k)).1 = 0 → ∀ σ', BadA σ σ' n b (ra n b (ip n b k)) → post (some (xR none)) σ')
    (g1 : (ra n b (ip n b k)).1 = 0 → ∀ σ' kk' nn', 4 * (6 - k) ≤ kk' → 1100 * (6 - k) ≤ nn' → St σ' → MidA σ σ' n b (k + 1) → AW G l M_X2_read (d + 26) post σ' kk' nn' 17 [some (xR (some (3, 0))), some (xR (some (0, cnt σ 0))), some (xI (nI (k + 1))), none] []) :
    ∃ kk7 nn8 : Nat, (kk = kk7 + 1 ∧ nn = nn8 + 9 ∧ ((∃ mc12 ms13 kk10 nn11 : Nat, (kk7 = kk10 + mc12 ∧ nn8 = nn11 + ms13 ∧ (AMet G l M_X1_init (d + 25) mc12 ms13 [xR (some (2, (cnt σ1 2))), xI (nI k)] (nO σ1 2) (retV (fun σ9 => (St σ9 ∧ (AMet G l M_X2_readHead (d + 25) 0 0 [xR (some (3, 0)), xR (some (2, (cnt σ1 2)))] (sI σ9 8 1 1 0) (retI (fun x15 σ14 => (((x15 = 0 → post (some (xR none)) σ14)) ∧ ((¬ x15 = 0 → AMet G l M_X2_readAny (d + 25) 0 0 [xR (some (3, 0)), xI 0] σ14 (retI (fun x17 σ16 => (St σ16 ∧ (((x17 = 0 → post (some (xR none)) σ16)) ∧ ((¬ x17 = 0 → AMet G l M_X9_passSign (d + 25) 0 0 [xR (some (10, 0)), xI 59] σ16 (retI (fun x19 σ18 => (St σ18 ∧ (((¬ x19 = 0 → (∃ mc23 ms24 kk21 nn22 : Nat, (kk10 = kk21 + mc23 ∧ nn11 = nn22 + ms24 ∧ (AMet G l M_X1_takeSteps (d + 25) mc23 ms24 [xR (some (2, (cnt σ1 2))), xR (some (8, 1))] σ18 (retV (fun σ20 => (∃ mc28 ms29 kk26 nn27 : Nat, (kk21 = kk26 + mc28 ∧ nn22 = nn27 + ms29 ∧ (AMet G l M_Jx4a65c_add_9ea2d (d + 25) mc28 ms29 [xR (some (0, cnt σ 0)), xR (some (2, (cnt σ1 2)))] σ20 (retI (fun x30 σ25 => AW G l M_X2_read (d + 26) post σ25 kk26 nn27 17 [some (xR (some (3, 0))), some (xR (some (0, cnt σ 0))), some (xI (nI k + 1)), none] [])))))))))))) ∧ ((x19 = 0 → post (some (xR none)) σ18)))))))))))))))))))))))))) := by
  obtain ⟨m1, m2, m3, m4, m5, m6, m7, m8, m9, m10, m11, m12, m13⟩ := M
  refine ⟨kk - 1, nn - 9, by omega, by omega, 1, 0, kk - 2, nn - 9, by omega, by omega, c_askInit (by omega) ?_⟩
  -- the new ask
  have E1 : RdF (cnt σ1 2) (cnt σ1 25) (cnt σ1 0) σ1 (sI (sI (sR (nA (nO σ1 2) 25 0) 2 5 (cnt σ1 2) (some (25, cnt (nO σ1 2) 25))) 2 0 (cnt σ1 2) (nI k)) 8 1 1 0) := by
    refine RdF.tr (RdF.of2 (σ' := nO σ1 2) (fun c hc => eqK_nO hc.1) (oldO_new (Nat.le_refl _)) (eqK_nO (by decide)).oldB) ?_
    refine RdF.tr (RdF.of2 (σ' := nA (nO σ1 2) 25 0) (fun c hc => eqK_nA hc.2) (eqK_nA (by decide)).oldO (oldB_new (by rw [cnt_nO, if_neg (by decide)]; exact Nat.le_refl _))) ?_
    refine RdF.tr (RdF.of2 (σ' := sR (nA (nO σ1 2) 25 0) 2 5 (cnt σ1 2) (some (25, cnt (nO σ1 2) 25))) (fun c hc => eqK_sR hc.1) (oldO_sR (Nat.le_refl _)) (eqK_sR (by decide)).oldB) ?_
    refine RdF.tr (RdF.of2 (σ' := sI (sR (nA (nO σ1 2) 25 0) 2 5 (cnt σ1 2) (some (25, cnt (nO σ1 2) 25))) 2 0 (cnt σ1 2) (nI k)) (fun c hc => eqK_sI hc.1) (oldO_sI (Nat.le_refl _)) (eqK_sI (by decide)).oldB) ?_
    exact RdF.ofRF ⟨fun c hc => eqK_sI hc.1, fun _ => rfl, fun _ _ _ => rfl, fun _ _ => rfl, fun r hr => gI_o (fun e => hr e.2.2), fun _ _ _ => rfl⟩
  have hc2 : cnt (sI (sI (sR (nA (nO σ1 2) 25 0) 2 5 (cnt σ1 2) (some (25, cnt (nO σ1 2) 25))) 2 0 (cnt σ1 2) (nI k)) 8 1 1 0) 2 = cnt σ1 2 + 1 := by
    rw [cnt_sI, cnt_sI, cnt_sR, cnt_nA, if_neg (by decide), cnt_nO, if_pos rfl]
  have hf0 : gI (sI (sI (sR (nA (nO σ1 2) 25 0) 2 5 (cnt σ1 2) (some (25, cnt (nO σ1 2) 25))) 2 0 (cnt σ1 2) (nI k)) 8 1 1 0) 2 0 (cnt σ1 2) = nI k := by
    rw [gI_o (fun e => absurd e.1 (by decide)), gI_self]
  have hf6 : ∀ f, f ≠ 0 → gI (sI (sI (sR (nA (nO σ1 2) 25 0) 2 5 (cnt σ1 2) (some (25, cnt (nO σ1 2) 25))) 2 0 (cnt σ1 2) (nI k)) 8 1 1 0) 2 f (cnt σ1 2) = 0 := by
    intro f hf
    rw [gI_o (fun e => absurd e.1 (by decide)), gI_o (fun e => hf e.2.1), gI_sR, gI_nA, if_neg (fun e => absurd e.1 (by decide)), gI_nO, if_pos ⟨rfl, rfl⟩]
  have hT1 : TokK σ1 (sI (sI (sR (nA (nO σ1 2) 25 0) 2 5 (cnt σ1 2) (some (25, cnt (nO σ1 2) 25))) 2 0 (cnt σ1 2) (nI k)) 8 1 1 0) := fun f => by
    rw [gI_o (fun e => absurd e.1 (by decide)), gI_o (fun e => absurd e.1 (by decide)), gI_sR, gI_nA, if_neg (fun e => absurd e.1 (by decide)), gI_nO, if_neg (fun e => absurd e.1 (by decide))]
  have hR0 : RW (sI (sI (sR (nA (nO σ1 2) 25 0) 2 5 (cnt σ1 2) (some (25, cnt (nO σ1 2) 25))) 2 0 (cnt σ1 2) (nI k)) 8 1 1 0) 0 n b := by
    obtain ⟨r1, r2, r3⟩ := m7.out hS1 (by decide)
    refine RW.mk (E1.st hS1) (by decide) ((E1.2.2.2.2.1 0 (by decide)).trans r1) r2 (fun i hi => (E1.2.2.2.2.2.1 _ _ (by decide)).trans (r3 i hi))
  have hR1 : RW (sI (sI (sR (nA (nO σ1 2) 25 0) 2 5 (cnt σ1 2) (some (25, cnt (nO σ1 2) 25))) 2 0 (cnt σ1 2) (nI k)) 8 1 1 0) 1 0 (fun _ => 0) := RW.mk (E1.st hS1) (by decide) (by rw [gI_self, nI_0]) (Nat.zero_le _) (fun i hi => absurd hi (Nat.not_lt_zero i))
  refine ⟨(E1.st hS1 : St _), ?_⟩
  generalize hσ2 : sI (sI (sR (nA (nO σ1 2) 25 0) 2 5 (cnt σ1 2) (some (25, cnt (nO σ1 2) 25))) 2 0 (cnt σ1 2) (nI k)) 8 1 1 0 = σ2 at *
  have S2 := E1.st hS1
  have T2 := hT1.tok m8
  have base : ∀ σ', RdF (cnt σ1 2) (cnt σ1 25) (cnt σ1 0) σ1 σ' → RdF (cnt σ 2) (cnt σ 25) (cnt σ 0) σ σ' := fun σ' F => m1.tr (F.mono (by omega) m1.2.2.1.1 (by omega))
  have lw : ∀ σ', RdF (cnt σ1 2) (cnt σ1 25) (cnt σ1 0) σ1 σ' → LW σ' := fun σ' F => F.2.2.2.2.2.2.2.1 m4
  refine c_readHead S2 hR0 m9 T2 (fun z σ3 M3 q1 q2 v1 v2 v3 v4 => ?_) (fun z σ3 F3 S3 R3 x1 x2 => ?_)
  rotate_left
  · have e : ra n b (ip n b k) = hd n b (ip n b k) := by unfold ra; rw [if_neg z]
    rw [e] at g0
    have F := E1.tr (RdF.ofRH F3 (Nat.le_refl _))
    exact ⟨fun _ => g0 z σ3 ⟨base _ F, lw _ F, R3, x1, x2⟩, fun c => absurd rfl c⟩
  obtain ⟨F3, S3, R3, T3, u1, u2⟩ := M3
  have E3 := E1.tr (RdF.ofRH (a0 := cnt σ1 2) (c0 := cnt σ1 25) (q0 := cnt σ1 0) F3 (Nat.le_refl _))
  refine ⟨fun c => absurd c (by decide), fun _ => c_readAny S3 R3 (by omega) q1 hn T3 (F3.rw hR1) (fun σ4 A => ?_)⟩
  rcases A with ⟨z2, M4, y1, y2, y3⟩ | ⟨z2, ⟨F4, S4, R4, x1, x2⟩⟩
  rotate_left
  · have e : ra n b (ip n b k) = (rdE n b (hd n b (ip n b k)).2).1 := by unfold ra; rw [if_pos z, if_neg z2]
    rw [e] at g0
    have F := E3.tr (RdF.ofRF F4)
    exact ⟨S4, fun _ => g0 z2 σ4 ⟨base _ F, lw _ F, R4, x1, x2⟩, fun c => absurd (okI_0 z2) c⟩
  obtain ⟨F4, S4, R4, T4, L4, w1, w2⟩ := M4
  have E4 := E3.tr (RdF.ofRF (a0 := cnt σ1 2) (c0 := cnt σ1 25) (q0 := cnt σ1 0) F4)
  refine ⟨S4, fun c => ?_, fun _ => c_passSign S4 R4 y2 T4 (fun g => ?_) (fun g σ5 T5 t5 => ?_)⟩
  · rw [okI_1 z2] at c
    exact absurd c (by decide)
  · have e : ra n b (ip n b k) = (1, tS n b (rdE n b (hd n b (ip n b k)).2).1.2) := by unfold ra; rw [if_pos z, if_pos z2, if_neg (by rw [g]; decide)]
    rw [e] at g0
    have F := E4.tr (RdF.ofRF (fail_rfr (k := 1)))
    refine ⟨fail_rfr.st S4, fun c => absurd rfl c, fun _ => g0 i1n0 _ ⟨base _ F, lw _ F, fail_rfr.rw S4 (by decide) (by decide) R4, ?_, ?_⟩⟩
    · unfold FailS; rw [gI_o (by decide), gI_self]
    · unfold FailS; rw [gI_self]; exact T4.2.1
  have e : ra n b (ip n b k) = (0, tE n b (rdE n b (hd n b (ip n b k)).2).1.2) := by unfold ra; rw [if_pos z, if_pos z2, if_pos g]
  have eip : ip n b (k + 1) = tE n b (rdE n b (hd n b (ip n b k)).2).1.2 := by show (ra n b (ip n b k)).2 = _; rw [e]
  rw [e] at g1
  have hle5 := tE_le (b := b) y2
  have hgt5 := isG_gt y2 g
  have E5 := E4.tr (RdF.ofRF (a0 := cnt σ1 2) (c0 := cnt σ1 25) (q0 := cnt σ1 0) T5.rfr)
  have S5 := T5.st S4
  have hlen : (rdE n b (hd n b (ip n b k)).2).2.length ≤ 1000 := by omega
  refine ⟨S5, fun _ => ⟨1, 1000, kk - 3, nn - 1009, by omega, by omega, c_takeSteps (T5.rw L4) (by omega) (by omega) (fun σ6 W => ?_)⟩, fun c => absurd c (by decide)⟩
  obtain ⟨t1, t2, t3, t4, t5', t6, t7, t8⟩ := W
  have E6 : RdF (cnt σ1 2) (cnt σ1 25) (cnt σ1 0) σ1 σ6 := E5.tr (RdF.of2 t1 ⟨Nat.le_of_eq t2.symm, fun i hi => ⟨fun f => t3 f i, fun f => by rw [t4, if_neg (fun e => by have := e.2; omega)]⟩⟩ ⟨t8.1, fun i hi => by
    have := t8.2 i (Nat.lt_of_lt_of_le hi E5.2.2.1.1)
    exact ⟨this.2.2.1, this.2.2.2.1⟩⟩)
  have hc6 : cnt σ6 2 = cnt σ1 2 + 1 := by
    rw [t2, T5.rfr.2.1, F4.2.1, F3.2.1, hc2]
  have hq6 : cnt σ1 0 ≤ cnt σ6 0 := E6.2.2.2.2.2.2.1
  have hA6 : AL σ6 (cnt σ 0) k (fun j => (2, cnt σ 2 + j)) := E6.2.2.2.2.2.2.2.2.1 _ _ _ (by omega) m5
  have hl6 : lcap σ6 (cnt σ 0) = (if k = 0 then 0 else 10) := (E6.2.2.2.2.2.2.2.2.2 _ (by omega)).trans m6
  refine ⟨1, 10, kk - 4, nn - 1019, by omega, by omega, c_add (lw _ E6) (by omega) hA6 (by show 2 < 14; omega) (by omega) ?_ (fun σ7 D7 A7 l7 => ?_)⟩
  · rw [hl6]
    by_cases h0 : k = 0
    · exact Or.inr ⟨Nat.le_refl _, by rw [h0]; decide⟩
    · rw [if_neg h0]; exact Or.inl (by omega)
  have E7 : RdF (cnt σ1 2) (cnt σ1 25) (cnt σ 0) σ1 σ7 := (E6.mono (Nat.le_refl _) (Nat.le_refl _) (by omega)).tr (RdF.ofAdd D7 (Nat.le_refl _) (by omega))
  have S7 := E7.st hS1
  rw [nI_1]
  have f2 := D7.1 2 (by decide)
  have f10 := D7.1 10 (by decide)
  have p10 : ∀ f, gI σ7 10 f 0 = gI σ5 10 f 0 := fun f => (f10.2.1 f 0).trans ((t1 10 (by decide)).2.1 f 0)
  have p2 : ∀ f, gI σ7 2 f (cnt σ1 2) = gI σ3 2 f (cnt σ1 2) := fun f => (f2.2.1 f _).trans ((t3 f _).trans ((((T5.rfr.1 2 (by decide)).2.1 f _)).trans ((F4.1 2 (by decide)).2.1 f _)))
  have p2f : ∀ f, ¬ (1 ≤ f ∧ f ≤ 4) → gI σ7 2 f (cnt σ1 2) = gI σ2 2 f (cnt σ1 2) := fun f hf => (p2 f).trans (F3.2.2.2.2 f _ (fun e => hf e.2))
  refine g1 rfl σ7 _ _ (by omega) (by omega) S7 ⟨m1.tr (E7.mono (by omega) m1.2.2.1.1 (Nat.le_refl _)), ?_, ?_, E7.2.2.2.2.2.2.2.1 m4, ?_, ?_, ?_, ?_, ?_, ?_, ?_, ?_, fun j hj => ?_⟩
  · have := D7.2.1
    have c5 : cnt σ6 0 = cnt σ1 0 := by
      rw [(t1 0 (by decide)).1, T5.rfr.2.1, F4.2.1, F3.2.1, ← hσ2, cnt_sI, cnt_sI, cnt_sR, cnt_nA, if_neg (by decide), cnt_nO, if_neg (by decide)]
    omega
  · rw [f2.1, hc6]; omega
  · obtain ⟨a, b1, b2, b3, b4, b5, b6⟩ := A7
    refine ⟨a, b1, b2, b3, b4, fun i hi => ?_, b6⟩
    rw [b5 i hi]
    show some (if i = k then (2, cnt σ1 2) else (2, cnt σ 2 + i)) = some (2, cnt σ 2 + i)
    by_cases q : i = k
    · rw [if_pos q, q, m3]
    · rw [if_neg q]
  · rw [l7, hl6, if_neg (Nat.succ_ne_zero k)]
    by_cases h0 : k = 0
    · rw [if_pos h0, if_neg (by omega), h0]; rfl
    · rw [if_neg h0, if_pos (by omega)]
  · obtain ⟨r1, r2, r3⟩ := (T5.rw R4).out S5 (by decide)
    have q8 := (D7.1 8 (by decide)).2.1 1 0
    have q8' := (t1 8 (by decide)).2.1 1 0
    refine RW.mk S7 (by decide) (q8.trans (q8'.trans r1)) r2 (fun i hi => ?_)
    rw [(D7.1 20 (by decide)).2.2.2.2.1, (t1 20 (by decide)).2.2.2.2.1]
    exact r3 i hi
  · rw [eip]
    exact (show TokK σ5 σ7 from p10).tok t5
  · rw [eip]; exact hle5.2
  · intro _; rw [eip]; omega
  · rw [p10, T5.2.2.2.2.1, w1, u1, hT1]; exact m11
  · rw [p10, T5.2.2.2.2.2, w2, u2, hT1]; exact m12
  · by_cases hjk : j < k
    · obtain ⟨k1, k2, k3⟩ := m13 j hjk
      obtain ⟨g1', g2'⟩ := E7.2.1.2 (cnt σ 2 + j) (by omega)
      exact ⟨k1.keep E7 (by omega) (Nat.le_refl _), (g1' 6).trans k2, (g1' 7).trans k3⟩
    · have hj : j = k := by omega
      subst hj
      rw [← m3]
      refine ⟨⟨(p2f 0 (by omega)).trans hf0, (p2 1).trans v1, (p2 2).trans v2, (p2 3).trans v3, (p2 4).trans v4, cnt σ5 25, ?_, ?_, ?_, hlen, fun j' hj' => ?_⟩, (p2f 6 (by omega)).trans (hf6 6 (by decide)), (p2f 7 (by omega)).trans (hf6 7 (by decide))⟩
      · rw [f2.2.2.1, t4, if_pos ⟨rfl, rfl⟩]
      · rw [(D7.1 25 (by decide)).1, t5']; exact Nat.lt_succ_self _
      · rw [(D7.1 25 (by decide)).2.2.2.1, t6]; omega
      · rw [(D7.1 25 (by decide)).2.2.2.2.1, t7 j' (by omega)]
        unfold app
        rw [if_neg (by omega), Nat.sub_zero]
theorem ra_no {n i : Nat} {b : Nat → Int32} (h : ¬ isW n b i 0 = true) : ra n b i = (1, tS n b i) := by
  have e0 : h0 n b i = ((1, tS n b i), -1) := by unfold h0 wN; rw [if_neg h]
  have e1 : hd n b i = (1, tS n b i) := by unfold hd; rw [e0, if_neg i1n0]
  unfold ra
  rw [e1, if_neg i1n0]
theorem a_read {n : Nat} {b : Nat → Int32} (hSσ : St σ) (hn : n ≤ 1000) : ∀ (f k : Nat), k + f = 6 → ∀ (σ1 : AS) (kk nn : Nat), St σ1 → MidA σ σ1 n b k → 4 * (7 - k) ≤ kk → 1100 * (7 - k) ≤ nn →
    (∀ σ' K, MidA σ σ' n b K → St σ' → K ≤ 6 → rall n b f k (ip n b k) = (K, (0, ip n b K)) → post (some (xR (some (0, cnt σ 0)))) σ') →
    (∀ σ' K o, rall n b f k (ip n b k) = (K, o) → ¬ o.1 = 0 → St σ' → BadA σ σ' n b o → post (some (xR none)) σ') →
    AW G l M_X2_read (d + 26) post σ1 kk nn 17 [some (xR (some (3, 0))), some (xR (some (0, cnt σ 0))), some (xI (nI k)), none] [] := by
  intro f
  induction f with
  | zero =>
    intro k hk σ1 kk nn hS M hkk hnn good bad
    have k6 : k = 6 := by omega
    subst k6
    have M0 := M
    obtain ⟨m1, m2, m3, m4, m5, m6, m7, m8, m9, m10, m11, m12, m13⟩ := M
    refine vc_X2_read_17 (d := d + 25) hS ⟨fun c => absurd ((nI_ltI (a := 6) (by decide) (by decide)).mp c) (by decide), fun _ => c_atEnd m8 (fun hne => ⟨hS, fun c => absurd rfl c, fun _ => ⟨fun c => absurd rfl c, fun _ => ?_⟩⟩) (fun h0 => ⟨hS, fun _ => good σ1 6 M0 hS (by decide) (by rw [rall, if_pos h0]), fun c => absurd c (by decide)⟩)⟩
    refine c_isWord hS m7 m9 m8 ⟨hS, fun c => ?_, fun c => c_fail ?_⟩
    · have w : ¬ isW n b (ip n b 6) 0 = true := fun q => bI_ne.mpr q c
      refine a_ask (post := post) hS M0 (by decide) hn hkk hnn (fun z σ' B => ?_) (fun z => ?_)
      · have e := ra_no w
        refine bad σ' 6 _ ?_ z (B.1.st hSσ) B
        rw [rall, if_neg hne, if_neg w, e]
      · rw [ra_no w] at z
        exact absurd z i1n0
    · have w := bI_ne.mp c
      refine bad _ 6 (2, tS n b (ip n b 6)) (by rw [rall, if_neg hne, if_pos w]) i2n0 (fail_rfr.st hS) ⟨m1.tr (RdF.ofRF fail_rfr), (RdF.ofRF (a0 := 0) (c0 := 0) (q0 := 0) (fail_rfr (σ := σ1) (k := 2))).2.2.2.2.2.2.2.1 m4, fail_rfr.rw hS (by decide) (by decide) m7, ?_, ?_⟩
      · unfold FailS; rw [gI_o (by decide), gI_self]
      · unfold FailS; rw [gI_self]; exact m8.2.1
  | succ f ih =>
    intro k hk σ1 kk nn hS M hkk hnn good bad
    have M0 := M
    obtain ⟨m1, m2, m3, m4, m5, m6, m7, m8, m9, m10, m11, m12, m13⟩ := M
    refine vc_X2_read_17 (d := d + 25) hS ⟨fun c => absurd ((nI_ltI (a := 6) (by decide) (by omega)).mp c) (by omega), fun _ => c_atEnd m8 (fun hne => ⟨hS, fun c => absurd rfl c, fun _ => ⟨fun _ => ?_, fun c => ?_⟩⟩) (fun h0 => ⟨hS, fun _ => good σ1 k M0 hS (by omega) (by rw [rall, if_pos h0]), fun c => absurd c (by decide)⟩)⟩
    · refine a_ask hS M0 (by omega) hn hkk hnn (fun z σ' B => ?_) (fun z σ' kk' nn' q1 q2 S' M' => ?_)
      · refine bad σ' k _ ?_ z (B.1.st hSσ) B
        rw [rall, if_neg hne, if_neg z]
      · have e : rall n b (f + 1) k (ip n b k) = rall n b f (k + 1) (ip n b (k + 1)) := by
          rw [rall, if_neg hne, if_pos z]; rfl
        rw [e] at good bad
        exact ih (k + 1) (by omega) σ' kk' nn' S' M' (by omega) (by omega) good bad
    · exact absurd ((nI_eq (b := 6) (by omega) (by decide)).mp c) (by omega)
theorem RdF.mkL {a0 c0 : Nat} (hW : LW σ) : RdF a0 c0 (cnt σ 0) σ (newL σ) := by
  have hk : sameK (fun c => c ≠ 0) σ (newL σ) := fun c hc => (eqK_nO hc).tr ((eqK_sI hc).tr (eqK_sR hc))
  refine ⟨hk.sub (fun c hc => hc.1), (hk 2 (by decide)).oldO, (hk 25 (by decide)).oldB, fun c hc => ?_, fun r _ => (hk 8 (by decide)).2.1 1 r, fun a j _ => (hk 20 (by decide)).2.2.2.2.1 a j, by rw [newL_cnt]; omega, fun _ => newL_LW hW, fun q n e hq h => newL_old hq h, fun q hq => ?_⟩
  · have q := hk c (by rcases hc with rfl | rfl | rfl <;> decide)
    exact ⟨q.1, q.2.2.1, q.2.2.2.1⟩
  · unfold lcap
    rw [newL_gR, if_neg (by omega)]
    cases gR σ 0 1 q with
    | none => rfl
    | some n => exact (hk 23 (by decide)).2.2.2.1 n.2
theorem c_read {n : Nat} {b : Nat → Int32} (hS : St σ) (hW : LW σ) (hR : RW σ 0 n b) (hn : n ≤ 1000) (hkk : 29 ≤ kk) (hnn : 7703 ≤ nn)
    (good : ∀ σ' K, MidA σ σ' n b K → St σ' → K ≤ 6 → rall n b 6 0 0 = (K, (0, ip n b K)) → post (some (xR (some (0, cnt σ 0)))) σ')
    (bad : ∀ σ' K o, rall n b 6 0 0 = (K, o) → ¬ o.1 = 0 → St σ' → BadA σ σ' n b o → post (some (xR none)) σ') : AMet G l M_X2_read (d + 26) kk nn [xR (some (3, 0))] σ post := by
  refine AMet.of rfl (Nat.le_of_ble_eq_true rfl) (vc_X2_read (d := d + 25) ⟨kk - 1, nn - 3, by omega, by omega, c_listInit ?_⟩)
  have F0 : RdF (cnt σ 2) (cnt σ 25) (cnt σ 0) σ (newL σ) := RdF.mkL hW
  have hR0 : RW (newL σ) 0 n b := hR.same (P := fun c => c ≠ 0) (fun c hc => (eqK_nO hc).tr ((eqK_sI hc).tr (eqK_sR hc))) (by decide) (by decide)
  refine ⟨F0.st hS, c_begin (F0.st hS) hR0 (fun σ1 F S R _ T f0 f1 => ?_)⟩
  have F : RF (newL σ) σ1 := F
  have F1 := F0.tr (RdF.ofRF F)
  have q0 : (0 : Int32) = nI 0 := nI_0.symm
  rw [q0]
  refine a_read hS hn 6 0 rfl σ1 _ _ S ⟨F1, ?_, ?_, F1.2.2.2.2.2.2.2.1 hW, ?_, ?_, R, T, Nat.zero_le _, fun h => absurd h (by decide), f0, f1, fun j hj => absurd hj (by omega)⟩ (by omega) (by omega) good bad
  · rw [(F.2.1 0 : cnt σ1 0 = cnt (newL σ) 0), newL_cnt]
  · rw [F.2.1]
    exact ((eqK_nO (by decide)).tr ((eqK_sI (by decide)).tr (eqK_sR (by decide))) : eqK σ (newL σ) 2).1
  · exact (newL_self hW _).same (F.1.sub (fun c hc => by rcases hc with rfl | rfl <;> decide))
  · rw [(lcap_eq (F.1.sub (fun c hc => by rcases hc with rfl | rfl <;> decide)) : lcap σ1 (cnt σ 0) = lcap (newL σ) (cnt σ 0)), if_pos rfl]
    unfold lcap
    rw [newL_gR, if_pos rfl]
    show gN (newL σ) 23 0 = 0
    rw [((eqK_nO (by decide)).tr ((eqK_sI (by decide)).tr (eqK_sR (by decide))) : eqK σ (newL σ) 23).2.2.2.1]
    exact hW.2.2.1
end ASKS
