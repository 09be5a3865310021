/-! ArrayList by contracts; what stays the same, kind by kind. -/
def eqK (σ σ' : AS) (c : Nat) : Prop := cnt σ' c = cnt σ c ∧ (∀ f i, gI σ' c f i = gI σ c f i) ∧ (∀ f i, gR σ' c f i = gR σ c f i) ∧ (∀ i, gN σ' c i = gN σ c i) ∧ (∀ i j, gA σ' c i j = gA σ c i j) ∧ (∀ i j, gQ σ' c i j = gQ σ c i j) ∧ ∀ i j, gL σ' c i j = gL σ c i j
def sameK (P : Nat → Prop) (σ σ' : AS) : Prop := ∀ c, P c → eqK σ σ' c
theorem eqK.rf {σ : AS} {c : Nat} : eqK σ σ c := ⟨rfl, fun _ _ => rfl, fun _ _ => rfl, fun _ => rfl, fun _ _ => rfl, fun _ _ => rfl, fun _ _ => rfl⟩
theorem eqK.tr {σ σ1 σ2 : AS} {c : Nat} (h : eqK σ σ1 c) (k : eqK σ1 σ2 c) : eqK σ σ2 c := ⟨k.1.trans h.1, fun f i => (k.2.1 f i).trans (h.2.1 f i), fun f i => (k.2.2.1 f i).trans (h.2.2.1 f i), fun i => (k.2.2.2.1 i).trans (h.2.2.2.1 i), fun i j => (k.2.2.2.2.1 i j).trans (h.2.2.2.2.1 i j), fun i j => (k.2.2.2.2.2.1 i j).trans (h.2.2.2.2.2.1 i j), fun i j => (k.2.2.2.2.2.2 i j).trans (h.2.2.2.2.2.2 i j)⟩
theorem sameK.rf {P : Nat → Prop} {σ : AS} : sameK P σ σ := fun _ _ => eqK.rf
theorem sameK.tr {P : Nat → Prop} {σ σ1 σ2 : AS} (h : sameK P σ σ1) (k : sameK P σ1 σ2) : sameK P σ σ2 := fun c hc => (h c hc).tr (k c hc)
theorem sameK.sub {P P' : Nat → Prop} {σ σ' : AS} (h : sameK P σ σ') (hp : ∀ c, P' c → P c) : sameK P' σ σ' := fun c hc => h c (hp c hc)
theorem eqK_sI {σ : AS} {c a f i : Nat} {v : Int32} (h : c ≠ a) : eqK σ (sI σ a f i v) c := ⟨rfl, fun g j => by rw [gI_sI, if_neg (fun e => h e.1)], fun _ _ => rfl, fun _ => rfl, fun _ _ => rfl, fun _ _ => rfl, fun _ _ => rfl⟩
theorem eqK_sR {σ : AS} {c a f i : Nat} {v : Option Nm} (h : c ≠ a) : eqK σ (sR σ a f i v) c := ⟨rfl, fun _ _ => rfl, fun g j => by rw [gR_sR, if_neg (fun e => h e.1)], fun _ => rfl, fun _ _ => rfl, fun _ _ => rfl, fun _ _ => rfl⟩
theorem eqK_sA {σ : AS} {c a f i : Nat} {v : Int32} (h : c ≠ a) : eqK σ (sA σ a f i v) c := ⟨rfl, fun _ _ => rfl, fun _ _ => rfl, fun _ => rfl, fun g j => by rw [gA_sA, if_neg (fun e => h e.1)], fun _ _ => rfl, fun _ _ => rfl⟩
theorem eqK_sQ {σ : AS} {c a f i : Nat} {v : Option Nm} (h : c ≠ a) : eqK σ (sQ σ a f i v) c := ⟨rfl, fun _ _ => rfl, fun _ _ => rfl, fun _ => rfl, fun _ _ => rfl, fun g j => by rw [gQ_sQ, if_neg (fun e => h e.1)], fun _ _ => rfl⟩
theorem eqK_sL {σ : AS} {c a f i : Nat} {v : Int64} (h : c ≠ a) : eqK σ (sL σ a f i v) c := ⟨rfl, fun _ _ => rfl, fun _ _ => rfl, fun _ => rfl, fun _ _ => rfl, fun _ _ => rfl, fun g j => by rw [gL_sL, if_neg (fun e => h e.1)]⟩
theorem eqK_nA {σ : AS} {c a n : Nat} (h : c ≠ a) : eqK σ (nA σ a n) c := ⟨by rw [cnt_nA, if_neg h], fun g j => by rw [gI_nA, if_neg (fun e => h e.1)], fun g j => by rw [gR_nA, if_neg (fun e => h e.1)], fun g => by rw [gN_nA, if_neg (fun e => h e.1)], fun g j => by rw [gA_nA, if_neg (fun e => h e.1)], fun g j => by rw [gQ_nA, if_neg (fun e => h e.1)], fun g j => by rw [gL_nA, if_neg (fun e => h e.1)]⟩
theorem eqK_nO {σ : AS} {c a : Nat} (h : c ≠ a) : eqK σ (nO σ a) c := eqK_nA h
theorem eqK_cpy {σ : AS} {c i sp dp n k : Nat} (h : c ≠ 23) : eqK σ (cpyS σ i sp dp n k) c := ⟨rfl, fun _ _ => rfl, fun _ _ => rfl, fun _ => rfl, fun _ _ => rfl, fun x j => by rw [gQ_cpy, if_neg (fun e => h e.1)], fun _ _ => rfl⟩
theorem st_kinds : (stTab.all fun t => [3, 4, 5, 7, 8, 10, 12, 13].contains t.1) = true ∧ (lenTab.all fun t => [20, 21, 22, 26].contains t.1) = true := by decide +kernel
def stKind (c : Nat) : Prop := c = 3 ∨ c = 4 ∨ c = 5 ∨ c = 7 ∨ c = 8 ∨ c = 10 ∨ c = 12 ∨ c = 13 ∨ c = 20 ∨ c = 21 ∨ c = 22 ∨ c = 26
/-- what never changes stays, if its kinds' references and lengths stay -/
theorem St.of {σ σ' : AS} (h : St σ) (k : ∀ c, stKind c → (∀ f i, i < cnt σ c → gR σ' c f i = gR σ c f i) ∧ (∀ i, i < cnt σ c → gN σ' c i = gN σ c i) ∧ cnt σ c ≤ cnt σ' c) : St σ' := by
  refine ⟨fun t ht => ?_, fun t ht => ?_⟩
  · have hk : stKind t.1 := by
      have := List.all_eq_true.mp st_kinds.1 t ht
      simp at this
      unfold stKind
      omega
    obtain ⟨h1, h2⟩ := h.1 t ht
    exact ⟨by rw [(k _ hk).1 _ _ h2]; exact h1, Nat.lt_of_lt_of_le h2 (k _ hk).2.2⟩
  · have hk : stKind t.1 := by
      have := List.all_eq_true.mp st_kinds.2 t ht
      simp at this
      unfold stKind
      omega
    obtain ⟨h1, h2⟩ := h.2 t ht
    exact ⟨by rw [(k _ hk).2.1 _ h2]; exact h1, Nat.lt_of_lt_of_le h2 (k _ hk).2.2⟩
theorem St.same {P : Nat → Prop} {σ σ' : AS} (h : St σ) (k : sameK P σ σ') (hp : ∀ c, stKind c → P c) : St σ' := h.of fun c hc => ⟨fun f i _ => (k c (hp c hc)).2.2.1 f i, fun i _ => (k c (hp c hc)).2.2.2.1 i, by rw [(k c (hp c hc)).1]; exact Nat.le_refl _⟩
section LISTS
variable {G : GG} {l : Launch} {d : Nat} {post : Option AVal → AS → Prop} {σ : AS} {kk nn : Nat}
theorem c_checkIndex {x y : Int32} {r : Option Nm} (h1 : ¬ x < 0) (h2 : x < y) (h : post (some (xI x)) σ) : AMet G l M_J3_checkIndex_8e157 (d + 1) 0 0 [xI x, xI y, xR r] σ post :=
  AMet.of rfl (Nat.le_of_ble_eq_true rfl) (vc_J3_checkIndex_8e157 ⟨fun c => absurd c h1, fun _ => ⟨fun _ => h, fun c => absurd h2 c⟩⟩)
theorem c_objCheck {x y : Int32} (h1 : ¬ x < 0) (h2 : x < y) (h : post (some (xI x)) σ) : AMet G l M_J15_checkIndex_7cf53 (d + 2) 0 0 [xI x, xI y] σ post :=
  AMet.of rfl (Nat.le_of_ble_eq_true rfl) (vc_J15_checkIndex_7cf53 (c_checkIndex h1 h2 h))
/-- list q holds n elements e -/
def AL (σ : AS) (q n : Nat) (e : Nat → Nm) : Prop := ∃ a, gR σ 0 1 q = some (23, a) ∧ gI σ 0 2 q = nI n ∧ n ≤ gN σ 23 a ∧ gN σ 23 a ≤ 1000000 ∧ (∀ i, i < n → gQ σ 23 a i = some (e i)) ∧ (∀ j, inObj (gQ σ 23 a j)) ∧ ((a = 0 ∧ gN σ 23 a = 0) ∨ (a ≠ 0 ∧ 10 ≤ gN σ 23 a)) ∧ a < cnt σ 23
/-- all lists are well, and apart -/
def LW (σ : AS) : Prop := (∀ q, q < cnt σ 0 → ∃ n e, AL σ q n e) ∧ (∀ q q', q < cnt σ 0 → q' < cnt σ 0 → gR σ 0 1 q = gR σ 0 1 q' → q = q' ∨ gR σ 0 1 q = some (23, 0)) ∧ gN σ 23 0 = 0 ∧ 0 < cnt σ 23 ∧ ∀ j, inObj (gQ σ 23 0 j)
def lcap (σ : AS) (q : Nat) : Nat := match gR σ 0 1 q with
  | some n => gN σ 23 n.2
  | none => 0
def ncap (c : Nat) : Nat := if c = 0 then 10 else c + c / 2
theorem AL.same {σ' : AS} {q n : Nat} {e : Nat → Nm} (h : AL σ q n e) (k : sameK (fun c => c = 0 ∨ c = 23) σ σ') : AL σ' q n e := by
  obtain ⟨a, h1, h2, h3, h4, h5, h6, h7, h8⟩ := h
  obtain ⟨-, k1, k2, -⟩ := k 0 (Or.inl rfl)
  obtain ⟨k3, -, -, k4, -, k5, -⟩ := k 23 (Or.inr rfl)
  exact ⟨a, by rw [k2]; exact h1, by rw [k1]; exact h2, by rw [k4]; exact h3, by rw [k4]; exact h4, fun i hi => by rw [k5]; exact h5 i hi, fun j => by rw [k5]; exact h6 j, by rw [k4]; exact h7, by rw [k3]; exact h8⟩
theorem LW.same {σ' : AS} (h : LW σ) (k : sameK (fun c => c = 0 ∨ c = 23) σ σ') : LW σ' := by
  obtain ⟨k0, -, k2, -⟩ := k 0 (Or.inl rfl)
  exact ⟨fun q hq => by rw [k0] at hq; obtain ⟨n, e, h1⟩ := h.1 q hq; exact ⟨n, e, h1.same k⟩, fun q q' hq hq' => by rw [k0] at hq hq'; rw [k2, k2]; exact h.2.1 q q' hq hq', by
    obtain ⟨j0, -, -, j1, -, j2, -⟩ := k 23 (Or.inr rfl)
    exact ⟨by rw [j1]; exact h.2.2.1, by rw [j0]; exact h.2.2.2.1, fun j => by rw [j2]; exact h.2.2.2.2 j⟩⟩
theorem AL.n_lt {q n : Nat} {e : Nat → Nm} (h : AL σ q n e) : n ≤ 1000000 := by
  obtain ⟨a, -, -, h3, h4, -⟩ := h
  omega
theorem c_size {q n : Nat} {e : Nat → Nm} (hA : AL σ q n e) (h : post (some (xI (nI n))) σ) : AMet G l M_Jx4a65c_size_8abf5 d 0 0 [xR (some (0, q))] σ post :=
  AMet.of rfl (Nat.le_of_ble_eq_true rfl) (vc_Jx4a65c_size_8abf5 (by obtain ⟨a, -, h2, -⟩ := hA; rw [h2]; exact h))
theorem c_isEmpty {q n : Nat} {e : Nat → Nm} (hA : AL σ q n e) (h : post (some (xI (if n = 0 then 1 else 0))) σ) : AMet G l M_Jx4a65c_isEmpty_aae02 d 0 0 [xR (some (0, q))] σ post := by
  have hn := hA.n_lt
  obtain ⟨a, -, h2, -⟩ := hA
  refine AMet.of rfl (Nat.le_of_ble_eq_true rfl) (vc_Jx4a65c_isEmpty_aae02 ?_)
  rw [h2]
  refine ⟨fun c => ?_, fun c => ?_⟩
  · rw [if_neg (fun e => c (by rw [e]; rfl))] at h
    exact h
  · rw [if_pos ((nI_eq (by omega) (by decide)).mp (c.trans nI_0.symm))] at h
    exact h
theorem c_elementData {q n i : Nat} {e : Nat → Nm} (hA : AL σ q n e) (hi : i < n) (h : post (some (xR (some (e i)))) σ) : AMet G l M_Jx4a65c_elementData_915e3 d 0 0 [xR (some (0, q)), xI (nI i)] σ post := by
  obtain ⟨a, h1, h2, h3, h4, h5, -⟩ := hA
  refine AMet.of rfl (Nat.le_of_ble_eq_true rfl) (vc_Jx4a65c_elementData_915e3 ⟨a, h1, vp_in_nI (by omega) (by omega), ?_⟩)
  rw [nI_clamp (by omega), h5 i hi]
  exact h
theorem c_get {q n i : Nat} {e : Nat → Nm} (hA : AL σ q n e) (hi : i < n) (h : post (some (xR (some (e i)))) σ) : AMet G l M_Jx4a65c_get_915e3 (d + 3) 0 0 [xR (some (0, q)), xI (nI i)] σ post := by
  have hn := hA.n_lt
  refine AMet.of rfl (Nat.le_of_ble_eq_true rfl) (vc_Jx4a65c_get_915e3 ?_)
  refine c_objCheck (nI_pos (by omega)) ?_ ?_
  · obtain ⟨a, -, h2, -⟩ := hA
    rw [h2]
    exact nI_lt hi (by omega)
  · exact c_elementData hA hi h
theorem c_newLength {n : Nat} (hn : 10 ≤ n) (hb : n ≤ 1000000) (h : post (some (xI (nI (n + n / 2)))) σ) : AMet G l M_J8_newLength_cabcc (d + 1) 0 0 [xI (nI n), xI (nI 1), xI (nI (n / 2))] σ post := by
  refine AMet.of rfl (Nat.le_of_ble_eq_true rfl) (vc_J8_newLength_cabcc ?_)
  rw [if_pos (nI_lt (by omega) (by omega))]
  refine ⟨fun c => ?_, fun _ => ⟨fun c => ?_, fun _ => ?_⟩⟩
  · rw [nI_add] at c
    exact absurd c (nI_nle (by omega) (by omega))
  · rw [nI_add] at c
    exact absurd c (show ¬ nI 2147483639 < nI (n + n / 2) from nI_nlt (by omega) (by decide))
  · show post (some (xI (nI n + nI (n / 2)))) σ
    rw [nI_add]
    exact h
/-- Arrays.copyOf of a row of Objects: longer by so much -/
theorem c_copyOf3 {a N : Nat} (ha : a < cnt σ 23) (hN : N ≤ 1000000 + 500000) (hle : gN σ 23 a ≤ N) (hob : ∀ j, inObj (gQ σ 23 a j)) (hk : 1 ≤ kk) (hn : N ≤ nn) (h : post (some (xR (some (23, cnt σ 23)))) (cpyS (nA σ 23 N) a 0 0 (gN σ 23 a) (cnt σ 23))) : AMet G l M_J7_copyOf_6403c (d + 1) kk nn [xR (some (23, a)), xI (nI N), xR (some (31, 0))] σ post := by
  obtain ⟨k0, rfl⟩ : ∃ k0, kk = k0 + 1 := ⟨kk - 1, by omega⟩
  obtain ⟨n0, rfl⟩ : ∃ n0, nn = n0 + N := ⟨nn - N, by omega⟩
  have hgN : gN (nA σ 23 N) 23 a = gN σ 23 a := by rw [gN_nA, if_neg (fun e => by have := e.2; omega)]
  refine AMet.of rfl (Nat.le_of_ble_eq_true rfl) (vc_J7_copyOf_6403c ⟨fun c => absurd rfl c, fun _ => ⟨N, k0, n0, nI_clamp (by omega), nI_pos (by omega), by omega, rfl, rfl, ?_⟩⟩)
  rw [hgN]
  have e1 : (if nI N < nI (gN σ 23 a) then nI N else nI (gN σ 23 a)) = nI (gN σ 23 a) := if_neg (nI_nlt hle (by omega))
  rw [e1]
  have e0 : (0 : Int32).toNatClampNeg = 0 := by decide
  have e2 : (nI (gN σ 23 a)).toNatClampNeg = gN σ 23 a := nI_clamp (by omega)
  refine ⟨by omega, by decide, by decide, nI_pos (by omega), ?_, ?_, ?_, ?_⟩
  · rw [e0, e2]; omega
  · rw [e0, e2, gN_nA, if_pos ⟨rfl, rfl⟩]; omega
  · intro j
    rw [gQ_nA, if_neg (fun e => by have := e.2; omega)]
    exact hob j
  · rw [e0, e2]
    exact h
theorem c_copyOf2 {a N : Nat} (ha : a < cnt σ 23) (hN : N ≤ 1000000 + 500000) (hle : gN σ 23 a ≤ N) (hob : ∀ j, inObj (gQ σ 23 a j)) (hk : 1 ≤ kk) (hn : N ≤ nn) (h : post (some (xR (some (23, cnt σ 23)))) (cpyS (nA σ 23 N) a 0 0 (gN σ 23 a) (cnt σ 23))) : AMet G l M_J7_copyOf_1904c (d + 2) kk nn [xR (some (23, a)), xI (nI N)] σ post :=
  AMet.of rfl (Nat.le_of_ble_eq_true rfl) (vc_J7_copyOf_1904c ⟨kk, nn, 0, 0, (Nat.zero_add _).symm, (Nat.zero_add _).symm, c_copyOf3 ha hN hle hob hk hn h⟩)
/-- the row of list q has grown -/
def grown (σ : AS) (q a : Nat) : AS := sR (cpyS (nA σ 23 (ncap (gN σ 23 a))) a 0 0 (gN σ 23 a) (cnt σ 23)) 0 1 q (some (23, cnt σ 23))
theorem shr1 (n : Nat) (h : n < 2 ^ 31) : nI n >>> ((1 : Int32) &&& 31) = nI (n / 2) := by
  have k := pk_shrN (n := n) h ((1 : Int32) &&& 31) 1 (by decide)
  rw [Nat.pow_one] at k
  exact k
theorem c_grow1 {q n : Nat} {e : Nat → Nm} {a : Nat} (hA : AL σ q n e) (ha : gR σ 0 1 q = some (23, a)) (hfull : gN σ 23 a = n) (hk : 1 ≤ kk) (hn : ncap n ≤ nn) (h : ∀ σ', (∀ x, x ≠ 23 → eqK (grown σ q a) σ' x) → cnt σ' 23 = cnt σ 23 + 1 → (∀ i, gN σ' 23 i = gN (grown σ q a) 23 i) → (∀ i j, gQ σ' 23 i j = gQ (grown σ q a) 23 i j) → post (some (xR (some (23, cnt σ 23)))) σ') : AMet G l M_Jx4a65c_grow_92f84 (d + 3) kk nn [xR (some (0, q)), xI (nI (n + 1))] σ post := by
  obtain ⟨a', h1, h2, h3, h4, h5, h6, h7, h8⟩ := hA
  cases ha.symm.trans h1
  have hkk : kk = 0 + kk := (Nat.zero_add _).symm
  have hnn : nn = 0 + nn := (Nat.zero_add _).symm
  have hgr : 10 ≤ n → ∀ {P : Option AVal → AS → Prop}, (∀ x, P (some (xR x)) = P (some (xR x))) → True := fun _ _ _ => trivial
  have hcase : n = 0 ∧ a = 0 ∨ a ≠ 0 ∧ 10 ≤ n := by
    rcases h7 with ⟨e1, e2⟩ | ⟨e1, e2⟩
    · exact Or.inl ⟨by omega, e1⟩
    · exact Or.inr ⟨e1, by omega⟩
  refine AMet.of rfl (Nat.le_of_ble_eq_true rfl) (vc_Jx4a65c_grow_92f84 ⟨a, h1, ?_⟩)
  rw [hfull]
  have e1 : nI (n + 1) - nI n = nI 1 := by
    rw [pk_sub (by omega)]
    congr 1
    omega
  have big : 10 ≤ n → AMet G l M_J8_newLength_cabcc (d + 2) 0 0 [xI (nI n), xI (nI (n + 1) - nI n), xI (nI n >>> (1 &&& 31))] σ (retI fun x3 σ2 => ∃ mc7 ms8 kk5 nn6 : Nat, kk = kk5 + mc7 ∧ nn = nn6 + ms8 ∧ AMet G l M_J7_copyOf_1904c (d + 2) mc7 ms8 [xR (gR σ2 0 1 q), xI x3] σ2 (retR fun r9 σ4 => post (some (xR r9)) (sR σ4 0 1 q r9))) := by
    intro h10
    rw [e1, shr1 n (by omega)]
    refine c_newLength h10 (by omega) ?_
    refine ⟨kk, nn, 0, 0, hkk, hnn, ?_⟩
    rw [h1]
    have hnc : ncap n = n + n / 2 := if_neg (by omega)
    refine c_copyOf2 h8 (by omega) (by omega) h6 hk (by rw [← hnc]; exact hn) ?_
    refine h _ (fun x _ => ?_) ?_ (fun i => ?_) (fun i j => ?_)
    · unfold grown; rw [hfull, hnc]; exact eqK.rf
    · show cnt (nA σ 23 (n + n / 2)) 23 = _
      rw [cnt_nA, if_pos rfl]
    · unfold grown; rw [hfull, hnc]
    · unfold grown; rw [hfull, hnc]
  rcases hcase with ⟨rfl, rfl⟩ | ⟨h0, h10⟩
  · refine ⟨fun c => absurd c (by decide), fun _ => ⟨fun _ => ?_, fun c => absurd rfl c⟩⟩
    have e10 : (if (10 : Int32) < nI (0 + 1) then nI (0 + 1) else 10) = nI 10 := by decide
    rw [e10]
    obtain ⟨k0, rfl⟩ : ∃ k0, kk = k0 + 1 := ⟨kk - 1, by omega⟩
    obtain ⟨n0, rfl⟩ : ∃ n0, nn = n0 + 10 := ⟨nn - 10, by have : ncap 0 = 10 := rfl; omega⟩
    refine ⟨10, k0, n0, by decide, by decide, by decide, rfl, rfl, ?_⟩
    have hg : ∀ x y j, gQ (cpyS (nA σ 23 10) 0 0 0 0 (cnt σ 23)) x y j = gQ (nA σ 23 10) x y j := fun x y j => by rw [gQ_cpy, if_neg (fun e => by omega)]
    have hn10 : ncap (gN σ 23 0) = 10 := by rw [hfull]; rfl
    refine h _ (fun x hx => ?_) ?_ (fun i => ?_) (fun i j => ?_)
    · unfold grown
      rw [hn10, hfull]
      exact ⟨rfl, fun _ _ => rfl, fun _ _ => rfl, fun _ => rfl, fun _ _ => rfl, fun i j => (hg x i j).symm, fun _ _ => rfl⟩
    · show cnt (nA σ 23 10) 23 = _
      rw [cnt_nA, if_pos rfl]
    · unfold grown; rw [hn10, hfull]; rfl
    · unfold grown; rw [hn10, hfull]; exact (hg 23 i j).symm
  · refine ⟨fun _ => big h10, fun c => absurd (show nI 0 < nI n from nI_lt (by omega) (by omega)) c⟩
/-- an element was put behind list q -/
def LAdd (σ σ' : AS) (q : Nat) : Prop := sameK (fun c => c ≠ 0 ∧ c ≠ 23) σ σ' ∧ cnt σ' 0 = cnt σ 0 ∧ LW σ' ∧ (∀ q' n e, q' ≠ q → q' < cnt σ 0 → AL σ q' n e → AL σ' q' n e) ∧ (∀ q', q' ≠ q → q' < cnt σ 0 → lcap σ' q' = lcap σ q')
theorem lcap_of {q a : Nat} (h : gR σ 0 1 q = some (23, a)) : lcap σ q = gN σ 23 a := by unfold lcap; rw [h]
/-- list q's element n set, its size n + 1; σ1: the state in which the row has room -/
theorem ladd_of {σ1 : AS} {q n b : Nat} {e : Nat → Nm} {x : Nm} (hW : LW σ) (hq : q < cnt σ 0) (hx : x.1 < 14) (hn : n < 1000000) (k0 : sameK (fun c => c ≠ 0 ∧ c ≠ 23) σ σ1) (k1 : cnt σ1 0 = cnt σ 0) (k2 : ∀ q', q' ≠ q → gI σ1 0 2 q' = gI σ 0 2 q') (k3 : ∀ q', gR σ1 0 1 q' = if q' = q then some (23, b) else gR σ 0 1 q') (k4 : cnt σ 23 ≤ cnt σ1 23 ∧ b < cnt σ1 23 ∧ b ≠ 0)
    (k5 : ∀ a, a ≠ b → a < cnt σ 23 → gN σ1 23 a = gN σ 23 a ∧ ∀ j, gQ σ1 23 a j = gQ σ 23 a j) (k6 : n < gN σ1 23 b ∧ gN σ1 23 b ≤ 1000000 ∧ 10 ≤ gN σ1 23 b) (k7 : ∀ i, i < n → gQ σ1 23 b i = some (e i)) (k8 : ∀ j, inObj (gQ σ1 23 b j)) (k9 : ∀ q', q' ≠ q → q' < cnt σ 0 → gR σ 0 1 q' ≠ some (23, b)) :
    LAdd σ (sI (sQ σ1 23 b n (some x)) 0 2 q (nI (n + 1))) q ∧ AL (sI (sQ σ1 23 b n (some x)) 0 2 q (nI (n + 1))) q (n + 1) (fun i => if i = n then x else e i) ∧ lcap (sI (sQ σ1 23 b n (some x)) 0 2 q (nI (n + 1))) q = gN σ1 23 b := by
  have hR : ∀ q', gR (sI (sQ σ1 23 b n (some x)) 0 2 q (nI (n + 1))) 0 1 q' = if q' = q then some (23, b) else gR σ 0 1 q' := fun q' => k3 q'
  have hself : AL (sI (sQ σ1 23 b n (some x)) 0 2 q (nI (n + 1))) q (n + 1) (fun i => if i = n then x else e i) := by
    refine ⟨b, by rw [hR, if_pos rfl], by rw [gI_sI, if_pos ⟨rfl, rfl, rfl⟩], k6.1, k6.2.1, fun i hi => ?_, fun j => ?_, Or.inr ⟨k4.2.2, k6.2.2⟩, k4.2.1⟩
    · rw [gQ_sI, gQ_sQ]
      by_cases hin : i = n
      · rw [if_pos ⟨rfl, rfl, hin⟩]
        exact congrArg some (if_pos hin).symm
      · rw [if_neg (fun z => hin z.2.2)]
        exact (k7 i (by omega)).trans (congrArg some (if_neg hin).symm)
    · rw [gQ_sI, gQ_sQ]
      split
      · intro m hm
        cases hm
        exact hx
      · exact k8 j
  have hoth : ∀ q' m f, q' ≠ q → q' < cnt σ 0 → AL σ q' m f → AL (sI (sQ σ1 23 b n (some x)) 0 2 q (nI (n + 1))) q' m f := by
    rintro q' m f hne hlt ⟨a, h1, h2, h3, h4, h5, h6, h7, h8⟩
    have hab : a ≠ b := fun z => k9 q' hne hlt (by rw [h1, z])
    obtain ⟨g1, g2⟩ := k5 a hab h8
    have gq : ∀ j, gQ (sI (sQ σ1 23 b n (some x)) 0 2 q (nI (n + 1))) 23 a j = gQ σ 23 a j := fun j => by rw [gQ_sI, gQ_sQ, if_neg (fun z => hab z.2.1)]; exact g2 j
    refine ⟨a, by rw [hR, if_neg hne]; exact h1, by rw [gI_sI, if_neg (fun z => hne z.2.2)]; exact (k2 q' hne).trans h2, ?_, ?_, fun i hi => (gq i).trans (h5 i hi), fun j => by rw [gq]; exact h6 j, ?_, Nat.lt_of_lt_of_le h8 k4.1⟩
    · show m ≤ gN σ1 23 a
      rw [g1]; exact h3
    · show gN σ1 23 a ≤ 1000000
      rw [g1]; exact h4
    · show (a = 0 ∧ gN σ1 23 a = 0) ∨ (a ≠ 0 ∧ 10 ≤ gN σ1 23 a)
      rw [g1]; exact h7
  have hcap : ∀ q', q' ≠ q → q' < cnt σ 0 → lcap (sI (sQ σ1 23 b n (some x)) 0 2 q (nI (n + 1))) q' = lcap σ q' := by
    intro q' hne hlt
    obtain ⟨m, f, a, h1, h2, h3, h4, h5, h6, h7, h8⟩ := hW.1 q' hlt
    have hab : a ≠ b := fun z => k9 q' hne hlt (by rw [h1, z])
    rw [lcap_of h1, lcap_of (a := a) (by rw [hR, if_neg hne]; exact h1)]
    exact (k5 a hab h8).1
  have h00 := k5 0 (Ne.symm k4.2.2) hW.2.2.2.1
  refine ⟨⟨fun c hc => (k0 c hc).tr ((eqK_sQ hc.2).tr (eqK_sI hc.1)), k1, ⟨fun q' hlt => ?_, fun q1 q2 h1 h2 he => ?_, h00.1.trans hW.2.2.1, Nat.lt_of_lt_of_le hW.2.2.2.1 k4.1, fun j => ?_⟩, hoth, hcap⟩, hself, lcap_of (by rw [hR, if_pos rfl])⟩
  · have hlt' : q' < cnt σ 0 := k1 ▸ hlt
    by_cases hne : q' = q
    · subst hne
      exact ⟨_, _, hself⟩
    · obtain ⟨m, f, h⟩ := hW.1 q' hlt'
      exact ⟨m, f, hoth q' m f hne hlt' h⟩
  · have h1' : q1 < cnt σ 0 := k1 ▸ h1
    have h2' : q2 < cnt σ 0 := k1 ▸ h2
    rw [hR, hR] at he
    rw [hR]
    by_cases e1 : q1 = q
    · by_cases e2 : q2 = q
      · exact Or.inl (e1.trans e2.symm)
      · rw [if_pos e1, if_neg e2] at he
        exact absurd he.symm (k9 q2 e2 h2')
    · by_cases e2 : q2 = q
      · rw [if_neg e1, if_pos e2] at he
        exact absurd he (k9 q1 e1 h1')
      · rw [if_neg e1, if_neg e2] at he
        rw [if_neg e1]
        exact hW.2.1 q1 q2 h1' h2' he
  · rw [gQ_sI, gQ_sQ, if_neg (fun z => k4.2.2 z.2.1.symm), h00.2]
    exact hW.2.2.2.2 j
theorem c_add3 {q n a : Nat} {e : Nat → Nm} {x : Nm} (hW : LW σ) (hq : q < cnt σ 0) (hA : AL σ q n e) (ha : gR σ 0 1 q = some (23, a)) (hx : x.1 < 14) (hn : n < 500000) (hroom : n < lcap σ q ∨ (1 ≤ kk ∧ ncap n ≤ nn)) (h : ∀ σ', LAdd σ σ' q → AL σ' q (n + 1) (fun i => if i = n then x else e i) → lcap σ' q = (if n < lcap σ q then lcap σ q else ncap n) → post none σ') : AMet G l M_Jx4a65c_add_72be8 (d + 5) kk nn [xR (some (0, q)), xR (some x), xR (some (23, a)), xI (nI n)] σ post := by
  have hA0 := hA
  obtain ⟨a', h1, h2, h3, h4, h5, h6, h7, h8⟩ := hA
  cases ha.symm.trans h1
  rw [lcap_of h1] at hroom h
  have k9 : a ≠ 0 → ∀ q', q' ≠ q → q' < cnt σ 0 → gR σ 0 1 q' ≠ some (23, a) := fun h0 q' hne hlt z => by
    rcases hW.2.1 q' q hlt hq (z.trans h1.symm) with g | g
    · exact hne g
    · rw [z] at g
      exact h0 (by simpa using g)
  have hob : inObj (some x) := fun m hm => by cases hm; exact hx
  refine AMet.of rfl (Nat.le_of_ble_eq_true rfl) (vc_Jx4a65c_add_72be8 ⟨fun c => ?_, fun c => ?_⟩)
  · have hlt : n < gN σ 23 a := by
      rcases Nat.lt_or_ge n (gN σ 23 a) with g | g
      · exact g
      · exact absurd (congrArg nI (show n = gN σ 23 a by omega)) c
    have ha0 : a ≠ 0 := fun z => by rcases h7 with g | g <;> omega
    refine ⟨vp_in_nI hlt (by omega), hob, ?_⟩
    rw [nI_clamp (by omega), nI_1]
    obtain ⟨r1, r2, r3⟩ := ladd_of (σ1 := σ) (b := a) hW hq hx (n := n) (e := e) (by omega) sameK.rf rfl (fun _ _ => rfl) (fun q' => by
      by_cases z : q' = q
      · rw [if_pos z, z]; exact h1
      · rw [if_neg z]) ⟨Nat.le_refl _, h8, ha0⟩ (fun _ _ _ => ⟨rfl, fun _ => rfl⟩) ⟨hlt, h4, by rcases h7 with g | g <;> omega⟩ h5 h6 (k9 ha0)
    exact h _ r1 r2 (by rw [if_pos hlt]; exact r3)
  · have hfull : gN σ 23 a = n := ((nI_eq (by omega) (by omega)).mp c).symm
    have hk : 1 ≤ kk ∧ ncap n ≤ nn := by
      rcases hroom with g | g
      · omega
      · exact g
    refine ⟨kk, nn, 0, 0, (Nat.zero_add _).symm, (Nat.zero_add _).symm, ?_⟩
    refine AMet.of rfl (Nat.le_of_ble_eq_true rfl) (vc_Jx4a65c_grow_d5877 ⟨kk, nn, 0, 0, (Nat.zero_add _).symm, (Nat.zero_add _).symm, ?_⟩)
    rw [h2, nI_1]
    refine c_grow1 hA0 h1 hfull hk.1 hk.2 (fun σ1 g1 g2 g3 g4 => ⟨cnt σ 23, rfl, ?_⟩)
    have hb : cnt σ 23 ≠ 0 := by omega
    have hnc : n < ncap n ∧ 10 ≤ ncap n ∧ ncap n ≤ 1000000 := by
      unfold ncap
      split
      · omega
      · have : 10 ≤ n := by rcases h7 with g | g <;> omega
        omega
    have hgN : gN σ1 23 (cnt σ 23) = ncap n := by
      rw [g3]
      show gN (nA σ 23 (ncap (gN σ 23 a))) 23 (cnt σ 23) = _
      rw [gN_nA, if_pos ⟨rfl, rfl⟩, hfull]
    have hold : ∀ a', a' ≠ cnt σ 23 → gN σ1 23 a' = gN σ 23 a' ∧ ∀ j, gQ σ1 23 a' j = gQ σ 23 a' j := by
      intro a' hne
      refine ⟨?_, fun j => ?_⟩
      · rw [g3]
        show gN (nA σ 23 (ncap (gN σ 23 a))) 23 a' = _
        rw [gN_nA, if_neg (fun z => hne z.2)]
      · rw [g4]
        show gQ (cpyS (nA σ 23 (ncap (gN σ 23 a))) a 0 0 (gN σ 23 a) (cnt σ 23)) 23 a' j = _
        rw [gQ_cpy, if_neg (fun z => hne z.2.1), gQ_nA, if_neg (fun z => hne z.2)]
    have hnewq : ∀ j, gQ σ1 23 (cnt σ 23) j = if j < n then gQ σ 23 a j else none := by
      intro j
      rw [g4]
      show gQ (cpyS (nA σ 23 (ncap (gN σ 23 a))) a 0 0 (gN σ 23 a) (cnt σ 23)) 23 (cnt σ 23) j = _
      rw [gQ_cpy, hfull]
      by_cases hj : j < n
      · rw [if_pos ⟨rfl, rfl, Nat.zero_le _, by omega⟩, if_pos hj, gQ_nA, if_neg (fun z => by have := z.2; omega)]
        congr 1
        omega
      · rw [if_neg (fun z => by omega), if_neg hj, gQ_nA, if_pos ⟨rfl, rfl⟩]
    refine ⟨by rw [hgN]; exact vp_in_nI hnc.1 (by omega), hob, ?_⟩
    rw [nI_clamp (by omega)]
    have e0 := g1 0 (by decide)
    have p1 : sameK (fun c => c ≠ 0 ∧ c ≠ 23) σ σ1 := by
      intro c hc
      refine eqK.tr ?_ (g1 c hc.2)
      unfold grown
      exact (eqK_nA hc.2).tr ((eqK_cpy hc.2).tr (eqK_sR hc.1))
    have p2 : cnt σ1 0 = cnt σ 0 := by
      refine e0.1.trans ?_
      show cnt (nA σ 23 (ncap (gN σ 23 a))) 0 = _
      rw [cnt_nA, if_neg (by decide)]
    have p3 : ∀ q', q' ≠ q → gI σ1 0 2 q' = gI σ 0 2 q' := by
      intro q' _
      rw [e0.2.1]
      show gI (nA σ 23 (ncap (gN σ 23 a))) 0 2 q' = _
      rw [gI_nA, if_neg (fun z => absurd z.1 (by decide))]
    have p4 : ∀ q', gR σ1 0 1 q' = if q' = q then some (23, cnt σ 23) else gR σ 0 1 q' := by
      intro q'
      rw [e0.2.2.1]
      unfold grown
      rw [gR_sR]
      by_cases hqq : q' = q
      · rw [if_pos ⟨rfl, rfl, hqq⟩, if_pos hqq]
      · rw [if_neg (fun z => hqq z.2.2), if_neg hqq]
        show gR (nA σ 23 (ncap (gN σ 23 a))) 0 1 q' = _
        rw [gR_nA, if_neg (fun z => absurd z.1 (by decide))]
    have p5 : ∀ j, inObj (gQ σ1 23 (cnt σ 23) j) := by
      intro j
      rw [hnewq]
      split
      · exact h6 j
      · exact fun m hm => by cases hm
    have p6 : ∀ q', q' ≠ q → q' < cnt σ 0 → gR σ 0 1 q' ≠ some (23, cnt σ 23) := by
      intro q' hne hlt z
      obtain ⟨m, f, a2, q1, -, -, -, -, -, -, q8⟩ := hW.1 q' hlt
      rw [z] at q1
      have : cnt σ 23 = a2 := by simpa using q1
      omega
    obtain ⟨r1, r2, r3⟩ := ladd_of (σ1 := σ1) (b := cnt σ 23) hW hq hx (n := n) (e := e) (by omega) p1 p2 p3 p4 ⟨by omega, by omega, hb⟩ (fun a' hne _ => hold a' hne) ⟨by rw [hgN]; exact hnc.1, by rw [hgN]; exact hnc.2.2, by rw [hgN]; exact hnc.2.1⟩ (fun i hi => by rw [hnewq, if_pos hi]; exact h5 i hi) p5 p6
    exact h _ r1 r2 (by rw [if_neg (by omega), r3, hgN])
theorem AL.mod {q n : Nat} {e : Nat → Nm} {p : Nat} {v : Int32} (h : AL σ q n e) : AL (sI σ 0 0 p v) q n e := by
  obtain ⟨a, h1, h2, h3⟩ := h
  exact ⟨a, h1, by rw [gI_sI, if_neg (fun z => absurd z.2.1 (by decide))]; exact h2, h3⟩
theorem LW.mod {p : Nat} {v : Int32} (h : LW σ) : LW (sI σ 0 0 p v) := ⟨fun q hq => by obtain ⟨n, e, g⟩ := h.1 q hq; exact ⟨n, e, g.mod⟩, h.2⟩
theorem LAdd.mod {σ' : AS} {q p : Nat} {v : Int32} (h : LAdd (sI σ 0 0 p v) σ' q) : LAdd σ σ' q := ⟨fun c hc => (eqK_sI hc.1).tr (h.1 c hc), h.2.1, h.2.2.1, fun q' n e hne hlt hA => h.2.2.2.1 q' n e hne hlt hA.mod, h.2.2.2.2⟩
theorem c_add {q n : Nat} {e : Nat → Nm} {x : Nm} (hW : LW σ) (hq : q < cnt σ 0) (hA : AL σ q n e) (hx : x.1 < 14) (hn : n < 500000) (hroom : n < lcap σ q ∨ (1 ≤ kk ∧ ncap n ≤ nn)) (h : ∀ σ', LAdd σ σ' q → AL σ' q (n + 1) (fun i => if i = n then x else e i) → lcap σ' q = (if n < lcap σ q then lcap σ q else ncap n) → post (some (xI 1)) σ') : AMet G l M_Jx4a65c_add_9ea2d (d + 6) kk nn [xR (some (0, q)), xR (some x)] σ post := by
  refine AMet.of rfl (Nat.le_of_ble_eq_true rfl) (vc_Jx4a65c_add_9ea2d ⟨kk, nn, 0, 0, (Nat.zero_add _).symm, (Nat.zero_add _).symm, ?_⟩)
  obtain ⟨a, h1, h2, h3⟩ := hA
  rw [h1, h2]
  exact c_add3 hW.mod hq (AL.mod ⟨a, h1, h2, h3⟩) h1 hx hn hroom (fun σ' g1 g2 g3 => h σ' g1.mod g2 g3)
theorem c_acInit {q : Nat} (h : post none σ) : AMet G l M_Jxa1e45_init_da8c8 (d + 1) 0 0 [xR (some (0, q))] σ post := AMet.of rfl (Nat.le_of_ble_eq_true rfl) (vc_Jxa1e45_init_da8c8 h)
theorem c_absInit {q : Nat} (h : post none (sI σ 0 0 q 0)) : AMet G l M_Jxc12de_init_da8c8 (d + 2) 0 0 [xR (some (0, q))] σ post := AMet.of rfl (Nat.le_of_ble_eq_true rfl) (vc_Jxc12de_init_da8c8 (c_acInit h))
theorem c_listInit {q : Nat} (h : post none (sR (sI σ 0 0 q 0) 0 1 q (some (23, 0)))) : AMet G l M_Jx4a65c_init_da8c8 (d + 3) 0 0 [xR (some (0, q))] σ post := AMet.of rfl (Nat.le_of_ble_eq_true rfl) (vc_Jx4a65c_init_da8c8 (c_absInit h))
/-- a new list -/
def newL (σ : AS) : AS := sR (sI (nO σ 0) 0 0 (cnt σ 0) 0) 0 1 (cnt σ 0) (some (23, 0))
theorem newL_old {q n : Nat} {e : Nat → Nm} (hq : q < cnt σ 0) (h : AL σ q n e) : AL (newL σ) q n e := by
  obtain ⟨a, h1, h2, h3, h4, h5, h6, h7, h8⟩ := h
  have h23 : eqK σ (newL σ) 23 := (eqK_nO (by decide)).tr ((eqK_sI (by decide)).tr (eqK_sR (by decide)))
  obtain ⟨k3, -, -, k4, -, k5, -⟩ := h23
  refine ⟨a, ?_, ?_, by rw [k4]; exact h3, by rw [k4]; exact h4, fun i hi => by rw [k5]; exact h5 i hi, fun j => by rw [k5]; exact h6 j, by rw [k4]; exact h7, by rw [k3]; exact h8⟩
  · unfold newL
    rw [gR_sR, if_neg (fun z => by have := z.2.2; omega), gR_sI, gR_nO, if_neg (fun z => by have := z.2; omega)]
    exact h1
  · unfold newL
    rw [gI_sR, gI_sI, if_neg (fun z => by have := z.2.2; omega), gI_nO, if_neg (fun z => by have := z.2; omega)]
    exact h2
theorem newL_self (hW : LW σ) (e : Nat → Nm) : AL (newL σ) (cnt σ 0) 0 e := by
  have h23 : eqK σ (newL σ) 23 := (eqK_nO (by decide)).tr ((eqK_sI (by decide)).tr (eqK_sR (by decide)))
  obtain ⟨k3, -, -, k4, -, k5, -⟩ := h23
  refine ⟨0, ?_, ?_, Nat.zero_le _, by rw [k4, hW.2.2.1]; decide, fun i hi => absurd hi (Nat.not_lt_zero i), fun j => by rw [k5]; exact hW.2.2.2.2 j, Or.inl ⟨rfl, by rw [k4]; exact hW.2.2.1⟩, by rw [k3]; exact hW.2.2.2.1⟩
  · unfold newL; rw [gR_sR, if_pos ⟨rfl, rfl, rfl⟩]
  · unfold newL; rw [gI_sR, gI_sI, if_neg (fun z => absurd z.2.1 (by decide)), gI_nO, if_pos ⟨rfl, rfl⟩]; rfl
theorem newL_cnt : cnt (newL σ) 0 = cnt σ 0 + 1 := by show cnt (nO σ 0) 0 = _; rw [cnt_nO, if_pos rfl]
theorem newL_gR (q : Nat) : gR (newL σ) 0 1 q = if q = cnt σ 0 then some (23, 0) else gR σ 0 1 q := by
  unfold newL
  rw [gR_sR, gR_sI, gR_nO]
  by_cases h : q = cnt σ 0
  · rw [if_pos ⟨rfl, rfl, h⟩, if_pos h]
  · rw [if_neg (fun z => h z.2.2), if_neg h, if_neg (fun z => h z.2)]
theorem newL_LW (hW : LW σ) : LW (newL σ) := by
  have h23 : eqK σ (newL σ) 23 := (eqK_nO (by decide)).tr ((eqK_sI (by decide)).tr (eqK_sR (by decide)))
  obtain ⟨k3, -, -, k4, -, k5, -⟩ := h23
  refine ⟨fun q hq => ?_, fun q q' hq hq' he => ?_, by rw [k4]; exact hW.2.2.1, by rw [k3]; exact hW.2.2.2.1, fun j => by rw [k5]; exact hW.2.2.2.2 j⟩
  · rw [newL_cnt] at hq
    by_cases h : q = cnt σ 0
    · exact ⟨0, fun _ => (0, 0), h ▸ newL_self hW _⟩
    · obtain ⟨n, e, g⟩ := hW.1 q (by omega)
      exact ⟨n, e, newL_old (by omega) g⟩
  · rw [newL_cnt] at hq hq'
    rw [newL_gR, newL_gR] at he
    rw [newL_gR]
    by_cases h : q = cnt σ 0
    · exact Or.inr (if_pos h)
    · by_cases h' : q' = cnt σ 0
      · rw [if_neg h, if_pos h'] at he
        exact Or.inr (by rw [if_neg h]; exact he)
      · rw [if_neg h, if_neg h'] at he
        rw [if_neg h]
        exact hW.2.1 q q' (by omega) (by omega) he
/-- clear -/
def LClr (σ σ' : AS) (q : Nat) : Prop := sameK (fun c => c ≠ 0 ∧ c ≠ 23) σ σ' ∧ cnt σ' 0 = cnt σ 0 ∧ LW σ' ∧ (∀ q' n e, q' ≠ q → q' < cnt σ 0 → AL σ q' n e → AL σ' q' n e) ∧ (∀ q', q' < cnt σ 0 → lcap σ' q' = lcap σ q')
end LISTS
