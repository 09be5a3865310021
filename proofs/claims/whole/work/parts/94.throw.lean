/-! Throwing, catching. -/
section AX2
variable {G : GG} {l : Launch} {M : Mth} {d : Nat} {post : Option AVal → AS → Prop} {px : AS → Prop} {tb : Code → Prop} {σ : AS} {kk nn pc : Nat} {L : List (Option AVal)} {st : List AVal}
/-- cells that were not there before do no harm -/
theorem Rep.grow {ad : Nat → Nat → Nat} {H H1 : Heap} (hR : Rep G ad σ H) (hz : H.size ≤ H1.size) (hk : ∀ z : Nat, z < H.size → H1[z]? = H[z]?) : Rep G ad σ H1 := by
  obtain ⟨h1, h2, h3, h4, h5, h6, h7, h8⟩ := hR
  exact ⟨fun c i hi r hr => (h1 c i hi r hr).kept (hk _ ((h4 c i hi).1 (by have := cls_lt hr; omega))), fun c i a b hi => (hk _ ((h4 c i hi).1 (by omega))).trans (h2 c i a b hi), h3, fun c i hi => ⟨fun q => Nat.lt_of_lt_of_le ((h4 c i hi).1 q) hz, (h4 c i hi).2⟩, ⟨Nat.le_trans h5.1 hz, fun q hq => (hk q (Nat.lt_of_lt_of_le hq h5.1)).trans (h5.2 q hq)⟩, h6, h7, h8⟩
theorem ax_ret {x : Int32} {ty : FieldType} (hd : decode (mC M) pc = .ok (.ireturn, 1)) (hr : mR M = some ty) (hn : narrow ty (.int x) = .int x) (k : post (some (xI x)) σ) : AWX G l M d post px tb σ kk nn pc L [xI x] := by
  intro p e R s m args below meth co Qc ad H ls locs cells slots C hR hL hst hlo hc hs hQ
  refine vx_ret ?_
  refine W.widen (k := R.cells) (n := R.slots) (by omega) (by omega) ?_
  exact W.zret C.1 C.2.1 (C.2.2.2.1.trans hr) hn (fun t ht hW => hQ.1 (some (xI x)) ad σ t hW (by rw [ht]; exact hR) Ext.rf (fun w hw => by cases hw; trivial) k) hlo hd C.2.2.2.2.2.2.1
def nseL : List Cond := ax_words "ExtrasOffice" 208 nse "java/lang/RuntimeException" 13 prog_36_method_4_code ["java/lang/Exception"]
def nseB : List Cond := [.castable nse nse, .declares (Bundle.initS "java/lang/RuntimeException"), .declares (Bundle.initS "java/lang/Exception"), .declares (Bundle.initS "java/lang/Throwable")]
theorem nse_in : ∀ w ∈ (nseL.filter vx_no).filter goodWord, w ∈ lw_tbl ∧ goodWord w = true := by decide +kernel
theorem nse_out : ∀ w ∈ (nseL.filter vx_no).filter (fun w => !goodWord w), w ∈ nseB := by decide +kernel
theorem nse_link : Cond.classLink "ExtrasOffice" 204 nse ∈ lw_tbl ∧ goodWord (Cond.classLink "ExtrasOffice" 204 nse) = true ∧ Cond.initialized nse ∈ lw_tbl ∧ goodWord (Cond.initialized nse) = true := by decide +kernel
theorem nse_good : ∀ w ∈ Cond.classLink "ExtrasOffice" 204 nse :: Cond.initialized nse :: (nseL.filter vx_no), vx_ot w = true := by decide +kernel
theorem KX.use {args : Array Value} {s : State} (h : KX G s) : ∀ w ∈ nseB, w.before args s = true := by
  obtain ⟨h1, h2, h3, h4, -, -⟩ := h
  intro w hw
  unfold nseB at hw
  simp only [List.mem_cons, List.not_mem_nil, or_false] at hw
  rcases hw with rfl | rfl | rfl | rfl
  · exact va_Nw.use rfl h1
  · exact va_Nw.use rfl h2
  · exact va_Nw.use rfl h3
  · exact va_Nw.use rfl h4
set_option maxHeartbeats 1000000 in
/-- X11_seen throws -/
theorem ax_throw (hl : l.stackTraces = false) (h6 : 6 ≤ d) (k : px σ) : AWX G l M_X11_seen d post px (fun c => ∀ x ∈ c.exceptionTable.toList, False) σ (kk + 1) (nn + 6) 30 L [] := by
  intro p e R s m args below meth co Qc ad H ls locs cells slots C hR hL hst hlo hc hs hQ
  have hts := C.2.2.2.2.2.1
  have K := C.2.2.2.2.2.2.2.2.1
  have hfr := C.2.2.2.2.2.2.2.2.2
  have X := K.2.2.2.2.2.2.2.2.2.1
  have hstr := K.2.2.2.2.2.1 ("ExtrasOffice", 206, "no such person, scene or number of facts", 20) (by decide)
  have keep : ∀ a : Nat, a < (gH G).size → ¬ gA0 G a → H[a]? = (gH G)[a]? := fun a _ h => hR.2.2.2.2.1.2 a (Nat.not_le.mp h)
  have nl := nse_link
  refine ax_make (sup := "java/lang/RuntimeException") (names := ["java/lang/Exception"]) (own := "ExtrasOffice") (cls := nse) (A := gA0 G) (ic := 208) (is := 206) (ix := 13) (rx := prog_36_method_4_code) (cc := mC M_X11_seen) C.1 C.2.1 hl (by decide +kernel) (by decide +kernel) (by decide +kernel) (by decide +kernel) C.2.2.2.2.1 (by decide) (by decide) (by decide) (hts _ (tw_of nl.1 nl.2.1)) (hts _ (tw_of nl.2.2.1 nl.2.2.2)) hstr
    (vx_hat (B := nseB) (fun w hw => hts _ (tw_of (nse_in w hw).1 (nse_in w hw).2)) nse_out X.use) nse_good (X.2.2.2.2.1.kept keep) (X.2.2.2.2.2.kept keep) (hL.1.trans C.2.2.1.symm) d_X11_seen_30 d_X11_seen_33 d_X11_seen_34 d_X11_seen_36 (by have := hfr.1; show 1 + 4 < R.frames; omega) (by have := hfr.2; show 0 + (13 * (1 + 2) + 43) ≤ R.locals; omega) (by omega) (by omega) (fun q H1 ce hce hcv hcl hz hkp => ?_)
  refine vx_athrow C.1 C.2.1 d_X11_seen_39 ?_
  refine vx_out (fun x hx => absurd (hQ.2.2 x hx) id) C.2.2.2.2.2.2.1 hce hcv hcl (fun t ht hA => hQ.2.1 ad σ t hA (by rw [ht]; exact hR.grow hz hkp) Ext.rf k) hlo (by omega) (by omega)
end AX2
