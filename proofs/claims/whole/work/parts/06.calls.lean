/-! calls and new cells -/
theorem lw_good : ∀ w ∈ lw_g, (w.onTables && w.keeps) = true ∨ ∃ ty, w = .arrayClass ty := fun w hw => good_of_word (List.mem_filter.mp hw).2
/-- what the tables say of a method: its code, its class, how many parameters -/
def mok (j n : Nat) : Prop := Cond.code (mr j).1 (mr j).2.1 (mr j).2.2.1 (mr j).2.2.2 ∈ lw_g ∧ Cond.initialized (mr j).1.cls ∈ lw_g ∧ ((mr j).1.cls ≠ "java/lang/invoke/MethodHandle" ∧ (mr j).1.cls ≠ "java/lang/invoke/VarHandle" ∧ (parseMethodDescriptor (mr j).1.desc).map (fun d => d.parameters.length) = some n) ∧ (mr j).2.2.1 ≤ 45
def mokV (j n : Nat) : Prop := mok j n ∧ Cond.instanceMethod (mr j).1 ∈ lw_g ∧ Cond.selects (mr j).1.cls (mr j).1 (mr j).1 ∈ lw_g
def mokS (j n : Nat) : Prop := mok j n ∧ Cond.static (mr j).1 ∈ lw_g
def mokI (j n : Nat) : Prop := mok j n ∧ Cond.instanceMethod (mr j).1 ∈ lw_g ∧ (mr j).1.name = "<init>" ∧ (mr j).2.2.2 = none
theorem wsM_good {j n : Nat} (h : mok j n) : GoodIn lw_g (wsM j) := by
  intro w hw
  rcases List.mem_cons.mp hw with rfl | hw
  · exact ⟨h.1, lw_good _ h.1⟩
  · exact ⟨hw, lw_good _ hw⟩
section CALLS
variable {S : PS} {K mi pc : Nat} {L : List (Nat × PV)} {st : List PV} {ph ph' phE : PH} {M : PM} {Q : Option PV → PM → Prop}
theorem rvs_cat {B b : Nat} (h : (st.map pcat).sum ≤ 8) : ((st.map (rv B b)).map fun v => v.category).sum ≤ 8 := by
  rw [List.map_map, show (fun v => Value.category v) ∘ rv B b = pcat from funext (rv_cat B b)]
  exact h
theorem rvs_rev {B b : Nat} {As : List PV} : (As.reverse ++ st).map (rv B b) = (As.map (rv B b)).reverse ++ st.map (rv B b) := by
  rw [List.map_append, List.map_reverse]
/-- how the caller goes on, by the kind of the answer -/
def Goes4 (S : PS) (K mi pc : Nat) (L : List (Nat × PV)) (st : List PV) (ph' phE : PH) (Q : Option PV → PM → Prop) (t : Option FieldType) (q : Option PV → PM → Prop) : Prop := match t with
  | none => ∀ M', q none M' → G S (K + 1) mi (pc + 3) L st ph' phE M' Q
  | some .long => ∀ i M', q (some (.inr (.inl i))) M' → G S (K + 1) mi (pc + 3) L (.inr (.inl i) :: st) ph' phE M' Q
  | some (.object _) => ∀ a M', q (some (.inr (.inr a))) M' → G S (K + 1) mi (pc + 3) L (.inr (.inr a) :: st) ph' phE M' Q
  | some _ => ∀ i M', q (some (.inl i)) M' → G S (K + 1) mi (pc + 3) L (.inl i :: st) ph' phE M' Q
theorem call_ret {q : Option PV → PM → Prop} {t : Option FieldType} {l : Launch} {B b : Nat} {D : va_G} {cA : Nat → ClassId} {p : Program} {e : Env} {R : Room} {s : State} {m : MethodId} {args : Array Value} {below : List Frame} {meth : Method} {c : Code} {H0 : Heap} {c0 s0 : Nat} {Z : State → Prop} {H : Heap} {locs : List Loc} {cells slots mc ms : Nat} {ls : Array Slot} {st0 : List Value} {a : Array Value}
    (F : Fix S (K + 1) mi phE Q l B b D cA p e R s m args below meth c H0 c0 s0 Z) (hS : va_S (AB B) H0 H locs) (hl : lv_has ls (mr mi).2.2.1 (lcs B b L)) (hc : cells + mc + c0 = ph'.1) (hs : slots + ms + s0 = slp ph'.1)
    (hr : va_Run p l e R s m args below meth c H locs cells slots mc ms (F0 m pc ls st0) (st.map (rv B b)) (QcM t B D cA ph' q a) (AB B)) (go : Goes4 S K mi pc L st ph' phE Q t q) :
    W p l e R s m args below meth c H locs cells slots Z (F0 m pc ls st0) := by
  have hid : ∀ x : Nat, x < H.size → AB B x → AB B x := fun _ _ h => h
  have hid2 : ∀ x : Nat, AB B x → AB B x := fun _ h => h
  have fin : ∀ (M' : PM) (st' : List PV) (t' : State) (H1 : Heap) (locs1 : List Loc), t'.heap = H1 → s.vm.Alike t'.vm → bI B D cA ph' M' t' → va_S (AB B) H0 H1 locs1 → G S (K + 1) mi (pc + 3) L st' ph' phE M' Q → W p l e R s m args below meth c H1 locs1 (cells + mc) (slots + ms) Z (F0 m (pc + 3) ls (st'.map (rv B b))) := by
    intro M' st' t' H1 locs1 ht hvm hB hS1 hG
    exact hG l B b D cA p e R s m args below meth c H0 c0 s0 Z F H1 locs1 _ _ ls hS1 (by rw [← ht]; exact hB.1) hl hc hs
  cases t with
  | none => exact va_callv (a := a) (S := PM) (post := fun M => q none M) (B := bI B D cA ph') hr hS hid hid2 (fun u t' H1 locs1 ht hvm hq hB _ _ hS1 => fin u st t' H1 locs1 ht hvm hB hS1 (go u hq))
  | some ty =>
    cases ty with
    | long =>
      refine va_calll (a := a) (S := PM) hr hS hid hid2 (fun r u t' H1 locs1 ht hvm hq hB _ _ hS1 => ?_)
      obtain ⟨i, rfl, hq⟩ := hq
      exact fin u (.inr (.inl i) :: st) t' H1 locs1 ht hvm hB hS1 (go i u hq)
    | object n =>
      refine va_callr (a := a) (S := PM × Nat) hr hS hid hid2 (fun u ra t' H1 locs1 ht hvm hq hB _ _ hS1 => ?_)
      obtain ⟨rfl, ha, hB⟩ := hB
      have z := fin u.1 (.inr (.inr u.2) :: st) t' H1 locs1 ht hvm hB hS1 (go u.2 u.1 hq)
      rw [List.map_cons, rv_ref ha] at z
      exact z
    | _ =>
      refine va_calli (a := a) (S := PM) hr hS hid hid2 (fun r u t' H1 locs1 ht hvm hq hB _ _ hS1 => ?_)
      obtain ⟨i, rfl, hq⟩ := hq
      exact fin u (.inl i :: st) t' H1 locs1 ht hvm hB hS1 (go i u hq)
theorem pc_blind {A : List Value} {B : Nat} {D : va_G} {cA : Nat → ClassId} : FrameBlind (va_Pc A (fun U => Wd B D cA ph M U.heap ∧ va_K D classes (tys cA) U ∧ Nst U)) :=
  fun a U g mk q => ⟨q.1, q.2.1, va_K.moved (u := U) (U := U.calling g mk a) (Vm.Alike.refl U.vm) q.2.2.1, fun w hw => va_Nw.same (u := U) (U := U.calling g mk a) rfl rfl (q.2.2.2 w hw)⟩
theorem ph_room {l : Launch} {B b : Nat} {D : va_G} {cA : Nat → ClassId} {p : Program} {e : Env} {R : Room} {s : State} {m : MethodId} {args : Array Value} {below : List Frame} {meth : Method} {c : Code} {H0 : Heap} {c0 s0 : Nat} {Z : State → Prop} {cells slots : Nat}
    (F : Fix S (K + 1) mi phE Q l B b D cA p e R s m args below meth c H0 c0 s0 Z) (hph : ph.1 ≤ ph'.1 ∧ ph'.1 ≤ phE.1) (hc : cells + c0 = ph.1) (hs : slots + s0 = slp ph.1) :
    (cells + (ph'.1 - ph.1) ≤ R.cells ∧ slots + (slp ph'.1 - slp ph.1) ≤ R.slots) ∧ cells + (ph'.1 - ph.1) + c0 = ph'.1 ∧ slots + (slp ph'.1 - slp ph.1) + s0 = slp ph'.1 := by
  have h1 := slp_mono hph.1
  have h2 := slp_mono hph.2
  have h3 := F.2.2.2.2.2.2.2.2.2.1
  omega
theorem rm_room {l : Launch} {B b : Nat} {D : va_G} {cA : Nat → ClassId} {p : Program} {e : Env} {R : Room} {s : State} {m : MethodId} {args : Array Value} {below : List Frame} {meth : Method} {c : Code} {H0 : Heap} {c0 s0 mx : Nat} {Z : State → Prop}
    (F : Fix S (K + 1) mi phE Q l B b D cA p e R s m args below meth c H0 c0 s0 Z) (hm : mx ≤ 45) : (rmM K ph ph').frames + 1 ≤ R.frames ∧ 8 + (mx + 11) + (rmM K ph ph').locals ≤ R.locals := by
  have h := F.2.2.2.2.2.2.2.2.1
  show K + 1 ≤ R.frames ∧ 8 + (mx + 11) + 64 * K ≤ R.locals
  omega
/-- a virtual call -/
theorem G_callV {mj n ix a ci N : Nat} {As : List PV} {q : Option PV → PM → Prop} (hd : decode (mr mi).2.1 pc = .ok (.invokevirtual ix, 3)) (hm : mokV mj n) (hw : Cond.methodLink (mr mi).1.cls ix (mr mj).1 ∈ lw_g) (hn : As.length = n) (hst : (st.map pcat).sum ≤ 8)
    (ha : a < ph.1 ∧ a < 1000000) (hla : lay a = (ci + 3, N)) (hcl : (classes[ci]?).map (fun q => q.1) = some (mr mj).1.cls) (hph : ph.1 ≤ ph'.1 ∧ ph'.1 ≤ phE.1)
    (hC : Call K mj (.inr (.inr a) :: As) ph ph' M q) (go : Goes4 S K mi pc L st ph' phE Q (mr mj).2.2.2 q) :
    G S (K + 1) mi pc L (As.reverse ++ .inr (.inr a) :: st) ph phE M Q := by
  intro l B b D cA p e R s m args below meth c H0 c0 s0 Z F H locs cells slots ls hS hW hl hc hs
  obtain ⟨hb1, hb2, hb3⟩ := ph_room F hph hc hs
  have hrm := rm_room (ph := ph) (ph' := ph') F hm.1.2.2.2
  have hts := F.2.2.2.2.1
  have he := wrd_get (B := B) (cA := cA) (M := M) ha.1
  rw [cel_obj hla] at he
  obtain ⟨r, hr1, hr2⟩ := Option.map_eq_some_iff.mp hcl
  have hrecv := va_recv F.2.2.2.2.2.2.1 hW.2 hr1 he
  rw [hr2] at hrecv
  have hM := hC l B b D cA
  have hMc : ((.inr (.inr a) :: As : List PV).map (rv B b)) = .ref (B + a) :: As.map (rv B b) := by rw [List.map_cons, rv_ref ha.2]
  rw [hMc] at hM
  have cb := callB_of (R := R) (s := s) (args := args) (own := (mr mi).1.cls) (index := ix) (rm := rmM K ph ph') n hts (wsM_good hm.1) rfl rfl rfl (hts _ hm.1.2.1) (hts _ hw) hm.1.2.2.1 hrm
  rw [rvs_rev, List.map_cons, rv_ref ha.2]
  refine call_ret (mc := ph'.1 - ph.1) (ms := slp ph'.1 - slp ph.1) F hS hl hb2 hb3 (va_runV (C := (mr mj).1.cls) (As := As.map (rv B b)) ⟨F.1, F.2.1, F.2.2.1, F.2.2.2.1, hts⟩ hM ⟨cb, hts _ hm.2.1, hts _ hm.2.2⟩ ⟨pc_blind, hrecv, fun U hU hWm => ⟨rfl, by rw [hU]; exact hW, va_K.moved hWm.alike F.2.2.2.2.2.2.1, fun w hw => va_Nw.warmM hWm (F.2.2.2.2.2.1.2 w hw)⟩⟩ rfl (by rw [List.length_map]; exact hn) hl.1 rfl (lv_room (rvs_cat hst)) hd hb1) go
/-- a static call -/
theorem G_callS {mj n ix : Nat} {As : List PV} {q : Option PV → PM → Prop} (hd : decode (mr mi).2.1 pc = .ok (.invokestatic ix, 3)) (hm : mokS mj n) (hw : Cond.methodLink (mr mi).1.cls ix (mr mj).1 ∈ lw_g) (hn : As.length = n) (hst : (st.map pcat).sum ≤ 8) (hph : ph.1 ≤ ph'.1 ∧ ph'.1 ≤ phE.1)
    (hC : Call K mj As ph ph' M q) (go : Goes4 S K mi pc L st ph' phE Q (mr mj).2.2.2 q) :
    G S (K + 1) mi pc L (As.reverse ++ st) ph phE M Q := by
  intro l B b D cA p e R s m args below meth c H0 c0 s0 Z F H locs cells slots ls hS hW hl hc hs
  obtain ⟨hb1, hb2, hb3⟩ := ph_room F hph hc hs
  have hrm := rm_room (ph := ph) (ph' := ph') F hm.1.2.2.2
  have hts := F.2.2.2.2.1
  have hM := hC l B b D cA
  have cb := callB_of (R := R) (s := s) (args := args) (own := (mr mi).1.cls) (index := ix) (rm := rmM K ph ph') n hts (wsM_good hm.1) rfl rfl rfl (hts _ hm.1.2.1) (hts _ hw) hm.1.2.2.1 hrm
  rw [rvs_rev]
  exact call_ret (mc := ph'.1 - ph.1) (ms := slp ph'.1 - slp ph.1) F hS hl hb2 hb3 (va_runS (As := As.map (rv B b)) ⟨F.1, F.2.1, F.2.2.1, F.2.2.2.1, hts⟩ hM ⟨cb, hts _ hm.2⟩ ⟨pc_blind, fun U hU hWm => ⟨rfl, by rw [hU]; exact hW, va_K.moved hWm.alike F.2.2.2.2.2.2.1, fun w hw => va_Nw.warmM hWm (F.2.2.2.2.2.1.2 w hw)⟩⟩ rfl (by rw [List.length_map]; exact hn) hl.1 rfl (lv_room (rvs_cat hst)) hd hb1) go
/-- a constructor's call -/
theorem G_callI {mj n ix a : Nat} {As : List PV} {q : Option PV → PM → Prop} (hd : decode (mr mi).2.1 pc = .ok (.invokespecial ix, 3)) (hm : mokI mj n) (hw : Cond.methodLink (mr mi).1.cls ix (mr mj).1 ∈ lw_g ∨ ∃ host, ((mr mi).1.cls, ix, (mr mj).1, host) ∈ nestL) (hn : As.length = n) (hst : (st.map pcat).sum ≤ 8)
    (ha : a < 1000000) (hph : ph.1 ≤ ph'.1 ∧ ph'.1 ≤ phE.1)
    (hC : Call K mj (.inr (.inr a) :: As) ph ph' M q) (go : ∀ M', q none M' → G S (K + 1) mi (pc + 3) L st ph' phE M' Q) :
    G S (K + 1) mi pc L (As.reverse ++ .inr (.inr a) :: st) ph phE M Q := by
  intro l B b D cA p e R s m args below meth c H0 c0 s0 Z F H locs cells slots ls hS hW hl hc hs
  obtain ⟨hb1, hb2, hb3⟩ := ph_room F hph hc hs
  have hrm := rm_room (ph := ph) (ph' := ph') F hm.1.2.2.2
  have hts := F.2.2.2.2.1
  have hM := hC l B b D cA
  have hMc : ((.inr (.inr a) :: As : List PV).map (rv B b)) = .ref (B + a) :: As.map (rv B b) := by rw [List.map_cons, rv_ref ha]
  rw [hMc] at hM
  obtain ⟨hm0, hm1, hm2, hm3⟩ := hm
  have hG := wsM_good hm0
  have hwe : wsM mj = Cond.code (mr mj).1 (mr mj).2.1 (mr mj).2.2.1 none :: lw_g := by rw [wsM, hm3]
  rw [hm3] at hM
  rw [rvs_rev, List.map_cons, rv_ref ha]
  have go4 : Goes4 S K mi pc L st ph' phE Q none q := go
  rcases hw with hw | ⟨host, hw⟩
  · have cb := cwI (R := R) (s := s) (args := args) (own := (mr mi).1.cls) (index := ix) (rm := rmM K ph ph') n hts hG hwe rfl rfl (hts _ hm0.2.1) (hts _ hw) (hts _ hm1) hm2 hm0.2.2.1 hrm
    exact call_ret (mc := ph'.1 - ph.1) (ms := slp ph'.1 - slp ph.1) F hS hl hb2 hb3 (va_runI (As := As.map (rv B b)) ⟨F.1, F.2.1, F.2.2.1, F.2.2.2.1, hts⟩ hM cb ⟨pc_blind, fun U hU hWm => ⟨rfl, by rw [hU]; exact hW, va_K.moved hWm.alike F.2.2.2.2.2.2.1, fun w hw => va_Nw.warmM hWm (F.2.2.2.2.2.1.2 w hw)⟩⟩ rfl (by rw [List.length_map]; exact hn) hl.1 rfl (lv_room (rvs_cat hst)) hd hb1) go4
  · have cb := va_cnB (R := R) (s := s) (args := args) (own := (mr mi).1.cls) (index := ix) (rm := rmM K ph ph') (host := host) n hts hG hwe rfl rfl (F.2.2.2.2.2.1.2 _ hw) (hts _ hm0.2.1) hm0.2.2.1 hrm
    exact call_ret (mc := ph'.1 - ph.1) (ms := slp ph'.1 - slp ph.1) F hS hl hb2 hb3 (va_runIN (As := As.map (rv B b)) ⟨F.1, F.2.1, F.2.2.1, F.2.2.2.1, hts⟩ hM ⟨cb, hm2, hts _ hm1⟩ ⟨pc_blind, fun U hU hWm => ⟨rfl, by rw [hU]; exact hW, va_K.moved hWm.alike F.2.2.2.2.2.2.1, fun w hw => va_Nw.warmM hWm (F.2.2.2.2.2.1.2 w hw)⟩⟩ rfl (by rw [List.length_map]; exact hn) hl.1 rfl (lv_room (rvs_cat hst)) hd hb1) go4
/-- Object's own constructor -/
theorem G_objInit {ix a : Nat} (hd : decode (mr mi).2.1 pc = .ok (.invokespecial ix, 3)) (hw : Cond.methodLink (mr mi).1.cls ix Lib.objectInit ∈ lw_g) (ha : a < 1000000) (hst : (st.map pcat).sum ≤ 8) (k : G S (K + 1) mi (pc + 3) L st ph phE M Q) : G S (K + 1) mi pc L (.inr (.inr a) :: st) ph phE M Q := by
  intro l B b D cA p e R s m args below meth c H0 c0 s0 Z F H locs cells slots ls hS hW hl hc hs
  have hrm := F.2.2.2.2.2.2.2.2.1
  rw [List.map_cons, rv_ref ha]
  have hr := rvs_cat (B := B) (b := b) hst
  refine W.objInit F.1 F.2.1 F.2.2.2.1 (F.2.2.2.2.1 _ hw) (F.2.2.2.2.1 _ (by decide +kernel)) (F.2.2.2.2.1 _ (by decide +kernel)) rfl (hl.1.trans F.2.2.1.symm) rfl hd (by omega) ?_ (k l B b D cA p e R s m args below meth c H0 c0 s0 Z F H locs cells slots ls hS hW hl hc hs)
  show 2 * 0 + _ + 12 ≤ R.locals
  omega
/-! new cells -/
theorem G_new {C : String} {T : u_T} {tyf : Nat → FieldType} {ix ci N : Nat} (hd : decode (mr mi).2.1 pc = .ok (.new ix, 3)) (hck : cok ci C T tyf N) (hla : lay ph.1 = (ci + 3, N)) (hw : Cond.classLink (mr mi).1.cls ix C ∈ lw_g) (hw2 : Cond.instantiable C N ∈ lw_g) (hw3 : Cond.initialized C ∈ lw_g)
    (h74 : ph.1 < 74) (hE : ph.1 + 1 ≤ phE.1) (hsl : slp ph.1 + N = slp (ph.1 + 1)) (hdf : ∀ k, k < N → defaultValue (tyf k) = (match fct ci k with
      | 0 => Value.int (Int32.ofInt 0)
      | 1 => .long (Int64.ofInt 0)
      | 2 => .int (Int32.ofInt 0)
      | _ => .null)) (hrf : ∀ k, k < N → rfg ph.2 ph.1 k = 0)
    (kk : G S K mi (pc + 3) L (.inr (.inr ph.1) :: st) (ph.1 + 1, ph.2) phE (mclr M ph.1) Q) : G S K mi pc L st ph phE M Q := by
  intro l B b D cA p e R s m args below meth c H0 c0 s0 Z F H locs cells slots ls hS hW hl hc hs
  have hts := F.2.2.2.2.1
  have hsz : H.size = B + ph.1 := by rcases hW.1 with h | h <;> omega
  have hKn := F.2.2.2.2.2.2.1.1 ci _ hck.1
  have h3 := F.2.2.2.2.2.2.2.2.2.1
  have hm := slp_mono hE
  refine W.newcK F.1 F.2.1 F.2.2.2.1 (hts _ hw) (hts _ hw2) (hts _ hw3) rfl hd (by omega) (by omega) hKn.2.1 hsz fun H1 kC hkC e1 z1 o1 => ?_
  have hk : ∀ (k : Nat) (x : Nat × va_E), (wrd B cA ph M)[k]? = some x → H1[x.1]? = H[x.1]? := fun k x hx => o1 x.1 (by have := (hW.2 k x hx).lt; omega)
  have hnew : va_P D classes [(B + ph.1, cel B cA ph.2 (mclr M ph.1) ph.1)] H1 := by
    intro k x hx
    have hz : k < 1 := (List.getElem?_eq_some_iff.mp hx).1
    rw [show k = 0 by omega] at hx
    cases hx
    rw [cel_obj hla]
    refine ⟨_, hck.1, (u_born tyf hts hck.2.1 hKn hkC e1 hck.2.2.1).to fun j hj => ?_⟩
    rw [hdf j hj]
    show _ = vp_V _ j
    unfold vp_V
    rw [List.getD_eq_getElem?_getD, fval_get hj]
    show _ = fval B ci (rfg ph.2 ph.1) (mclr M ph.1 ph.1) j
    unfold fval
    rw [hrf j hj]
    simp only [mclr, if_true]
    rfl
  have hP := (hW.2.kept hk).app hnew
  rw [wrd_push (fun a' h => by funext j; simp [mclr, show ¬ a' = ph.1 by omega])] at hP
  have z := kk l B b D cA p e R s m args below meth c H0 c0 s0 Z F H1 locs (cells + 1) (slots + N) ls ⟨Nat.le_trans hS.1 (by omega), fun x h1 h2 => (o1 x (by have := hS.1; omega)).trans (hS.2.1 x h1 h2), hS.2.2⟩ ⟨Or.inl (by omega), hP⟩ hl (by show _ = ph.1 + 1; omega) (by show _ = slp (ph.1 + 1); omega)
  rw [List.map_cons, rv_ref (by omega)] at z
  exact z
theorem G_newI {n : Nat} (hd : decode (mr mi).2.1 pc = .ok (.newarray .int, 2)) (hw : Cond.arrayClass .int ∈ lw_g) (hla : lay ph.1 = (0, n)) (hn : n ≤ 100000) (h74 : ph.1 < 74) (hE : ph.1 + 1 ≤ phE.1) (hsl : slp ph.1 + n = slp (ph.1 + 1))
    (kk : G S K mi (pc + 2) L (.inr (.inr ph.1) :: st) (ph.1 + 1, ph.2) phE (mclr M ph.1) Q) : G S K mi pc L (.inl (n : Int) :: st) ph phE M Q := by
  intro l B b D cA p e R s m args below meth c H0 c0 s0 Z F H locs cells slots ls hS hW hl hc hs
  have hts := F.2.2.2.2.1
  have hsz : H.size = B + ph.1 := by rcases hW.1 with h | h <;> omega
  have h3 := F.2.2.2.2.2.2.2.2.2.1
  have hm := slp_mono hE
  have hcl : (Int32.ofInt (n : Int)).toNatClampNeg = n := by rw [i32_cl (by omega) (by omega)]; omega
  have hnn : ¬ Int32.ofInt (n : Int) < 0 := by
    rw [show (0 : Int32) = Int32.ofInt 0 from rfl, i32_lt ⟨by omega, by omega⟩ ⟨by omega, by omega⟩]
    omega
  refine va_newaK (atype := .int) F.1 F.2.1 (hts _ hw) rfl hd rfl hnn hcl (by show n * 4 ≤ _; omega) (by omega) (by omega) hsz fun H1 cA' e1 z1 o1 hAr hNm => ?_
  have hk : ∀ (k : Nat) (x : Nat × va_E), (wrd B cA ph M)[k]? = some x → H1[x.1]? = H[x.1]? := fun k x hx => o1 x.1 (by have := (hW.2 k x hx).lt; omega)
  obtain rfl : cA' = cA 0 := Option.some.inj (hNm.symm.trans (F.2.2.2.2.2.2.1.2 0 _ rfl).2)
  have hnew : va_P D classes [(B + ph.1, cel B cA ph.2 (mclr M ph.1) ph.1)] H1 := by
    intro k x hx
    have hz : k < 1 := (List.getElem?_eq_some_iff.mp hx).1
    rw [show k = 0 by omega] at hx
    cases hx
    rw [cel_int hla]
    show H1[B + ph.1]? = some (vp_cell _ _)
    rw [e1, vp_cell_i]
    simp only [mclr, if_true]
    rfl
  have hP := (hW.2.kept hk).app hnew
  rw [wrd_push (fun a' h => by funext j; simp [mclr, show ¬ a' = ph.1 by omega])] at hP
  have z := kk l B b D cA p e R s m args below meth c H0 c0 s0 Z F H1 locs (cells + 1) (slots + n) ls ⟨Nat.le_trans hS.1 (by omega), fun x h1 h2 => (o1 x (by have := hS.1; omega)).trans (hS.2.1 x h1 h2), hS.2.2⟩ ⟨Or.inl (by omega), hP⟩ hl (by show _ = ph.1 + 1; omega) (by show _ = slp (ph.1 + 1); omega)
  rw [List.map_cons, rv_ref (by omega)] at z
  exact z
theorem G_newL {n : Nat} (hd : decode (mr mi).2.1 pc = .ok (.newarray .long, 2)) (hw : Cond.arrayClass .long ∈ lw_g) (hla : lay ph.1 = (1, n)) (hn : n ≤ 100000) (h74 : ph.1 < 74) (hE : ph.1 + 1 ≤ phE.1) (hsl : slp ph.1 + n = slp (ph.1 + 1))
    (kk : G S K mi (pc + 2) L (.inr (.inr ph.1) :: st) (ph.1 + 1, ph.2) phE (mclr M ph.1) Q) : G S K mi pc L (.inl (n : Int) :: st) ph phE M Q := by
  intro l B b D cA p e R s m args below meth c H0 c0 s0 Z F H locs cells slots ls hS hW hl hc hs
  have hts := F.2.2.2.2.1
  have hsz : H.size = B + ph.1 := by rcases hW.1 with h | h <;> omega
  have h3 := F.2.2.2.2.2.2.2.2.2.1
  have hm := slp_mono hE
  have hcl : (Int32.ofInt (n : Int)).toNatClampNeg = n := by rw [i32_cl (by omega) (by omega)]; omega
  have hnn : ¬ Int32.ofInt (n : Int) < 0 := by
    rw [show (0 : Int32) = Int32.ofInt 0 from rfl, i32_lt ⟨by omega, by omega⟩ ⟨by omega, by omega⟩]
    omega
  refine va_newaK (atype := .long) F.1 F.2.1 (hts _ hw) rfl hd rfl hnn hcl (by show n * 8 ≤ _; omega) (by omega) (by omega) hsz fun H1 cA' e1 z1 o1 hAr hNm => ?_
  have hk : ∀ (k : Nat) (x : Nat × va_E), (wrd B cA ph M)[k]? = some x → H1[x.1]? = H[x.1]? := fun k x hx => o1 x.1 (by have := (hW.2 k x hx).lt; omega)
  obtain rfl : cA' = cA 1 := Option.some.inj (hNm.symm.trans (F.2.2.2.2.2.2.1.2 1 _ rfl).2)
  have hnew : va_P D classes [(B + ph.1, cel B cA ph.2 (mclr M ph.1) ph.1)] H1 := by
    intro k x hx
    have hz : k < 1 := (List.getElem?_eq_some_iff.mp hx).1
    rw [show k = 0 by omega] at hx
    cases hx
    rw [cel_long hla]
    show H1[B + ph.1]? = some (vp_cell _ _)
    rw [e1, vp_cell_l]
    simp only [mclr, if_true]
    rfl
  have hP := (hW.2.kept hk).app hnew
  rw [wrd_push (fun a' h => by funext j; simp [mclr, show ¬ a' = ph.1 by omega])] at hP
  have z := kk l B b D cA p e R s m args below meth c H0 c0 s0 Z F H1 locs (cells + 1) (slots + n) ls ⟨Nat.le_trans hS.1 (by omega), fun x h1 h2 => (o1 x (by have := hS.1; omega)).trans (hS.2.1 x h1 h2), hS.2.2⟩ ⟨Or.inl (by omega), hP⟩ hl (by show _ = ph.1 + 1; omega) (by show _ = slp (ph.1 + 1); omega)
  rw [List.map_cons, rv_ref (by omega)] at z
  exact z
theorem G_newZ {n : Nat} (hd : decode (mr mi).2.1 pc = .ok (.newarray .boolean, 2)) (hw : Cond.arrayClass .boolean ∈ lw_g) (hla : lay ph.1 = (2, n)) (hn : n ≤ 100000) (h74 : ph.1 < 74) (hE : ph.1 + 1 ≤ phE.1) (hsl : slp ph.1 + n = slp (ph.1 + 1))
    (kk : G S K mi (pc + 2) L (.inr (.inr ph.1) :: st) (ph.1 + 1, ph.2) phE (mclr M ph.1) Q) : G S K mi pc L (.inl (n : Int) :: st) ph phE M Q := by
  intro l B b D cA p e R s m args below meth c H0 c0 s0 Z F H locs cells slots ls hS hW hl hc hs
  have hts := F.2.2.2.2.1
  have hsz : H.size = B + ph.1 := by rcases hW.1 with h | h <;> omega
  have h3 := F.2.2.2.2.2.2.2.2.2.1
  have hm := slp_mono hE
  have hcl : (Int32.ofInt (n : Int)).toNatClampNeg = n := by rw [i32_cl (by omega) (by omega)]; omega
  have hnn : ¬ Int32.ofInt (n : Int) < 0 := by
    rw [show (0 : Int32) = Int32.ofInt 0 from rfl, i32_lt ⟨by omega, by omega⟩ ⟨by omega, by omega⟩]
    omega
  refine va_newaK (atype := .boolean) F.1 F.2.1 (hts _ hw) rfl hd rfl hnn hcl (by show n * 1 ≤ _; omega) (by omega) (by omega) hsz fun H1 cA' e1 z1 o1 hAr hNm => ?_
  have hk : ∀ (k : Nat) (x : Nat × va_E), (wrd B cA ph M)[k]? = some x → H1[x.1]? = H[x.1]? := fun k x hx => o1 x.1 (by have := (hW.2 k x hx).lt; omega)
  obtain rfl : cA' = cA 2 := Option.some.inj (hNm.symm.trans (F.2.2.2.2.2.2.1.2 2 _ rfl).2)
  have hnew : va_P D classes [(B + ph.1, cel B cA ph.2 (mclr M ph.1) ph.1)] H1 := by
    intro k x hx
    have hz : k < 1 := (List.getElem?_eq_some_iff.mp hx).1
    rw [show k = 0 by omega] at hx
    cases hx
    rw [cel_bool hla]
    show H1[B + ph.1]? = some (vp_cell _ _)
    rw [e1, vp_cell_i]
    simp only [mclr, if_true]
    rfl
  have hP := (hW.2.kept hk).app hnew
  rw [wrd_push (fun a' h => by funext j; simp [mclr, show ¬ a' = ph.1 by omega])] at hP
  have z := kk l B b D cA p e R s m args below meth c H0 c0 s0 Z F H1 locs (cells + 1) (slots + n) ls ⟨Nat.le_trans hS.1 (by omega), fun x h1 h2 => (o1 x (by have := hS.1; omega)).trans (hS.2.1 x h1 h2), hS.2.2⟩ ⟨Or.inl (by omega), hP⟩ hl (by show _ = ph.1 + 1; omega) (by show _ = slp (ph.1 + 1); omega)
  rw [List.map_cons, rv_ref (by omega)] at z
  exact z
end CALLS
