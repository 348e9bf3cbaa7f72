/-! THE LAW, from its entry -/
theorem cls_ok : ∀ (k : Nat) (q : vw_C), classes[k]? = some q → (∀ w ∈ u_ws q.1 q.2.1 q.2.2, w ∈ lw_g) ∧ Cond.instantiable q.1 q.2.2 ∈ lw_g := by
  intro k q hq
  match k, hq with
  | 0, hq => cases hq; exact ⟨in0, by decide +kernel⟩
  | 1, hq => cases hq; exact ⟨in1, by decide +kernel⟩
  | 2, hq => cases hq; exact ⟨in2, by decide +kernel⟩
  | 3, hq => cases hq; exact ⟨in3, by decide +kernel⟩
  | 4, hq => cases hq; exact ⟨in4, by decide +kernel⟩
  | 5, hq => cases hq; exact ⟨in5, by decide +kernel⟩
  | 6, hq => cases hq; exact ⟨in6, by decide +kernel⟩
  | 7, hq => cases hq; exact ⟨in7, by decide +kernel⟩
  | 8, hq => cases hq; exact ⟨in8, by decide +kernel⟩
  | 9, hq => cases hq; exact ⟨in9, by decide +kernel⟩
  | 10, hq => cases hq; exact ⟨in10, by decide +kernel⟩
  | 11, hq => cases hq; exact ⟨in11, by decide +kernel⟩
  | k + 12, hq => simp [classes] at hq
theorem arr_known {ty : FieldType} {args : Array Value} {s : State} (h : (Cond.arrayClass ty).before args s = true) : ∃ cA : ClassId, ArrOfT s cA ty ∧ s.vm.findClass ("[" ++ ty.toString) = some cA := by
  obtain ⟨cA, kA, comp, h1, h2, h3⟩ := Cond.arrayClass_spec h
  exact ⟨cA, fun N z => ⟨(fun k h => by cases h), kA, h2, comp, h3⟩, h1⟩
theorem nest_in : ∀ q ∈ nestL, Cond.methodLinkNest q.1 q.2.1 q.2.2.1 q.2.2.2 ∈ lw_tbl := by decide +kernel
def lawQ : Option PV → PM → Prop := fun v _ => v = some (.inl 1)
theorem law_G {n : Nat} {f : Nat → Int} (hn : n ≤ 3072) (hf : ∀ k, R32 (f k)) : G (some (n, f)) (0 + 23 + 1) jLaw_law 0 [(0, .inr (.inr 1000000))] [] (phx 0 78) (phx 74 0) (fun _ _ => 0) lawQ :=
  g_law_0 (0 + 23) n f _ _ (x_init (K := 17) (fun M1 x1 => m_init (K := 20) x1 (fun M2 I2 => law_loop (K := 0) (Q := lawQ) hn hf (fun _ => rfl) n 0 M2 (by decide) (by decide) (by omega) I2)))
theorem slp_74 : slp 74 ≤ 7302250 := by decide +kernel
theorem mr_code : (mr 297).2.1 = code := rfl
set_option maxHeartbeats 4000000 in
theorem whole_start {p : Program} {e : Env} {s : State} {m : MethodId} {below : List Frame} {meth : Method} {c : Code} (l : Launch) (hflags : l.flags = flags0) {b L : Nat} {xs : Nat → Int32} (hL : L ≤ 3072) (hnm : meth.name = x.name) (C0 : lw_At p s m meth c b L xs) : W p l e room_1 s m #[Value.ref b] below meth c s.heap [] 0 0 (lw_Z below #[Value.ref b] s) (entryFrame m ([Value.ref b] : List Value).toArray 4) := by
  obtain ⟨hx, hb, hr, hml, hown, hts, hX, hbl, hlocks, hgv⟩ := id C0
  have htg : ∀ w ∈ lw_g, w.before #[Value.ref b] s = true := fun w hw => hts w (List.mem_filter.mp hw).1
  obtain ⟨cI0, aI, fI⟩ := arr_known (htg _ ka_int)
  obtain ⟨cL0, aL, fL⟩ := arr_known (htg _ ka_long)
  obtain ⟨cZ0, aZ, fZ⟩ := arr_known (htg _ ka_boolean)
  have hcl : ∀ k : Nat, ∃ d : ClassId × (Nat → Nat), ∀ q : vw_C, classes[k]? = some q → u_Kn s q.1 q.2.1 q.2.2 d.1 d.2 := by
    intro k
    rcases hk : classes[k]? with _ | q
    · exact ⟨(cI0, fun _ => 0), fun q h => by cases h⟩
    · have o := cls_ok k q hk
      obtain ⟨c1, i1, h1⟩ := u_known (C := q.1) (T := q.2.1) (N := q.2.2) (n := q.2.2) htg o.1 (htg _ o.2)
      exact ⟨(c1, i1), fun q' h => by cases h; exact h1⟩
  obtain ⟨dd, hdd⟩ := Classical.axiomOfChoice hcl
  obtain ⟨cA, eA⟩ : ∃ cA : Nat → ClassId, cA = fun k => if k = 0 then cI0 else if k = 1 then cL0 else cZ0 := ⟨_, rfl⟩
  have e0 : cA 0 = cI0 := by rw [eA]; rfl
  have e1 : cA 1 = cL0 := by rw [eA]; rfl
  have e2 : cA 2 = cZ0 := by rw [eA]; rfl
  have hK : va_K (fun k => (dd k).1, fun k => (dd k).2) classes (tys cA) s := by
    refine ⟨fun k q hq => hdd k q hq, fun k q h => ?_⟩
    match k, h with
    | 0, h => cases h; exact ⟨by rw [e0]; exact aI, by rw [e0]; exact fI⟩
    | 1, h => cases h; exact ⟨by rw [e1]; exact aL, by rw [e1]; exact fL⟩
    | 2, h => cases h; exact ⟨by rw [e2]; exact aZ, by rw [e2]; exact fZ⟩
    | k + 3, h => simp [tys] at h
  have hNst : Nst s := fun q hq => va_Nw.of rfl (hts _ (nest_in q hq))
  have ef : (fun j => Int32.ofInt ((xs j).toInt)) = xs := funext fun j => Int32.ofInt_toInt _
  have hl := lv_entry ([.ref b]) (n := 4) (Nat.le_of_ble_eq_true rfl)
  rw [lg_entry_eq]
  generalize (lg_sl ([.ref b]) ++ List.replicate (4 - (lg_sl ([.ref b])).length) Slot.unset).toArray = ls at hl ⊢
  have hl : lv_has ls 4 [(0, .ref b)] := hl
  refine law_G (n := L) (f := fun j => (xs j).toInt) hL (fun k => ⟨Int32.le_toInt _, Int32.toInt_lt _⟩) l s.heap.size b (fun k => (dd k).1, fun k => (dd k).2) cA p e room_1 s m #[Value.ref b] below meth c s.heap 0 0 (lw_Z below #[Value.ref b] s) ⟨hx, hb.trans mr_code.symm, by rw [mf297.2.1]; exact hml, by rw [mf297.1]; exact hown, htg, ⟨hnm, hNst⟩, hK, Nat.le_refl _, ⟨Nat.le_of_ble_eq_true rfl, Nat.le_of_ble_eq_true rfl⟩, ⟨Nat.le_of_ble_eq_true rfl, slp_74⟩, ?_, ?_⟩ s.heap [] 0 0 ls va_S.rf ?_ ?_ rfl rfl
  · show va_X b L (fun j => Int32.ofInt ((xs j).toInt)) s s.heap ∧ b < s.heap.size ∧ b < s.heap.size ∧ L ≤ 2000000000
    rw [ef]
    exact ⟨hX, hbl, hbl, by omega⟩
  · intro pc ls H locs cells slots v M hv hW hS hc hs hrok hdg
    have hv' : v = some (.inl 1) := hv
    subst hv'
    have hc' : cells + 0 = 74 := hc
    have hs' : slots + 0 = slp 74 := hs
    have h74 := slp_74
    refine va_forget (fun q hq => hS.2.2 q hq) ?_
    refine W.widen (k := 600000) (n := 7302250) (by omega) (by omega) ?_
    have hdg' : decode code pc = .ok (.ireturn, 1) := by rw [← mr_code]; exact hdg
    exact lw_ret hx hb hr hlocks hdg'
  · exact ⟨Or.inl rfl, fun k q h => by simp [wrd] at h⟩
  · rw [mf297.2.1]
    exact hl
set_option maxHeartbeats 4000000 in
theorem lw_walk (l : Launch) (hflags : l.flags = flags0) (b : Addr) (xs : List Int32) : MetFree l x (headSpec (Jvm.Cond.code x code maxLocals ret :: tables_1) room_1) (lw_P b xs) (fun _ _ _ _ _ => True) lw_Q := by
  refine MetFree.of_bodyS (code := code) (maxLocals := maxLocals) (ret := ret) (by decide) ?_ ?_
  · intro args s m h hn
    obtain ⟨meth, c, h1, h2, h3, h4, h5, h6, -, -⟩ := Cond.code_spec hn (atoms_spec (ws := Jvm.Cond.code x code maxLocals ret :: tables_1) h _ List.mem_cons_self)
    exact ⟨meth, c, h1, h2, h3, h4, h5, h6⟩
  · intro p e s m args below meth c s₁ B hml0 hP _
    obtain ⟨rfl, hx, hbd, hgv⟩ := hP
    obtain ⟨scr, harrAt, hlist, hof, hsmall⟩ := hx
    obtain ⟨hcb, hkn, -, -⟩ := State.arrayAt?_spec harrAt
    have hown : s.vm.findClass R_law = some m.cls := findClass_of_methodNamed B.named
    have hts0 : ∀ c ∈ (Jvm.Cond.code x code maxLocals ret :: tables_1), c.before #[Value.ref b] s = true := atoms_spec (ws := Jvm.Cond.code x code maxLocals ret :: tables_1) B.pre
    have hts : ∀ w ∈ lw_tbl, w.before #[Value.ref b] s = true := k2_hts_sels lw_privs (fun w hw => hts0 w (List.mem_cons_of_mem _ hw)) lw_privs_ok
    have hml : c.maxLocals = 4 := B.maxLocals_eq (hts0 _ List.mem_cons_self)
    have X₀ : Stand p l e room_1 s m #[Value.ref b] below meth c s₁ [] 0 0 := Stand.of_body B
    have hh0 : s₁.heap = s.heap := by rw [B.state]; rfl
    have hsz : scr.slots.size = xs.length := by rw [← Array.length_toList, hlist, List.length_map]
    have hval : ∀ j : Nat, j < xs.length → scr.slots[j]? = some (.int (xs.getD j 0)) := fun j hj => by
      rw [← Array.getElem?_toList, hlist]
      simp [hj]
    have hbl : b < s.heap.size := (Array.getElem?_eq_some_iff.mp hcb).1
    have hX : va_X b xs.length (fun j => xs.getD j 0) s s.heap := ⟨scr, hcb, hof, hkn, hsz, hval⟩
    have K : W p l e room_1 s m #[Value.ref b] below meth c s₁.heap [] 0 0 (lw_Z below #[Value.ref b] s) (entryFrame m ([Value.ref b] : List Value).toArray 4) := by
      rw [hh0]
      exact whole_start l hflags hbd (name_of_methodNamed B.named B.method).1 ⟨B.exec, B.bytes, B.returns, hml, hown, hts, hX, hbl, B.notSynchronized, hgv⟩
    obtain ⟨t, a1, o, b1, b2, b3⟩ := K s₁ rfl X₀
    exact ⟨t, o, a1, b1, b2, b3⟩
theorem lw_pre_spec {args : Array Value} {s : State} (h : (Jvm.Cond.and given_1 narrow_1).before args s = true) (hr : rest_1_c.before args s = true) : ∃ (b : Addr) (xs : List Int32), lw_P b xs args s := by
  have hs := flat_of_before _ h
  have hq := flat_of_before _ hr
  have hc : (Cond.count 1).before args s = true := hs _ (by decide +kernel)
  have harr : (Cond.arrayOf (.arg 0) .int).before args s = true := hs _ (by decide +kernel)
  have hle : (Cond.le (.length (.arg 0)) (.int 3072)).before args s = true := hs _ (by decide +kernel)
  have hlen : (Cond.isInt (.length (.arg 0))).before args s = true := hq _ (by decide +kernel)
  have hall : (Cond.all (.arg 0) (.isInt (.elem (.arg 0) (.index 0)))).before args s = true := hq _ (by decide +kernel)
  obtain ⟨b, xs, hb, hx⟩ := State.ints_of_pre rfl harr hlen hall
  have hsm : xs.length < 2 ^ 31 := hx.choose_spec.2.2.2
  have hev : (Term.length (.arg 0)).eval args s none [] s = some (.int xs.length.toInt32) := hx.length_eval hb
  have hv := Cond.le_ints hev (show (Term.int 3072).eval args s none [] s = some (.int 3072) from rfl)
  have hd : xs.length.toInt32 ≤ 3072 := by
    simpa [Cond.before, Cond.holds, hv] using hle
  have hN : xs.length ≤ 3072 := (Int32.ofNat_le_ofNat hsm (by decide)).mp (show Int32.ofNat xs.length ≤ Int32.ofNat 3072 from hd)
  exact ⟨b, xs, Cond.one_arg hc (show args[0]? = some (.ref b) from hb), hx, hN, h⟩
theorem lw_comes (l : Launch) (hflags : l.flags = flags0) : Comes l x (Jvm.Cond.code x code maxLocals ret :: tables_1) room_1 (fun tb e args s => Calls_1 tb e args s ∧ rest_1 tb e args s ∧ Pre_1 tb e args s)
    (fun _ _ args s o t => lw_Q args s o t) := by
  intro p e ha hc hk s m args below hf hfit hheap happ hpre
  obtain ⟨b, xs, hP⟩ := lw_pre_spec hpre.2.2 hpre.2.1
  obtain ⟨k, o, h1, h2, h3, hQ⟩ := lw_walk l hflags b xs p e ha hc hk s m args below hf ((Spec.applies_iff_loose hf).mp happ).1 hP trivial
  exact ⟨k, o, h1, h2, h3, hQ⟩
theorem lw_frame {s t : State} {o : Outcome} {args : Array Value} (h : Framed s o t [] 600000 7302250) :
    Framed s o t (fieldLocs frame_1_writes args s ++ arrayLocs frame_1_arrays args s ++ staticLocs frame_1_statics s) 600000 7302250 := h
theorem lw_limb (L : Cond) (hL : ∀ (args : Array Value) (s t : State), L.after args s (.returned (some (.int 1))) t = true) :
    ArmFor flags0 classFile x code maxLocals ret World_1 tables_1 room_1 Calls_1 rest_1 Pre_1
      (fun tb e a s o t => postC L tb e a s o t ∧ Framed s o t (fieldLocs frame_1_writes a s ++ arrayLocs frame_1_arrays a s ++ staticLocs frame_1_statics s) 600000 7302250) := by
  intro l hflags _ _ p e ha hc hk s m args below hf hfit hheap happ hpre
  obtain ⟨k, o, h1, h2, h3, rfl, hF⟩ := lw_comes l hflags p e ha hc hk s m args below hf hfit hheap happ hpre
  exact ⟨k, _, h1, h2, h3, hL args s _, lw_frame hF⟩
theorem i_vc : Claimed_1_1 ∧ Claimed_1_2 := ⟨lw_limb limb_1_1 (fun args s t => by simp [limb_1_1, Cond.after, Cond.holds, Cond.value]), lw_limb limb_1_2 (fun args s t => Cond.after_iff.mpr (by
  first | (rw [show limb_1_2 = Cond.eq .result (.int 1) from rfl, Cond.eq_ints (x := 1) (y := 1) rfl rfl]; simp; done) | (simp [limb_1_2, Cond.value, Term.eval]; done)))⟩
