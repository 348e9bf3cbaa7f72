/-! A PURE MACHINE: numbers are Int (any number that stands for the int or long), cells are numbered in the order in which the constructors make them. -/
abbrev PV : Type := Int ⊕ (Int ⊕ Nat)
abbrev PM : Type := Nat → Int → Int
abbrev PF : Type := List (Nat × Nat × Nat)
abbrev PH : Type := Nat × PF
abbrev PS : Type := Option (Nat × (Nat → Int))
def rv (B b : Nat) (v : PV) : Value := match v with
  | .inl i => .int (Int32.ofInt i)
  | .inr (.inl i) => .long (Int64.ofInt i)
  | .inr (.inr a) => .ref (if a = 1000000 then b else B + a)
def pcat (v : PV) : Nat := match v with
  | .inr (.inl _) => 2
  | _ => 1
theorem rv_cat (B b : Nat) (v : PV) : (rv B b v).category = pcat v := by
  rcases v with i | i | a <;> rfl
def mset (M : PM) (a : Nat) (j : Int) (v : Int) : PM := fun a' j' => if a' = a ∧ j' = j then v else M a' j'
def mclr (M : PM) (a : Nat) : PM := fun a' j' => if a' = a then 0 else M a' j'
def rfg : PF → Nat → Nat → Nat
  | [], _, _ => 0
  | (a', k', q) :: l, a, k => if a' = a ∧ k' = k then q + 1 else rfg l a k
def lay (a : Nat) : Nat × Nat := LAYL.getD a (0, 0)
def slp (n : Nat) : Nat := ((LAYL.take n).map (fun q => q.2)).sum
def fct (ci k : Nat) : Nat := (FTL.getD ci []).getD k 0
def fval (B ci : Nat) (fa : Nat → Nat) (Ma : Int → Int) (k : Nat) : Value := match fct ci k with
  | 0 => .int (Int32.ofInt (Ma (k : Int)))
  | 1 => .long (Int64.ofInt (Ma (k : Int)))
  | 2 => .int (Int32.ofInt (Ma (k : Int)))
  | _ => match fa k with
    | 0 => .null
    | q + 1 => .ref (B + q)
def cel (B : Nat) (cA : Nat → ClassId) (f : PF) (M : PM) (a : Nat) : va_E := match (lay a).1 with
  | 0 => .inl (cA 0, (lay a).2, .inl (fun j => Int32.ofInt (M a (j : Int))))
  | 1 => .inl (cA 1, (lay a).2, .inr (.inl (fun j => Int64.ofInt (M a (j : Int)))))
  | 2 => .inl (cA 2, (lay a).2, .inl (fun j => Int32.ofInt (M a (j : Int))))
  | ci + 3 => .inr (ci, (List.range (lay a).2).map (fval B ci (rfg f a) (M a)))
def wrd (B : Nat) (cA : Nat → ClassId) (ph : PH) (M : PM) : va_W := (List.range ph.1).map fun a => (B + a, cel B cA ph.2 M a)
def Wd (B : Nat) (D : va_G) (cA : Nat → ClassId) (ph : PH) (M : PM) (H : Heap) : Prop := (H.size = B + ph.1 ∨ (74 ≤ ph.1 ∧ B ≤ H.size)) ∧ va_P D classes (wrd B cA ph M) H
abbrev tys (cA : Nat → ClassId) : List (ClassId × FieldType) := [(cA 0, .int), (cA 1, .long), (cA 2, .boolean)]
abbrev AB (B : Nat) : Nat → Prop := fun q => B ≤ q
theorem wrd_get {B : Nat} {cA : Nat → ClassId} {ph : PH} {M : PM} {a : Nat} (h : a < ph.1) : (wrd B cA ph M)[a]? = some (B + a, cel B cA ph.2 M a) := by
  simp [wrd, h]
theorem wrd_D {B : Nat} {cA : Nat → ClassId} {ph : PH} {M : PM} : va_D (AB B) (wrd B cA ph M) := by
  have key : ∀ (k : Nat) (q : Nat × va_E), (wrd B cA ph M)[k]? = some q → q.1 = B + k := by
    intro k q hk
    have hlt : k < ph.1 := by
      have := (List.getElem?_eq_some_iff.mp hk).1
      simpa [wrd] using this
    rw [wrd_get hlt] at hk
    cases hk
    rfl
  refine ⟨fun i j x y hi hj hxy => ?_, fun k q hk => ?_⟩
  · have h1 := key i x hi
    have h2 := key j y hj
    omega
  · have h1 := key k q hk
    show B ≤ q.1
    omega
theorem wrd_set {B : Nat} {cA : Nat → ClassId} {ph : PH} {M M' : PM} {f' : PF} {a : Nat} (h : a < ph.1) (hM : ∀ a', a' ≠ a → M' a' = M a') (hf : ∀ a', a' ≠ a → rfg f' a' = rfg ph.2 a') :
    (wrd B cA ph M).set a (B + a, cel B cA f' M' a) = wrd B cA (ph.1, f') M' := by
  apply List.ext_getElem?
  intro k
  by_cases hk : k < ph.1
  · by_cases hka : k = a
    · subst hka
      rw [List.getElem?_set_self (by simpa [wrd] using h), wrd_get (ph := (ph.1, f')) hk]
    · rw [List.getElem?_set_ne (Ne.symm hka), wrd_get hk, wrd_get (ph := (ph.1, f')) hk]
      show some (B + k, cel B cA ph.2 M k) = some (B + k, cel B cA f' M' k)
      unfold cel
      rw [hM k hka, hf k hka]
  · rw [List.getElem?_eq_none (by simpa [wrd] using Nat.le_of_not_lt hk), List.getElem?_eq_none (by simpa [wrd] using Nat.le_of_not_lt hk)]
theorem wrd_push {B : Nat} {cA : Nat → ClassId} {ph : PH} {M M' : PM} (hM : ∀ a', a' < ph.1 → M' a' = M a') :
    wrd B cA ph M ++ [(B + ph.1, cel B cA ph.2 M' ph.1)] = wrd B cA (ph.1 + 1, ph.2) M' := by
  unfold wrd
  rw [List.range_succ, List.map_append]
  congr 1
  apply List.map_congr_left
  intro a ha
  have hl : a < ph.1 := List.mem_range.mp ha
  show (B + a, cel B cA ph.2 M a) = (B + a, cel B cA ph.2 M' a)
  unfold cel
  rw [hM a hl]
theorem mset_ne {M : PM} {a : Nat} {j v : Int} {a' : Nat} (h : a' ≠ a) : mset M a j v a' = M a' := by
  funext j'
  simp [mset, h]
theorem slp_mono {n m : Nat} (h : n ≤ m) : slp n ≤ slp m := by
  have key : ∀ (l : List (Nat × Nat)) (n m : Nat), n ≤ m → ((l.take n).map (fun q => q.2)).sum ≤ ((l.take m).map (fun q => q.2)).sum := by
    intro l
    induction l with
    | nil => intro n m _; simp
    | cons x l ih =>
      intro n m hnm
      cases n with
      | zero => simp
      | succ n =>
        cases m with
        | zero => omega
        | succ m =>
          have := ih n m (by omega)
          simp only [List.take_succ_cons, List.map_cons, List.sum_cons]
          omega
  exact key _ n m h
/-! ints -/
abbrev R32 (x : Int) : Prop := -2147483648 ≤ x ∧ x < 2147483648
abbrev R64 (x : Int) : Prop := -9223372036854775808 ≤ x ∧ x < 9223372036854775808
theorem i32 {x : Int} (h : R32 x) : (Int32.ofInt x).toInt = x := Int32.toInt_ofInt_of_le (by omega) (by omega)
theorem i64 {x : Int} (h : R64 x) : (Int64.ofInt x).toInt = x := Int64.toInt_ofInt_of_le (by omega) (by omega)
theorem i32_le {x y : Int} (hx : R32 x) (hy : R32 y) : Int32.ofInt x ≤ Int32.ofInt y ↔ x ≤ y := by rw [Int32.le_iff_toInt_le, i32 hx, i32 hy]
theorem i32_lt {x y : Int} (hx : R32 x) (hy : R32 y) : Int32.ofInt x < Int32.ofInt y ↔ x < y := by rw [Int32.lt_iff_toInt_lt, i32 hx, i32 hy]
theorem i32_eq {x y : Int} (hx : R32 x) (hy : R32 y) : Int32.ofInt x = Int32.ofInt y ↔ x = y := by rw [← Int32.toInt_inj, i32 hx, i32 hy]
theorem i64_le {x y : Int} (hx : R64 x) (hy : R64 y) : Int64.ofInt x ≤ Int64.ofInt y ↔ x ≤ y := by rw [Int64.le_iff_toInt_le, i64 hx, i64 hy]
theorem i64_lt {x y : Int} (hx : R64 x) (hy : R64 y) : Int64.ofInt x < Int64.ofInt y ↔ x < y := by rw [Int64.lt_iff_toInt_lt, i64 hx, i64 hy]
theorem i64_eq {x y : Int} (hx : R64 x) (hy : R64 y) : Int64.ofInt x = Int64.ofInt y ↔ x = y := by rw [← Int64.toInt_inj, i64 hx, i64 hy]
theorem i32_cl {x : Int} (h0 : 0 ≤ x) (h : x < 2147483648) : (Int32.ofInt x).toNatClampNeg = x.toNat := by
  show (Int32.ofInt x).toInt.toNat = x.toNat
  rw [i32 ⟨by omega, h⟩]
theorem i32_in {x : Int} {n : Nat} (h0 : 0 ≤ x) (h : x < (n : Int)) (hn : n ≤ 2000000000) : vp_in (Int32.ofInt x) n := by
  intro q
  rcases q with q | q
  · rw [show (0 : Int32) = Int32.ofInt 0 from rfl, i32_lt ⟨by omega, by omega⟩ ⟨by omega, by omega⟩] at q
    omega
  · rw [i32_cl h0 (by omega)] at q
    omega
def bAnd (x y : Int) : Int := (Int32.ofInt x &&& Int32.ofInt y).toInt
def bOr (x y : Int) : Int := (Int32.ofInt x ||| Int32.ofInt y).toInt
def bXor (x y : Int) : Int := (Int32.ofInt x ^^^ Int32.ofInt y).toInt
def bShl (x y : Int) : Int := (Int32.ofInt x <<< (Int32.ofInt y &&& 31)).toInt
def bShr (x y : Int) : Int := (Int32.ofInt x >>> (Int32.ofInt y &&& 31)).toInt
def bUsr (x y : Int) : Int := (((Int32.ofInt x).toUInt32 >>> ((Int32.ofInt y).toUInt32 &&& Int32.toUInt32 31)).toInt32).toInt
def lAnd (x y : Int) : Int := (Int64.ofInt x &&& Int64.ofInt y).toInt
def lOr (x y : Int) : Int := (Int64.ofInt x ||| Int64.ofInt y).toInt
def lShl (x y : Int) : Int := (Int64.ofInt x <<< ((Int32.ofInt y).toInt64 &&& 63)).toInt
def cm3 (x y : Int) : Int := if x > y then 1 else if x = y then 0 else -1
/-! methods: words, room, contracts -/
def rin (v : Option PV) : Instr := match v with
  | none => .return_
  | some (.inl _) => .ireturn
  | some (.inr (.inl _)) => .lreturn
  | some (.inr (.inr _)) => .areturn
def rok (t : Option FieldType) (v : Option PV) : Prop := match t, v with
  | none, none => True
  | some .int, some (.inl _) => True
  | some .boolean, some (.inl i) => i = 0 ∨ i = 1
  | some .long, some (.inr (.inl _)) => True
  | some (.object _), some (.inr (.inr a)) => a < 1000000
  | _, _ => False
def wsM (i : Nat) : List Cond := .code (mr i).1 (mr i).2.1 (mr i).2.2.1 (mr i).2.2.2 :: lw_g
def rmM (K : Nat) (ph ph' : PH) : Room := { frames := K, cells := ph'.1 - ph.1, slots := slp ph'.1 - slp ph.1, locals := 64 * K }
def bI (B : Nat) (D : va_G) (cA : Nat → ClassId) (ph : PH) (M : PM) (t : State) : Prop := Wd B D cA ph M t.heap ∧ va_K D classes (tys cA) t
def QcM (rt : Option FieldType) (B : Nat) (D : va_G) (cA : Nat → ClassId) (ph : PH) (Q : Option PV → PM → Prop) : Array Value → State → Outcome → State → Prop := match rt with
  | none => va_Qv (fun M => Q none M) (bI B D cA ph) (AB B)
  | some .long => va_Ql (fun r M => ∃ i, r = Int64.ofInt i ∧ Q (some (.inr (.inl i))) M) (bI B D cA ph) (AB B)
  | some (.object _) => va_Qr (S := PM × Nat) (fun u => Q (some (.inr (.inr u.2))) u.1) (fun u a t => a = B + u.2 ∧ u.2 < 1000000 ∧ bI B D cA ph u.1 t) (AB B)
  | some _ => va_Qi (fun r M => ∃ i, r = Int32.ofInt i ∧ Q (some (.inl i)) M) (bI B D cA ph) (AB B)
def Call (K mj : Nat) (A : List PV) (ph ph' : PH) (M : PM) (Q : Option PV → PM → Prop) : Prop :=
  ∀ (l : Launch) (B b : Nat) (D : va_G) (cA : Nat → ClassId), Met l (mr mj).1 (wsM mj) (rmM K ph ph') (va_Pc (A.map (rv B b)) (fun U => Wd B D cA ph M U.heap ∧ va_K D classes (tys cA) U ∧ Nst U)) (QcM (mr mj).2.2.2 B D cA ph' Q) (ph'.1 - ph.1) (slp ph'.1 - slp ph.1) (AB B)
abbrev retI (q : Int → PM → Prop) : Option PV → PM → Prop := fun v M => match v with
  | some (.inl i) => q i M
  | _ => False
abbrev retL (q : Int → PM → Prop) : Option PV → PM → Prop := fun v M => match v with
  | some (.inr (.inl i)) => q i M
  | _ => False
abbrev retR (q : Nat → PM → Prop) : Option PV → PM → Prop := fun v M => match v with
  | some (.inr (.inr a)) => q a M
  | _ => False
abbrev retV (q : PM → Prop) : Option PV → PM → Prop := fun v M => match v with
  | none => q M
  | _ => False
def Fix (S : PS) (K mi : Nat) (phE : PH) (Q : Option PV → PM → Prop) (l : Launch) (B b : Nat) (D : va_G) (cA : Nat → ClassId) (p : Program) (e : Env) (R : Room) (s : State) (m : MethodId) (args : Array Value) (below : List Frame) (meth : Method) (c : Code) (H0 : Heap) (c0 s0 : Nat) (Z : State → Prop) : Prop :=
  p.tables.exec = Jvm.exec ∧ c.code = (mr mi).2.1 ∧ c.maxLocals = (mr mi).2.2.1 ∧ s.vm.findClass (mr mi).1.cls = some m.cls ∧ (∀ w ∈ lw_g, w.before args s = true) ∧ (meth.name = (mr mi).1.name ∧ Nst s) ∧ va_K D classes (tys cA) s ∧ B ≤ H0.size ∧ (K ≤ R.frames ∧ 64 * K ≤ R.locals) ∧ (phE.1 ≤ R.cells + c0 ∧ slp phE.1 ≤ R.slots + s0) ∧ (match S with
    | none => True
    | some q => va_X b q.1 (fun j => Int32.ofInt (q.2 j)) s H0 ∧ b < B ∧ b < H0.size ∧ q.1 ≤ 2000000000) ∧
  (∀ (pc : Nat) (ls : Array Slot) (H : Heap) (locs : List Loc) (cells slots : Nat) (v : Option PV) (M : PM), Q v M → Wd B D cA phE M H → va_S (AB B) H0 H locs → cells + c0 = phE.1 → slots + s0 = slp phE.1 → rok (mr mi).2.2.2 v → decode (mr mi).2.1 pc = .ok (rin v, 1) → W p l e R s m args below meth c H locs cells slots Z (F0 m pc ls (v.toList.map (rv B b))))
def lcs (B b : Nat) (L : List (Nat × PV)) : List (Nat × Value) := L.map fun q => (q.1, rv B b q.2)
/-- from this place of method mi, with these locals, this stack and these cells, the method comes to its end with Q -/
def G (S : PS) (K mi pc : Nat) (L : List (Nat × PV)) (st : List PV) (ph phE : PH) (M : PM) (Q : Option PV → PM → Prop) : Prop :=
  ∀ (l : Launch) (B b : Nat) (D : va_G) (cA : Nat → ClassId) (p : Program) (e : Env) (R : Room) (s : State) (m : MethodId) (args : Array Value) (below : List Frame) (meth : Method) (c : Code) (H0 : Heap) (c0 s0 : Nat) (Z : State → Prop),
    Fix S K mi phE Q l B b D cA p e R s m args below meth c H0 c0 s0 Z → ∀ (H : Heap) (locs : List Loc) (cells slots : Nat) (ls : Array Slot), va_S (AB B) H0 H locs → Wd B D cA ph M H → lv_has ls (mr mi).2.2.1 (lcs B b L) → cells + c0 = ph.1 → slots + s0 = slp ph.1 →
    W p l e R s m args below meth c H locs cells slots Z (F0 m pc ls (st.map (rv B b)))
theorem lcs_at {B b : Nat} {L : List (Nat × PV)} {ls : Array Slot} {n k i : Nat} {v : PV} (h : lv_has ls n (lcs B b L)) (hk : L[k]? = some (i, v)) : ls[i]? = some (.val (rv B b v)) :=
  lv_at h k (by simp [lcs, hk])
theorem lcs_st {B b : Nat} {L : List (Nat × PV)} {i : Nat} {v : PV} :
    (i, rv B b v) :: (lcs B b L).filter (fun q => !(q.1 == i) && !(q.1 + 1 == i && q.2.category == 2)) = lcs B b ((i, v) :: L.filter (fun q => !(q.1 == i) && !(q.1 + 1 == i && pcat q.2 == 2))) := by
  unfold lcs
  rw [List.map_cons, List.filter_map]
  congr 2
  apply List.filter_congr
  intro q _
  simp [Function.comp, rv_cat]
theorem lcs_st2 {B b : Nat} {L : List (Nat × PV)} {i : Nat} {v : PV} :
    (i, rv B b v) :: (lcs B b L).filter (fun q => !(q.1 == i) && (!(q.1 == i + 1) && !(q.1 + 1 == i && q.2.category == 2))) = lcs B b ((i, v) :: L.filter (fun q => !(q.1 == i) && (!(q.1 == i + 1) && !(q.1 + 1 == i && pcat q.2 == 2)))) := by
  unfold lcs
  rw [List.map_cons, List.filter_map]
  congr 2
  apply List.filter_congr
  intro q _
  simp [Function.comp, rv_cat]
def pargs : Nat → List PV → List (Nat × PV)
  | _, [] => []
  | i, v :: l => (i, v) :: pargs (i + pcat v) l
theorem pargs_eq (B b : Nat) : ∀ (A : List PV) (i : Nat), lv_args i (A.map (rv B b)) = lcs B b (pargs i A)
  | [], _ => rfl
  | v :: l, i => by
    have ih := pargs_eq B b l
    simp only [List.map_cons, lv_args, pargs, lcs, List.map_cons] at ih ⊢
    rw [rv_cat, ih]
    rcases v with x | x | x <;> rfl
theorem psl_len (B b : Nat) : ∀ (A : List PV), (lg_sl (A.map (rv B b))).length = (A.map pcat).sum
  | [] => rfl
  | v :: l => by
    have ih := psl_len B b l
    simp only [lg_sl, List.map_cons, List.flatMap_cons, List.length_append, List.sum_cons] at ih ⊢
    rw [ih, rv_cat]
    rcases v with i | i | a <;> rfl
/-- a method's contract out of a walk from its entry -/
theorem Call.intro {K mj : Nat} {A : List PV} {ph ph' : PH} {M : PM} {Q : Option PV → PM → Prop} {L : List (Nat × PV)} (hy : plainName (mr mj).1.cls = true) (hA : (A.map pcat).sum ≤ (mr mj).2.2.1) (hph : ph.1 ≤ ph'.1) (hL : pargs 0 A = L) (h : G none K mj 0 L [] ph ph' M Q) : Call K mj A ph ph' M Q := by
  intro l B b D cA
  refine Met.ofW (cc := (mr mj).2.1) (maxL := (mr mj).2.2.1) (ret := (mr mj).2.2.2) hy rfl ?_
  intro p e s m args below meth c s₁ Bd hml hv
  obtain ⟨rfl, hW, hK, hN⟩ := hv
  have hts := atoms_spec (ws := wsM mj) Bd.pre
  have hown : s.vm.findClass (mr mj).1.cls = some m.cls := findClass_of_methodNamed Bd.named
  have hr := Bd.returns
  have hlocks := Bd.notSynchronized
  have hx := Bd.exec
  have hb := Bd.bytes
  have hl := lv_entry (A.map (rv B b)) (n := (mr mj).2.2.1) (by rw [psl_len]; exact hA)
  rw [lg_entry_eq]
  rw [pargs_eq, hL] at hl
  have hm := slp_mono hph
  have hsz : B ≤ s.heap.size := by rcases hW.1 with h | h <;> omega
  refine h l B b D cA p e _ s m _ below meth c s.heap ph.1 (slp ph.1) _ ⟨hx, hb, hml, hown, fun w hw => hts w (List.mem_cons_of_mem _ hw), ⟨(name_of_methodNamed Bd.named Bd.method).1, hN⟩, hK, hsz, ⟨Nat.le_refl _, Nat.le_refl _⟩, ?_, trivial, ?_⟩ s.heap [] 0 0 _ va_S.rf hW hl (by omega) (by omega)
  · show ph'.1 ≤ ph'.1 - ph.1 + ph.1 ∧ slp ph'.1 ≤ slp ph'.1 - slp ph.1 + slp ph.1
    omega
  · intro pc ls H locs cells slots v M' hQ hWd hS hc hs hrok hdg
    obtain ⟨rfl⟩ : cells = ph'.1 - ph.1 := by omega
    obtain ⟨rfl⟩ : slots = slp ph'.1 - slp ph.1 := by omega
    generalize hrt : (mr mj).2.2.2 = rt at hr hrok ⊢
    rcases v with _ | v
    · cases rt with
      | none => exact W.vret hx hb hr (fun t ht hW' => ⟨⟨M', rfl, hQ, by rw [bI, ht]; exact ⟨hWd, va_K.moved hW'.alike hK⟩⟩, hS.F ht⟩) hS.2.2 hdg hlocks
      | some t => cases t <;> exact absurd hrok id
    · rcases v with i | i | a
      · cases rt with
        | none => exact absurd hrok id
        | some t =>
          cases t with
          | int => exact W.iret hx hb hr (fun t ht hW' => ⟨⟨Int32.ofInt i, M', rfl, ⟨i, rfl, hQ⟩, by rw [bI, ht]; exact ⟨hWd, va_K.moved hW'.alike hK⟩⟩, hS.F ht⟩) hS.2.2 hdg hlocks
          | boolean => exact W.zret (ty := .boolean) hx hb hr (by rcases hrok with rfl | rfl <;> rfl) (fun t ht hW' => ⟨⟨Int32.ofInt i, M', rfl, ⟨i, rfl, hQ⟩, by rw [bI, ht]; exact ⟨hWd, va_K.moved hW'.alike hK⟩⟩, hS.F ht⟩) hS.2.2 hdg hlocks
          | _ => exact absurd hrok id
      · cases rt with
        | none => exact absurd hrok id
        | some t =>
          cases t with
          | long => exact W.lret hx hb hr (fun t ht hW' => ⟨⟨Int64.ofInt i, M', rfl, ⟨i, rfl, hQ⟩, by rw [bI, ht]; exact ⟨hWd, va_K.moved hW'.alike hK⟩⟩, hS.F ht⟩) hS.2.2 hdg hlocks
          | _ => exact absurd hrok id
      · cases rt with
        | none => exact absurd hrok id
        | some t =>
          cases t with
          | object n =>
            have ha : a < 1000000 := hrok
            refine W.aret hx hb hr (Or.inl ⟨n, rfl⟩) (Or.inr ⟨_, rfl⟩) (fun t ht hW' => ⟨⟨(M', a), B + a, ?_, hQ, ⟨rfl, ha, by rw [bI, ht]; exact ⟨hWd, va_K.moved hW'.alike hK⟩⟩⟩, hS.F ht⟩) hS.2.2 hdg hlocks
            show Outcome.returned (some (Value.ref (if a = 1000000 then b else B + a))) = _
            rw [if_neg (by omega)]
          | _ => exact absurd hrok id
