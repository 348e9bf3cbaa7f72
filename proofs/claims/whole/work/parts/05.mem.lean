/-! cells: fields, arrays, new ones -/
def cok (ci : Nat) (C : String) (T : u_T) (ty : Nat → FieldType) (N : Nat) : Prop := classes[ci]? = some (C, T, N) ∧ (∀ w ∈ u_ws C T N, w ∈ lw_g) ∧ (∀ k, k < N → parseFieldDescriptor (T k).2.2.1 = some (ty k)) ∧ ∀ a, a < N → ∀ b, b < N → a ≠ b → (T a).2.1 ≠ (T b).2.1
/-- pool entry ix of class own is field k (of type ty) of class ci, which has N fields and is called C -/
def fok (own C : String) (ix ci k N : Nat) (ty : FieldType) (fin : Bool) : Prop := ∃ (T : u_T) (tyf : Nat → FieldType), cok ci C T tyf N ∧ k < N ∧ Cond.fieldLink own ix (T k).1 (T k).2.1 (T k).2.2.1 ∈ lw_g ∧ tyf k = ty ∧ (T k).2.2.2 = fin ∧ (T k).1 = C
theorem cel_obj {B : Nat} {cA : Nat → ClassId} {f : PF} {M : PM} {a ci N : Nat} (h : lay a = (ci + 3, N)) : cel B cA f M a = .inr (ci, (List.range N).map (fval B ci (rfg f a) (M a))) := by
  simp [cel, h]
theorem cel_int {B : Nat} {cA : Nat → ClassId} {f : PF} {M : PM} {a n : Nat} (h : lay a = (0, n)) : cel B cA f M a = .inl (cA 0, n, .inl (fun j => Int32.ofInt (M a (j : Int)))) := by
  simp [cel, h]
theorem cel_long {B : Nat} {cA : Nat → ClassId} {f : PF} {M : PM} {a n : Nat} (h : lay a = (1, n)) : cel B cA f M a = .inl (cA 1, n, .inr (.inl (fun j => Int64.ofInt (M a (j : Int))))) := by
  simp [cel, h]
theorem cel_bool {B : Nat} {cA : Nat → ClassId} {f : PF} {M : PM} {a n : Nat} (h : lay a = (2, n)) : cel B cA f M a = .inl (cA 2, n, .inl (fun j => Int32.ofInt (M a (j : Int)))) := by
  simp [cel, h]
theorem fval_get {B ci : Nat} {fa : Nat → Nat} {Ma : Int → Int} {N k : Nat} (h : k < N) : ((List.range N).map (fval B ci fa Ma))[k]? = some (fval B ci fa Ma k) := by
  simp [h]
theorem fval_set {B ci : Nat} {fa fa' : Nat → Nat} {Ma Ma' : Int → Int} {N k : Nat} (h : k < N) (hM : ∀ j : Nat, j ≠ k → Ma' (j : Int) = Ma (j : Int)) (hf : ∀ j, j ≠ k → fa' j = fa j) :
    ((List.range N).map (fval B ci fa Ma)).set k (fval B ci fa' Ma' k) = (List.range N).map (fval B ci fa' Ma') := by
  apply List.ext_getElem?
  intro j
  by_cases hj : j < N
  · by_cases hjk : j = k
    · subst hjk
      rw [List.getElem?_set_self (by simpa using hj), fval_get hj]
    · rw [List.getElem?_set_ne (Ne.symm hjk), fval_get hj, fval_get hj]
      unfold fval
      rw [hM j hjk, hf j hjk]
  · rw [List.getElem?_eq_none (by simpa using Nat.le_of_not_lt hj), List.getElem?_eq_none (by simpa using Nat.le_of_not_lt hj)]
theorem rv_ref {B b a : Nat} (h : a < 1000000) : rv B b (.inr (.inr a)) = .ref (B + a) := by
  show Value.ref (if a = 1000000 then b else B + a) = _
  rw [if_neg (by omega)]
section MEM
variable {S : PS} {K mi pc : Nat} {L : List (Nat × PV)} {st : List PV} {ph phE : PH} {M : PM} {Q : Option PV → PM → Prop}
theorem G_getI {C : String} {ix ci k N a : Nat} {ty : FieldType} {fin : Bool} (hd : decode (mr mi).2.1 pc = .ok (.getfield ix, 3)) (hw : fok (mr mi).1.cls C ix ci k N ty fin) (ha : a < ph.1 ∧ a < 1000000) (hla : lay a = (ci + 3, N)) (hf : fct ci k = 0 ∨ fct ci k = 2)
    (kk : G S K mi (pc + 3) L (.inl (M a (k : Int)) :: st) ph phE M Q) : G S K mi pc L (.inr (.inr a) :: st) ph phE M Q := by
  intro l B b D cA p e R s m args below meth c H0 c0 s0 Z F H locs cells slots ls hS hW hl hc hs
  obtain ⟨T, tyf, hck, hk, hlk, -⟩ := hw
  have he := wrd_get (B := B) (cA := cA) (M := M) ha.1
  rw [cel_obj hla] at he
  rw [List.map_cons, rv_ref ha.2]
  refine va_get F.1 F.2.1 F.2.2.2.2.1 hck.2.1 F.2.2.2.1 F.2.2.2.2.2.2.1 hW.2 a he hck.1 k hk (F.2.2.2.2.1 _ hlk) (fun _ h => h) (v := .int (Int32.ofInt (M a (k : Int)))) ?_ hd (kk l B b D cA p e R s m args below meth c H0 c0 s0 Z F H locs cells slots ls hS hW hl hc hs)
  rw [fval_get hk]
  rcases hf with h | h <;> simp [fval, h]
theorem G_getL {C : String} {ix ci k N a : Nat} {ty : FieldType} {fin : Bool} (hd : decode (mr mi).2.1 pc = .ok (.getfield ix, 3)) (hw : fok (mr mi).1.cls C ix ci k N ty fin) (ha : a < ph.1 ∧ a < 1000000) (hla : lay a = (ci + 3, N)) (hf : fct ci k = 1)
    (kk : G S K mi (pc + 3) L (.inr (.inl (M a (k : Int))) :: st) ph phE M Q) : G S K mi pc L (.inr (.inr a) :: st) ph phE M Q := by
  intro l B b D cA p e R s m args below meth c H0 c0 s0 Z F H locs cells slots ls hS hW hl hc hs
  obtain ⟨T, tyf, hck, hk, hlk, -⟩ := hw
  have he := wrd_get (B := B) (cA := cA) (M := M) ha.1
  rw [cel_obj hla] at he
  rw [List.map_cons, rv_ref ha.2]
  refine va_get F.1 F.2.1 F.2.2.2.2.1 hck.2.1 F.2.2.2.1 F.2.2.2.2.2.2.1 hW.2 a he hck.1 k hk (F.2.2.2.2.1 _ hlk) (fun _ h => h) (v := .long (Int64.ofInt (M a (k : Int)))) ?_ hd (kk l B b D cA p e R s m args below meth c H0 c0 s0 Z F H locs cells slots ls hS hW hl hc hs)
  rw [fval_get hk]
  simp [fval, hf]
theorem G_getR {C : String} {ix ci k N a q : Nat} {ty : FieldType} {fin : Bool} (hd : decode (mr mi).2.1 pc = .ok (.getfield ix, 3)) (hw : fok (mr mi).1.cls C ix ci k N ty fin) (ha : a < ph.1 ∧ a < 1000000) (hla : lay a = (ci + 3, N)) (hf : fct ci k = 3) (hq : rfg ph.2 a k = q + 1) (hq1 : q < 1000000)
    (kk : G S K mi (pc + 3) L (.inr (.inr q) :: st) ph phE M Q) : G S K mi pc L (.inr (.inr a) :: st) ph phE M Q := by
  intro l B b D cA p e R s m args below meth c H0 c0 s0 Z F H locs cells slots ls hS hW hl hc hs
  obtain ⟨T, tyf, hck, hk, hlk, -⟩ := hw
  have he := wrd_get (B := B) (cA := cA) (M := M) ha.1
  rw [cel_obj hla] at he
  rw [List.map_cons, rv_ref ha.2]
  have kk2 := kk l B b D cA p e R s m args below meth c H0 c0 s0 Z F H locs cells slots ls hS hW hl hc hs
  rw [List.map_cons, rv_ref hq1] at kk2
  refine va_get F.1 F.2.1 F.2.2.2.2.1 hck.2.1 F.2.2.2.1 F.2.2.2.2.2.2.1 hW.2 a he hck.1 k hk (F.2.2.2.2.1 _ hlk) (fun _ h => h) (v := .ref (B + q)) ?_ hd kk2
  rw [fval_get hk]
  simp [fval, hf, hq]
theorem wd_field {B : Nat} {cA : Nat → ClassId} {M M' : PM} {f' : PF} {a ci k N : Nat} (ha : a < ph.1) (hla : lay a = (ci + 3, N)) (hk : k < N) (hM : ∀ a', a' ≠ a → M' a' = M a') (hMk : ∀ j : Nat, j ≠ k → M' a (j : Int) = M a (j : Int)) (hf : ∀ a', a' ≠ a → rfg f' a' = rfg ph.2 a') (hfk : ∀ j, j ≠ k → rfg f' a j = rfg ph.2 a j) :
    (wrd B cA ph M).set a (B + a, .inr (ci, ((List.range N).map (fval B ci (rfg ph.2 a) (M a))).set k (fval B ci (rfg f' a) (M' a) k))) = wrd B cA (ph.1, f') M' := by
  rw [fval_set hk hMk hfk, ← cel_obj hla, wrd_set ha hM hf]
/-- the put rows: v is what the field holds then -/
theorem G_put {C : String} {ix ci k N a : Nat} {ty : FieldType} {fin : Bool} {v : PV} {M' : PM} {f' : PF} (hd : decode (mr mi).2.1 pc = .ok (.putfield ix, 3)) (hw : fok (mr mi).1.cls C ix ci k N ty fin) (ha : a < ph.1 ∧ a < 1000000) (hla : lay a = (ci + 3, N))
    (hfin : fin = false ∨ ((mr mi).1.name = "<init>" ∧ (mr mi).1.cls = C))
    (hty : ∀ B b : Nat, narrow ty (rv B b v) = rv B b v ∧ fits ty (rv B b v) = true ∧ rv B b v = fval B ci (rfg f' a) (M' a) k)
    (hM : ∀ a', a' ≠ a → M' a' = M a') (hMk : ∀ j : Nat, j ≠ k → M' a (j : Int) = M a (j : Int)) (hf : ∀ a', a' ≠ a → rfg f' a' = rfg ph.2 a') (hfk : ∀ j, j ≠ k → rfg f' a j = rfg ph.2 a j)
    (kk : G S K mi (pc + 3) L st (ph.1, f') phE M' Q) : G S K mi pc L (v :: .inr (.inr a) :: st) ph phE M Q := by
  intro l B b D cA p e R s m args below meth c H0 c0 s0 Z F H locs cells slots ls hS hW hl hc hs
  obtain ⟨T, tyf, hck, hk, hlk, hty1, hfn, hC⟩ := hw
  have he := wrd_get (B := B) (cA := cA) (M := M) ha.1
  rw [cel_obj hla] at he
  rw [List.map_cons, List.map_cons, rv_ref ha.2]
  obtain ⟨hn, hft, hv⟩ := hty B b
  have hd1 := hck.2.2.1 k hk
  rw [hty1] at hd1
  have hap := va_apart (own := (mr mi).1.cls) F.2.2.2.2.1 hck.2.1 tyf hck.2.2.1 hck.2.2.2 F.2.2.2.2.2.2.1 hck.1
  obtain ⟨r, h1, cell, q1, q2, q3, q4⟩ := hW.2 a _ he
  have hr : r = (C, T, N) := Option.some.inj (h1.symm.trans hck.1)
  subst hr
  obtain ⟨hSl, hfc, kC, hkC, hkind⟩ := F.2.2.2.2.2.2.1.1 ci _ hck.1
  obtain ⟨cf, kf, fi, f, hi, hsl⟩ := hSl k hk
  have hlay := F.2.2.2.2.1 _ (hck.2.1 _ (u_in_lay hk))
  have hst := (u_facts hfc hkC (u_lays F.2.2.2.2.1 hck.2.1 hk) hi).1
  have hlen : k < ((List.range N).map (fval B ci (rfg ph.2 a) (M a))).length := by simpa using hk
  have go : ∀ H' : Heap, H'[B + a]? = some (cell.setSlot (D.2 ci k) (rv B b v)) → H'.size = H.size → (∀ q : Nat, q ≠ B + a → H'[q]? = H[q]?) → W p l e R s m args below meth c H' (locs ++ [⟨B + a, D.2 ci k⟩]) cells slots Z (F0 m (pc + 3) ls (st.map (rv B b))) := by
    intro H' e1 e2 e3
    have hP1 := hW.2.set wrd_D he (e := .inr (ci, ((List.range N).map (fval B ci (rfg ph.2 a) (M a))).set k (rv B b v))) (H1 := H') ⟨_, hck.1, t_OB.to (V := updV (vp_V ((List.range N).map (fval B ci (rfg ph.2 a) (M a)))) k (rv B b v)) ⟨_, e1, q2, q3, t_set q4 hap hk (rv B b v)⟩ (fun j _ => vp_updV_set hlen (rv B b v) j)⟩ e3
    rw [hv, wd_field ha.1 hla hk hM hMk hf hfk] at hP1
    refine kk l B b D cA p e R s m args below meth c H0 c0 s0 Z F H' _ cells slots ls (hS.put e2 e3 (Nat.le_add_right B a)) ⟨?_, hP1⟩ hl hc hs
    rw [e2]
    exact hW.1
  cases fin with
  | false =>
    unfold u_lay at hlay
    rw [if_neg (by rw [hfn]; decide)] at hlay
    have h6 := u_store hfc hkC hkind hlay hi hd1 hn hft
    refine W.putK F.1 F.2.1 (f := f) ⟨F.2.2.2.1, F.2.2.2.2.1 _ hlk, ⟨_, _, _, hi⟩, hst⟩ (by rw [q2]; exact h6) q1 q3 (by rw [hsl]; exact k2_hasslot (q4 k hk)) rfl rfl hd fun H' e1 e2 e3 => ?_
    rw [hsl] at e1 ⊢
    exact go H' e1 e2 e3
  | true =>
    rcases hfin with h | ⟨hin2, hcl⟩
    · exact absurd h (by simp)
    unfold u_lay at hlay
    rw [if_pos hfn] at hlay
    have hcf : m.cls = cf := by
      obtain ⟨_, _, c', _, _, _, -, -, hf', -, -, -, hown2, -⟩ := Cond.laysFinal_spec hlay
      have e1 : c' = cf := by have := hi.symm.trans hf'; simp at this; exact this.1.symm
      rw [hC, ← hcl] at hown2
      rw [← e1]; exact Option.some.inj (F.2.2.2.1.symm.trans hown2)
    have h6 := u_fits hfc hkC hkind (Or.inr hlay) hi hd1 hn hft
    refine W.putFinK F.1 F.2.1 F.2.2.2.1 (F.2.2.2.2.1 _ hlk) hi hst hcf (F.2.2.2.2.2.1.1.trans hin2) (by rw [q2]; exact h6) q1 q3 (by rw [hsl]; exact k2_hasslot (q4 k hk)) rfl rfl hd fun H' e1 e2 e3 => ?_
    rw [hsl] at e1 ⊢
    exact go H' e1 e2 e3
theorem mset_nej {M : PM} {a k : Nat} {v : Int} (j : Nat) (h : j ≠ k) : mset M a (k : Int) v a (j : Int) = M a (j : Int) := by
  have : ¬ ((j : Int) = (k : Int)) := by omega
  simp [mset, this]
theorem mset_eq {M : PM} {a : Nat} {k v : Int} : mset M a k v a k = v := by simp [mset]
theorem G_putI {C : String} {ix ci k N a : Nat} {x : Int} {fin : Bool} (hd : decode (mr mi).2.1 pc = .ok (.putfield ix, 3)) (hw : fok (mr mi).1.cls C ix ci k N .int fin) (ha : a < ph.1 ∧ a < 1000000) (hla : lay a = (ci + 3, N)) (hf : fct ci k = 0)
    (hfin : fin = false ∨ ((mr mi).1.name = "<init>" ∧ (mr mi).1.cls = C)) (kk : G S K mi (pc + 3) L st ph phE (mset M a (k : Int) x) Q) : G S K mi pc L (.inl x :: .inr (.inr a) :: st) ph phE M Q := by
  refine G_put (M' := mset M a (k : Int) x) (f' := ph.2) hd hw ha hla hfin (fun B b => ⟨rfl, rfl, ?_⟩) (fun a' h => mset_ne h) (fun j h => mset_nej j h) (fun _ _ => rfl) (fun _ _ => rfl) kk
  unfold fval
  rw [hf, mset_eq]
  rfl
theorem G_putZ {C : String} {ix ci k N a : Nat} {x : Int} {fin : Bool} (hd : decode (mr mi).2.1 pc = .ok (.putfield ix, 3)) (hw : fok (mr mi).1.cls C ix ci k N .boolean fin) (ha : a < ph.1 ∧ a < 1000000) (hla : lay a = (ci + 3, N)) (hf : fct ci k = 2)
    (hfin : fin = false ∨ ((mr mi).1.name = "<init>" ∧ (mr mi).1.cls = C)) (hx : x = 0 ∨ x = 1) (kk : G S K mi (pc + 3) L st ph phE (mset M a (k : Int) x) Q) : G S K mi pc L (.inl x :: .inr (.inr a) :: st) ph phE M Q := by
  refine G_put (M' := mset M a (k : Int) x) (f' := ph.2) hd hw ha hla hfin (fun B b => ⟨by rcases hx with rfl | rfl <;> rfl, by rcases hx with rfl | rfl <;> rfl, ?_⟩) (fun a' h => mset_ne h) (fun j h => mset_nej j h) (fun _ _ => rfl) (fun _ _ => rfl) kk
  unfold fval
  rw [hf, mset_eq]
  rfl
theorem G_putL {C : String} {ix ci k N a : Nat} {x : Int} {fin : Bool} (hd : decode (mr mi).2.1 pc = .ok (.putfield ix, 3)) (hw : fok (mr mi).1.cls C ix ci k N .long fin) (ha : a < ph.1 ∧ a < 1000000) (hla : lay a = (ci + 3, N)) (hf : fct ci k = 1)
    (hfin : fin = false ∨ ((mr mi).1.name = "<init>" ∧ (mr mi).1.cls = C)) (kk : G S K mi (pc + 3) L st ph phE (mset M a (k : Int) x) Q) : G S K mi pc L (.inr (.inl x) :: .inr (.inr a) :: st) ph phE M Q := by
  refine G_put (M' := mset M a (k : Int) x) (f' := ph.2) hd hw ha hla hfin (fun B b => ⟨rfl, rfl, ?_⟩) (fun a' h => mset_ne h) (fun j h => mset_nej j h) (fun _ _ => rfl) (fun _ _ => rfl) kk
  unfold fval
  rw [hf, mset_eq]
  rfl
theorem G_putR {C : String} {ix ci k N a q : Nat} {ty : FieldType} {fin : Bool} (hd : decode (mr mi).2.1 pc = .ok (.putfield ix, 3)) (hw : fok (mr mi).1.cls C ix ci k N ty fin) (hty : (∃ n, ty = .object n) ∨ ∃ t, ty = .array t) (ha : a < ph.1 ∧ a < 1000000) (hla : lay a = (ci + 3, N)) (hf : fct ci k = 3) (hq : q < 1000000)
    (hfin : fin = false ∨ ((mr mi).1.name = "<init>" ∧ (mr mi).1.cls = C)) (kk : G S K mi (pc + 3) L st (ph.1, (a, k, q) :: ph.2) phE M Q) : G S K mi pc L (.inr (.inr q) :: .inr (.inr a) :: st) ph phE M Q := by
  refine G_put (M' := M) (f' := (a, k, q) :: ph.2) hd hw ha hla hfin (fun B b => ?_) (fun _ _ => rfl) (fun _ _ => rfl) (fun a' h => ?_) (fun j h => ?_) kk
  · rw [rv_ref hq]
    refine ⟨by rcases hty with ⟨n, rfl⟩ | ⟨t, rfl⟩ <;> rfl, by rcases hty with ⟨n, rfl⟩ | ⟨t, rfl⟩ <;> rfl, ?_⟩
    unfold fval
    rw [hf]
    simp [rfg]
  · funext j
    simp [rfg, Ne.symm h]
  · simp [rfg, Ne.symm h]
/-! arrays -/
theorem G_iald {a n : Nat} {i : Int} (hd : decode (mr mi).2.1 pc = .ok (.iaload, 1)) (ha : a < ph.1 ∧ a < 1000000) (hla : lay a = (0, n)) (hn : n ≤ 2000000000) (hi : 0 ≤ i ∧ i < (n : Int)) (kk : G S K mi (pc + 1) L (.inl (M a i) :: st) ph phE M Q) : G S K mi pc L (.inl i :: .inr (.inr a) :: st) ph phE M Q := by
  intro l B b D cA p e R s m args below meth c H0 c0 s0 Z F H locs cells slots ls hS hW hl hc hs
  have he := wrd_get (B := B) (cA := cA) (M := M) ha.1
  rw [cel_int hla] at he
  rw [List.map_cons, List.map_cons, rv_ref ha.2]
  refine va_iald F.1 F.2.1 F.2.2.2.2.2.2.1 hW.2 a 0 he rfl (i32_in hi.1 hi.2 hn) hd ?_
  have z := kk l B b D cA p e R s m args below meth c H0 c0 s0 Z F H locs cells slots ls hS hW hl hc hs
  rw [i32_cl hi.1 (by omega), Int.toNat_of_nonneg hi.1]
  exact z
theorem G_zald {a n : Nat} {i : Int} (hd : decode (mr mi).2.1 pc = .ok (.baload, 1)) (ha : a < ph.1 ∧ a < 1000000) (hla : lay a = (2, n)) (hn : n ≤ 2000000000) (hi : 0 ≤ i ∧ i < (n : Int)) (kk : G S K mi (pc + 1) L (.inl (M a i) :: st) ph phE M Q) : G S K mi pc L (.inl i :: .inr (.inr a) :: st) ph phE M Q := by
  intro l B b D cA p e R s m args below meth c H0 c0 s0 Z F H locs cells slots ls hS hW hl hc hs
  have he := wrd_get (B := B) (cA := cA) (M := M) ha.1
  rw [cel_bool hla] at he
  rw [List.map_cons, List.map_cons, rv_ref ha.2]
  refine va_zald F.1 F.2.1 F.2.2.2.2.2.2.1 hW.2 a 2 he rfl (i32_in hi.1 hi.2 hn) hd ?_
  have z := kk l B b D cA p e R s m args below meth c H0 c0 s0 Z F H locs cells slots ls hS hW hl hc hs
  rw [i32_cl hi.1 (by omega), Int.toNat_of_nonneg hi.1]
  exact z
theorem G_lald {a n : Nat} {i : Int} (hd : decode (mr mi).2.1 pc = .ok (.laload, 1)) (ha : a < ph.1 ∧ a < 1000000) (hla : lay a = (1, n)) (hn : n ≤ 2000000000) (hi : 0 ≤ i ∧ i < (n : Int)) (kk : G S K mi (pc + 1) L (.inr (.inl (M a i)) :: st) ph phE M Q) : G S K mi pc L (.inl i :: .inr (.inr a) :: st) ph phE M Q := by
  intro l B b D cA p e R s m args below meth c H0 c0 s0 Z F H locs cells slots ls hS hW hl hc hs
  have he := wrd_get (B := B) (cA := cA) (M := M) ha.1
  rw [cel_long hla] at he
  rw [List.map_cons, List.map_cons, rv_ref ha.2]
  refine va_lald F.1 F.2.1 F.2.2.2.2.2.2.1 hW.2 a 1 he rfl (i32_in hi.1 hi.2 hn) hd ?_
  have z := kk l B b D cA p e R s m args below meth c H0 c0 s0 Z F H locs cells slots ls hS hW hl hc hs
  rw [i32_cl hi.1 (by omega), Int.toNat_of_nonneg hi.1]
  exact z
theorem mset_arr {M : PM} {a : Nat} {i x : Int} (hi : 0 ≤ i) (j : Nat) : mset M a i x a (j : Int) = if j = i.toNat then x else M a (j : Int) := by
  have : ((j : Int) = i) ↔ j = i.toNat := by omega
  simp [mset, this]
theorem G_iast {a n : Nat} {i x : Int} (hd : decode (mr mi).2.1 pc = .ok (.iastore, 1)) (ha : a < ph.1 ∧ a < 1000000) (hla : lay a = (0, n)) (hn : n ≤ 2000000000) (hi : 0 ≤ i ∧ i < (n : Int)) (kk : G S K mi (pc + 1) L st ph phE (mset M a i x) Q) : G S K mi pc L (.inl x :: .inl i :: .inr (.inr a) :: st) ph phE M Q := by
  intro l B b D cA p e R s m args below meth c H0 c0 s0 Z F H locs cells slots ls hS hW hl hc hs
  have he := wrd_get (B := B) (cA := cA) (M := M) ha.1
  rw [cel_int hla] at he
  rw [List.map_cons, List.map_cons, List.map_cons, rv_ref ha.2]
  refine W.iast F.1 F.2.1 (hW.2 a _ he) ((F.2.2.2.2.2.2.1.2 0 _ rfl).1 n (fun j => .int (Int32.ofInt (M a (j : Int))))) (fun q => by cases q) (by show ¬ (_ ∨ (arrV _ _ _).slots.size ≤ _); rw [arrV_size]; exact i32_in hi.1 hi.2 hn) rfl rfl hd fun H1 e1 e2 e3 => ?_
  have e4 : H1[B + a]? = some (vp_cell (cA 0) (n, .inl (fun j => Int32.ofInt (mset M a i x a (j : Int))))) := by
    rw [show H1[B + a]? = _ from e1]
    show some ((vp_cell (cA 0) (n, .inl (fun j => Int32.ofInt (M a (j : Int))))).setSlot _ _) = _
    rw [vp_cell_i, vp_cell_i, arrV_store]
    congr 2
    funext q
    rw [mset_arr hi.1, i32_cl hi.1 (by omega)]
    unfold updV
    split <;> rfl
  have hP1 := hW.2.set wrd_D he (e := .inl (cA 0, n, .inl (fun j => Int32.ofInt (mset M a i x a (j : Int))))) (H1 := H1) e4 e3
  rw [← cel_int (f := ph.2) (M := mset M a i x) hla, wrd_set ha.1 (fun a' h => mset_ne h) (fun _ _ => rfl)] at hP1
  exact kk l B b D cA p e R s m args below meth c H0 c0 s0 Z F H1 _ cells slots ls (hS.put e2 e3 (Nat.le_add_right B a)) ⟨by rw [e2]; exact hW.1, hP1⟩ hl hc hs
theorem G_last {a n : Nat} {i x : Int} (hd : decode (mr mi).2.1 pc = .ok (.lastore, 1)) (ha : a < ph.1 ∧ a < 1000000) (hla : lay a = (1, n)) (hn : n ≤ 2000000000) (hi : 0 ≤ i ∧ i < (n : Int)) (kk : G S K mi (pc + 1) L st ph phE (mset M a i x) Q) : G S K mi pc L (.inr (.inl x) :: .inl i :: .inr (.inr a) :: st) ph phE M Q := by
  intro l B b D cA p e R s m args below meth c H0 c0 s0 Z F H locs cells slots ls hS hW hl hc hs
  have he := wrd_get (B := B) (cA := cA) (M := M) ha.1
  rw [cel_long hla] at he
  rw [List.map_cons, List.map_cons, List.map_cons, rv_ref ha.2]
  refine W.last F.1 F.2.1 (hW.2 a _ he) ((F.2.2.2.2.2.2.1.2 1 _ rfl).1 n (fun j => .long (Int64.ofInt (M a (j : Int))))) (fun q => by cases q) (by show ¬ (_ ∨ (arrV _ _ _).slots.size ≤ _); rw [arrV_size]; exact i32_in hi.1 hi.2 hn) rfl rfl hd fun H1 e1 e2 e3 => ?_
  have e4 : H1[B + a]? = some (vp_cell (cA 1) (n, .inr (.inl (fun j => Int64.ofInt (mset M a i x a (j : Int)))))) := by
    rw [show H1[B + a]? = _ from e1]
    show some ((vp_cell (cA 1) (n, .inr (.inl (fun j => Int64.ofInt (M a (j : Int)))))).setSlot _ _) = _
    rw [vp_cell_l, vp_cell_l, arrV_store]
    congr 2
    funext q
    rw [mset_arr hi.1, i32_cl hi.1 (by omega)]
    unfold updV
    split <;> rfl
  have hP1 := hW.2.set wrd_D he (e := .inl (cA 1, n, .inr (.inl (fun j => Int64.ofInt (mset M a i x a (j : Int)))))) (H1 := H1) e4 e3
  rw [← cel_long (f := ph.2) (M := mset M a i x) hla, wrd_set ha.1 (fun a' h => mset_ne h) (fun _ _ => rfl)] at hP1
  exact kk l B b D cA p e R s m args below meth c H0 c0 s0 Z F H1 _ cells slots ls (hS.put e2 e3 (Nat.le_add_right B a)) ⟨by rw [e2]; exact hW.1, hP1⟩ hl hc hs
theorem G_zast {a n : Nat} {i x : Int} (hd : decode (mr mi).2.1 pc = .ok (.bastore, 1)) (ha : a < ph.1 ∧ a < 1000000) (hla : lay a = (2, n)) (hn : n ≤ 2000000000) (hi : 0 ≤ i ∧ i < (n : Int)) (hx : x = 0 ∨ x = 1) (kk : G S K mi (pc + 1) L st ph phE (mset M a i x) Q) : G S K mi pc L (.inl x :: .inl i :: .inr (.inr a) :: st) ph phE M Q := by
  intro l B b D cA p e R s m args below meth c H0 c0 s0 Z F H locs cells slots ls hS hW hl hc hs
  have he := wrd_get (B := B) (cA := cA) (M := M) ha.1
  rw [cel_bool hla] at he
  rw [List.map_cons, List.map_cons, List.map_cons, rv_ref ha.2]
  refine W.zast F.1 F.2.1 (hW.2 a _ he) ((F.2.2.2.2.2.2.1.2 2 _ rfl).1 n (fun j => .int (Int32.ofInt (M a (j : Int))))) (fun q => by cases q) (by show ¬ (_ ∨ (arrV _ _ _).slots.size ≤ _); rw [arrV_size]; exact i32_in hi.1 hi.2 hn) rfl rfl hd fun H1 e1 e2 e3 => ?_
  have e4 : H1[B + a]? = some (vp_cell (cA 2) (n, .inl (fun j => Int32.ofInt (mset M a i x a (j : Int))))) := by
    rw [show H1[B + a]? = _ from e1]
    show some ((vp_cell (cA 2) (n, .inl (fun j => Int32.ofInt (M a (j : Int))))).setSlot _ _) = _
    rw [vp_cell_i, vp_cell_i, arrV_store]
    congr 2
    funext q
    rw [mset_arr hi.1, i32_cl hi.1 (by omega)]
    unfold updV
    split
    · rcases hx with rfl | rfl <;> rfl
    · rfl
  have hP1 := hW.2.set wrd_D he (e := .inl (cA 2, n, .inl (fun j => Int32.ofInt (mset M a i x a (j : Int))))) (H1 := H1) e4 e3
  rw [← cel_bool (f := ph.2) (M := mset M a i x) hla, wrd_set ha.1 (fun a' h => mset_ne h) (fun _ _ => rfl)] at hP1
  exact kk l B b D cA p e R s m args below meth c H0 c0 s0 Z F H1 _ cells slots ls (hS.put e2 e3 (Nat.le_add_right B a)) ⟨by rw [e2]; exact hW.1, hP1⟩ hl hc hs
theorem G_alen {a kd n : Nat} (hd : decode (mr mi).2.1 pc = .ok (.arraylength, 1)) (ha : a < ph.1 ∧ a < 1000000) (hla : lay a = (kd, n)) (hk : kd < 3) (kk : G S K mi (pc + 1) L (.inl (n : Int) :: st) ph phE M Q) : G S K mi pc L (.inr (.inr a) :: st) ph phE M Q := by
  intro l B b D cA p e R s m args below meth c H0 c0 s0 Z F H locs cells slots ls hS hW hl hc hs
  have he := wrd_get (B := B) (cA := cA) (M := M) ha.1
  rw [List.map_cons, rv_ref ha.2]
  have z := kk l B b D cA p e R s m args below meth c H0 c0 s0 Z F H locs cells slots ls hS hW hl hc hs
  match kd, hk, hla with
  | 0, _, hla =>
    rw [cel_int hla] at he
    exact va_alen F.1 F.2.1 F.2.2.2.2.2.2.1 hW.2 a 0 he rfl (v := Int32.ofInt (n : Int)) rfl hd z
  | 1, _, hla =>
    rw [cel_long hla] at he
    exact va_alen F.1 F.2.1 F.2.2.2.2.2.2.1 hW.2 a 1 he rfl (v := Int32.ofInt (n : Int)) rfl hd z
  | 2, _, hla =>
    rw [cel_bool hla] at he
    exact va_alen F.1 F.2.1 F.2.2.2.2.2.2.1 hW.2 a 2 he rfl (v := Int32.ofInt (n : Int)) rfl hd z
/-! the law's script -/
theorem G_sld {n : Nat} {f : Nat → Int} {i : Int} (hd : decode (mr mi).2.1 pc = .ok (.iaload, 1)) (hi : 0 ≤ i ∧ i < (n : Int)) (kk : G (some (n, f)) K mi (pc + 1) L (.inl (f i.toNat) :: st) ph phE M Q) : G (some (n, f)) K mi pc L (.inl i :: .inr (.inr 1000000) :: st) ph phE M Q := by
  intro l B b D cA p e R s m args below meth c H0 c0 s0 Z F H locs cells slots ls hS hW hl hc hs
  obtain ⟨hX, hbB, hbl, hn⟩ := F.2.2.2.2.2.2.2.2.2.2.1
  have hn : n ≤ 2000000000 := hn
  refine va_sld F.1 F.2.1 hX hbl (by show ¬ (B ≤ b); omega) hS (i32_in hi.1 hi.2 hn) hd ?_
  have z := kk l B b D cA p e R s m args below meth c H0 c0 s0 Z F H locs cells slots ls hS hW hl hc hs
  rw [i32_cl hi.1 (by omega)]
  exact z
theorem G_slen {n : Nat} {f : Nat → Int} (hd : decode (mr mi).2.1 pc = .ok (.arraylength, 1)) (kk : G (some (n, f)) K mi (pc + 1) L (.inl (n : Int) :: st) ph phE M Q) : G (some (n, f)) K mi pc L (.inr (.inr 1000000) :: st) ph phE M Q := by
  intro l B b D cA p e R s m args below meth c H0 c0 s0 Z F H locs cells slots ls hS hW hl hc hs
  obtain ⟨hX, hbB, hbl, hn⟩ := F.2.2.2.2.2.2.2.2.2.2.1
  exact va_slen F.1 F.2.1 hX hbl (by show ¬ (B ≤ b); omega) hS hd (kk l B b D cA p e R s m args below meth c H0 c0 s0 Z F H locs cells slots ls hS hW hl hc hs)
/-! System.arraycopy between places from 0 on -/
def mcpy (M : PM) (a0 a n : Nat) : PM := fun a' j => if a' = a ∧ j < (n : Int) then M a0 j else M a' j
theorem mcpy_ne {M : PM} {a0 a n a' : Nat} (h : a' ≠ a) : mcpy M a0 a n a' = M a' := by
  funext j
  simp [mcpy, h]
theorem i32_0cl : (Int32.ofInt 0).toNatClampNeg = 0 := rfl
theorem G_cpyi {a0 a n n0 n1 ix : Nat} (hd : decode (mr mi).2.1 pc = .ok (.invokestatic ix, 3)) (hw : Cond.methodLink (mr mi).1.cls ix arraycopyName ∈ lw_g) (h74 : 74 ≤ ph.1) (ha0 : a0 < ph.1 ∧ a0 < 1000000) (ha : a < ph.1 ∧ a < 1000000) (hla0 : lay a0 = (0, n0)) (hla : lay a = (0, n1)) (hn0 : n ≤ n0) (hn1 : n ≤ n1) (hn : n ≤ 2000000000) (hst : (st.map pcat).sum ≤ 8)
    (kk : G S (K + 1) mi (pc + 3) L st ph phE (mcpy M a0 a n) Q) : G S (K + 1) mi pc L (.inl (n : Int) :: .inl 0 :: .inr (.inr a) :: .inl 0 :: .inr (.inr a0) :: st) ph phE M Q := by
  intro l B b D cA p e R s m args below meth c H0 c0 s0 Z F H locs cells slots ls hS hW hl hc hs
  have he0 := wrd_get (B := B) (cA := cA) (M := M) ha0.1
  have he := wrd_get (B := B) (cA := cA) (M := M) ha.1
  rw [cel_int hla0] at he0
  rw [cel_int hla] at he
  simp only [List.map_cons]
  rw [rv_ref ha.2, rv_ref ha0.2]
  have hrm := F.2.2.2.2.2.2.2.2.1
  have hcl : (Int32.ofInt (n : Int)).toNatClampNeg = n := by rw [i32_cl (by omega) (by omega)]; omega
  have hnn : ¬ Int32.ofInt (n : Int) < 0 := by
    rw [show (0 : Int32) = Int32.ofInt 0 from rfl, i32_lt ⟨by omega, by omega⟩ ⟨by omega, by omega⟩]
    omega
  have hcs : ((st.map (rv B b)).map fun v => v.category).sum ≤ 8 := by
    rw [List.map_map, show (fun v => Value.category v) ∘ rv B b = pcat from funext (rv_cat B b)]
    exact hst
  refine va_copyi F.1 F.2.1 (F.2.2.1.trans hl.1.symm) F.2.2.2.1 (F.2.2.2.2.1 _ hw) (F.2.2.2.2.1 _ (by decide +kernel)) (F.2.2.2.2.1 _ (by decide +kernel)) (F.2.2.2.2.1 _ (by decide +kernel)) F.2.2.2.2.2.2.1 hW.2 wrd_D hS a0 a 0 0 he0 he rfl rfl rfl (by decide) (by decide) hnn (by rw [hcl]; show 0 + n ≤ n0; omega) (by rw [hcl]; show 0 + n ≤ n1; omega) (fun _ _ => rfl) (by omega) ?_ hd ?_
  · have : nativeFrameWords "java/lang/System" "arraycopy" 5 + 11 ≤ 56 := by decide +kernel
    omega
  · intro H1 locs1 hP1 hD1 hS1
    refine kk l B b D cA p e R s m args below meth c H0 c0 s0 Z F H1 locs1 cells slots ls hS1 ⟨Or.inr ⟨h74, Nat.le_trans F.2.2.2.2.2.2.2.1 hS1.1⟩, ?_⟩ hl hc hs
    have e : (Sum.inl (cA 0, n1, Sum.inl (va_cpy (fun j : Nat => Int32.ofInt (M a0 (j : Int))) (fun j : Nat => Int32.ofInt (M a (j : Int))) (Int32.ofInt 0).toNatClampNeg (Int32.ofInt 0).toNatClampNeg (Int32.ofInt (n : Int)).toNatClampNeg)) : va_E) = cel B cA ph.2 (mcpy M a0 a n) a := by
      rw [cel_int hla, hcl, i32_0cl]
      congr 3
      congr 1
      funext j
      simp only [va_cpy, mcpy, Nat.zero_le, Nat.zero_add, Nat.sub_zero, true_and]
      by_cases h : j < n
      · rw [if_pos h, if_pos (by omega)]
      · rw [if_neg h, if_neg (by omega)]
    rw [e, wrd_set ha.1 (fun a' h => mcpy_ne h) (fun _ _ => rfl)] at hP1
    exact hP1
theorem G_cpyl {a0 a n n0 n1 ix : Nat} (hd : decode (mr mi).2.1 pc = .ok (.invokestatic ix, 3)) (hw : Cond.methodLink (mr mi).1.cls ix arraycopyName ∈ lw_g) (h74 : 74 ≤ ph.1) (ha0 : a0 < ph.1 ∧ a0 < 1000000) (ha : a < ph.1 ∧ a < 1000000) (hla0 : lay a0 = (1, n0)) (hla : lay a = (1, n1)) (hn0 : n ≤ n0) (hn1 : n ≤ n1) (hn : n ≤ 2000000000) (hst : (st.map pcat).sum ≤ 8)
    (kk : G S (K + 1) mi (pc + 3) L st ph phE (mcpy M a0 a n) Q) : G S (K + 1) mi pc L (.inl (n : Int) :: .inl 0 :: .inr (.inr a) :: .inl 0 :: .inr (.inr a0) :: st) ph phE M Q := by
  intro l B b D cA p e R s m args below meth c H0 c0 s0 Z F H locs cells slots ls hS hW hl hc hs
  have he0 := wrd_get (B := B) (cA := cA) (M := M) ha0.1
  have he := wrd_get (B := B) (cA := cA) (M := M) ha.1
  rw [cel_long hla0] at he0
  rw [cel_long hla] at he
  simp only [List.map_cons]
  rw [rv_ref ha.2, rv_ref ha0.2]
  have hrm := F.2.2.2.2.2.2.2.2.1
  have hcl : (Int32.ofInt (n : Int)).toNatClampNeg = n := by rw [i32_cl (by omega) (by omega)]; omega
  have hnn : ¬ Int32.ofInt (n : Int) < 0 := by
    rw [show (0 : Int32) = Int32.ofInt 0 from rfl, i32_lt ⟨by omega, by omega⟩ ⟨by omega, by omega⟩]
    omega
  have hcs : ((st.map (rv B b)).map fun v => v.category).sum ≤ 8 := by
    rw [List.map_map, show (fun v => Value.category v) ∘ rv B b = pcat from funext (rv_cat B b)]
    exact hst
  refine va_copyl F.1 F.2.1 (F.2.2.1.trans hl.1.symm) F.2.2.2.1 (F.2.2.2.2.1 _ hw) (F.2.2.2.2.1 _ (by decide +kernel)) (F.2.2.2.2.1 _ (by decide +kernel)) (F.2.2.2.2.1 _ (by decide +kernel)) F.2.2.2.2.2.2.1 hW.2 wrd_D hS a0 a 1 1 he0 he rfl rfl rfl (by decide) (by decide) hnn (by rw [hcl]; show 0 + n ≤ n0; omega) (by rw [hcl]; show 0 + n ≤ n1; omega) (fun _ _ => rfl) (by omega) ?_ hd ?_
  · have : nativeFrameWords "java/lang/System" "arraycopy" 5 + 11 ≤ 56 := by decide +kernel
    omega
  · intro H1 locs1 hP1 hD1 hS1
    refine kk l B b D cA p e R s m args below meth c H0 c0 s0 Z F H1 locs1 cells slots ls hS1 ⟨Or.inr ⟨h74, Nat.le_trans F.2.2.2.2.2.2.2.1 hS1.1⟩, ?_⟩ hl hc hs
    have e : (Sum.inl (cA 1, n1, Sum.inr (Sum.inl (va_cpy (fun j : Nat => Int64.ofInt (M a0 (j : Int))) (fun j : Nat => Int64.ofInt (M a (j : Int))) (Int32.ofInt 0).toNatClampNeg (Int32.ofInt 0).toNatClampNeg (Int32.ofInt (n : Int)).toNatClampNeg))) : va_E) = cel B cA ph.2 (mcpy M a0 a n) a := by
      rw [cel_long hla, hcl, i32_0cl]
      congr 4
      congr 1
      funext j
      simp only [va_cpy, mcpy, Nat.zero_le, Nat.zero_add, Nat.sub_zero, true_and]
      by_cases h : j < n
      · rw [if_pos h, if_pos (by omega)]
      · rw [if_neg h, if_neg (by omega)]
    rw [e, wrd_set ha.1 (fun a' h => mcpy_ne h) (fun _ _ => rfl)] at hP1
    exact hP1
end MEM
