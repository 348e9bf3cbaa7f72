theorem cm3_R (x y : Int) : R32 (cm3 x y) := by
  unfold cm3
  split
  · exact ⟨by omega, by omega⟩
  · split
    · exact ⟨by omega, by omega⟩
    · exact ⟨by omega, by omega⟩
theorem cm3_eq {x y : Int} : cm3 x y = 0 ↔ x = y := by
  unfold cm3
  split
  · constructor <;> intro h <;> omega
  · split <;> constructor <;> intro h <;> omega
theorem cm3_lt {x y : Int} : cm3 x y < 0 ↔ x < y := by
  unfold cm3
  split
  · constructor <;> intro h <;> omega
  · split <;> constructor <;> intro h <;> omega
theorem cm3_ge {x y : Int} : 0 ≤ cm3 x y ↔ y ≤ x := by
  unfold cm3
  split
  · constructor <;> intro h <;> omega
  · split <;> constructor <;> intro h <;> omega
theorem cm3_gt {x y : Int} : 0 < cm3 x y ↔ y < x := by
  unfold cm3
  split
  · constructor <;> intro h <;> omega
  · split <;> constructor <;> intro h <;> omega
theorem cm3_le {x y : Int} : cm3 x y ≤ 0 ↔ x ≤ y := by
  unfold cm3
  split
  · constructor <;> intro h <;> omega
  · split <;> constructor <;> intro h <;> omega
theorem cm3_ne {x y : Int} : ¬ cm3 x y = 0 ↔ ¬ x = y := not_congr cm3_eq
section ST
variable {S : PS} {K mi pc : Nat} {L : List (Nat × PV)} {st : List PV} {ph phE : PH} {M : PM} {Q : Option PV → PM → Prop}
theorem G_iconst {n : Int} (hd : decode (mr mi).2.1 pc = .ok (.iconst n, 1)) (k : G S K mi (pc + 1) L (.inl n :: st) ph phE M Q) : G S K mi pc L st ph phE M Q := by
  intro l B b D cA p e R s m args below meth c H0 c0 s0 Z F H locs cells slots ls hS hW hl hc hs
  exact lv_iconst F.1 F.2.1 hd rfl (k l B b D cA p e R s m args below meth c H0 c0 s0 Z F H locs cells slots ls hS hW hl hc hs)
theorem G_bipush {n : Int} (hn : (Int8.ofInt n).toInt32 = Int32.ofInt n) (hd : decode (mr mi).2.1 pc = .ok (.bipush n, 2)) (k : G S K mi (pc + 2) L (.inl n :: st) ph phE M Q) : G S K mi pc L st ph phE M Q := by
  intro l B b D cA p e R s m args below meth c H0 c0 s0 Z F H locs cells slots ls hS hW hl hc hs
  exact lv_bipush F.1 F.2.1 hd hn (k l B b D cA p e R s m args below meth c H0 c0 s0 Z F H locs cells slots ls hS hW hl hc hs)
theorem G_sipush {n : Int} (hn : (Int16.ofInt n).toInt32 = Int32.ofInt n) (hd : decode (mr mi).2.1 pc = .ok (.sipush n, 3)) (k : G S K mi (pc + 3) L (.inl n :: st) ph phE M Q) : G S K mi pc L st ph phE M Q := by
  intro l B b D cA p e R s m args below meth c H0 c0 s0 Z F H locs cells slots ls hS hW hl hc hs
  exact lv_sipush F.1 F.2.1 hd hn (k l B b D cA p e R s m args below meth c H0 c0 s0 Z F H locs cells slots ls hS hW hl hc hs)
theorem G_lconst {n : Fin 2} {v : Int} (hv : Int64.ofNat (n : Nat) = Int64.ofInt v) (hd : decode (mr mi).2.1 pc = .ok (.lconst n, 1)) (k : G S K mi (pc + 1) L (.inr (.inl v) :: st) ph phE M Q) : G S K mi pc L st ph phE M Q := by
  intro l B b D cA p e R s m args below meth c H0 c0 s0 Z F H locs cells slots ls hS hW hl hc hs
  exact lv_lconst F.1 F.2.1 hd hv (k l B b D cA p e R s m args below meth c H0 c0 s0 Z F H locs cells slots ls hS hW hl hc hs)
theorem G_ldcw {ix : Nat} {v : Int} (hw : Cond.constant (mr mi).1.cls ix (Int32.ofInt v) ∈ lw_g) (hd : decode (mr mi).2.1 pc = .ok (.ldc_w ix, 3)) (k : G S K mi (pc + 3) L (.inl v :: st) ph phE M Q) : G S K mi pc L st ph phE M Q := by
  intro l B b D cA p e R s m args below meth c H0 c0 s0 Z F H locs cells slots ls hS hW hl hc hs
  exact lv_ldcw F.1 F.2.1 F.2.2.2.1 (F.2.2.2.2.1 _ hw) hd (k l B b D cA p e R s m args below meth c H0 c0 s0 Z F H locs cells slots ls hS hW hl hc hs)
theorem G_ldc2 {ix : Nat} {v : Int} (hw : Cond.constantLong (mr mi).1.cls ix (Int64.ofInt v) ∈ lw_g) (hd : decode (mr mi).2.1 pc = .ok (.ldc2_w ix, 3)) (k : G S K mi (pc + 3) L (.inr (.inl v) :: st) ph phE M Q) : G S K mi pc L st ph phE M Q := by
  intro l B b D cA p e R s m args below meth c H0 c0 s0 Z F H locs cells slots ls hS hW hl hc hs
  exact lv_ldc2 F.1 F.2.1 F.2.2.2.1 (F.2.2.2.2.1 _ hw) hd (k l B b D cA p e R s m args below meth c H0 c0 s0 Z F H locs cells slots ls hS hW hl hc hs)
theorem G_iload {i : Nat} {x : Int} (lx : Nat) (hx : L[lx]? = some (i, .inl x)) (hd : decode (mr mi).2.1 pc = .ok (.iload i, 2)) (k : G S K mi (pc + 2) L (.inl x :: st) ph phE M Q) : G S K mi pc L st ph phE M Q := by
  intro l B b D cA p e R s m args below meth c H0 c0 s0 Z F H locs cells slots ls hS hW hl hc hs
  exact lv_iload F.1 F.2.1 hd (lcs_at hl hx) (k l B b D cA p e R s m args below meth c H0 c0 s0 Z F H locs cells slots ls hS hW hl hc hs)
theorem G_iload_n {j : Fin 4} {i : Nat} {x : Int} (lx : Nat) (hx : L[lx]? = some (i, .inl x)) (hj : (j : Nat) = i) (hd : decode (mr mi).2.1 pc = .ok (.iload_n j, 1)) (k : G S K mi (pc + 1) L (.inl x :: st) ph phE M Q) : G S K mi pc L st ph phE M Q := by
  intro l B b D cA p e R s m args below meth c H0 c0 s0 Z F H locs cells slots ls hS hW hl hc hs
  exact lv_iload_n F.1 F.2.1 hd hj (lcs_at hl hx) (k l B b D cA p e R s m args below meth c H0 c0 s0 Z F H locs cells slots ls hS hW hl hc hs)
theorem G_lload {i : Nat} {x : Int} (lx : Nat) (hx : L[lx]? = some (i, .inr (.inl x))) (hd : decode (mr mi).2.1 pc = .ok (.lload i, 2)) (k : G S K mi (pc + 2) L (.inr (.inl x) :: st) ph phE M Q) : G S K mi pc L st ph phE M Q := by
  intro l B b D cA p e R s m args below meth c H0 c0 s0 Z F H locs cells slots ls hS hW hl hc hs
  exact lv_lload F.1 F.2.1 hd (lcs_at hl hx) (k l B b D cA p e R s m args below meth c H0 c0 s0 Z F H locs cells slots ls hS hW hl hc hs)
theorem G_lload_n {j : Fin 4} {i : Nat} {x : Int} (lx : Nat) (hx : L[lx]? = some (i, .inr (.inl x))) (hj : (j : Nat) = i) (hd : decode (mr mi).2.1 pc = .ok (.lload_n j, 1)) (k : G S K mi (pc + 1) L (.inr (.inl x) :: st) ph phE M Q) : G S K mi pc L st ph phE M Q := by
  intro l B b D cA p e R s m args below meth c H0 c0 s0 Z F H locs cells slots ls hS hW hl hc hs
  exact lv_lload_n F.1 F.2.1 hd hj (lcs_at hl hx) (k l B b D cA p e R s m args below meth c H0 c0 s0 Z F H locs cells slots ls hS hW hl hc hs)
theorem G_aload {i a : Nat} (lx : Nat) (hx : L[lx]? = some (i, .inr (.inr a))) (hd : decode (mr mi).2.1 pc = .ok (.aload i, 2)) (k : G S K mi (pc + 2) L (.inr (.inr a) :: st) ph phE M Q) : G S K mi pc L st ph phE M Q := by
  intro l B b D cA p e R s m args below meth c H0 c0 s0 Z F H locs cells slots ls hS hW hl hc hs
  exact lv_aload F.1 F.2.1 hd (lcs_at hl hx) (k l B b D cA p e R s m args below meth c H0 c0 s0 Z F H locs cells slots ls hS hW hl hc hs)
theorem G_aload_n {j : Fin 4} {i a : Nat} (lx : Nat) (hx : L[lx]? = some (i, .inr (.inr a))) (hj : (j : Nat) = i) (hd : decode (mr mi).2.1 pc = .ok (.aload_n j, 1)) (k : G S K mi (pc + 1) L (.inr (.inr a) :: st) ph phE M Q) : G S K mi pc L st ph phE M Q := by
  intro l B b D cA p e R s m args below meth c H0 c0 s0 Z F H locs cells slots ls hS hW hl hc hs
  exact lv_aload_n F.1 F.2.1 hd hj (lcs_at hl hx) (k l B b D cA p e R s m args below meth c H0 c0 s0 Z F H locs cells slots ls hS hW hl hc hs)
theorem G_istore {i : Nat} {x : Int} {L' : List (Nat × PV)}  (hn : i < (mr mi).2.2.1) (hL : (i, .inl x) :: L.filter (fun q => !(q.1 == i) && !(q.1 + 1 == i && pcat q.2 == 2)) = L') (hd : decode (mr mi).2.1 pc = .ok (.istore i, 2)) (k : G S K mi (pc + 2) L' st ph phE M Q) : G S K mi pc L (.inl x :: st) ph phE M Q := by
  intro l B b D cA p e R s m args below meth c H0 c0 s0 Z F H locs cells slots ls hS hW hl hc hs
  subst hL
  exact lv_istore F.1 F.2.1 hd hl hn (lcs_st (B := B) (b := b) (L := L) (i := i) (v := .inl x)) (fun ls' hl' => k l B b D cA p e R s m args below meth c H0 c0 s0 Z F H locs cells slots ls' hS hW hl' hc hs)
theorem G_istore_n {i : Nat} {x : Int} {j : Fin 4} {L' : List (Nat × PV)} (hj : (j : Nat) = i) (hn : i < (mr mi).2.2.1) (hL : (i, .inl x) :: L.filter (fun q => !(q.1 == i) && !(q.1 + 1 == i && pcat q.2 == 2)) = L') (hd : decode (mr mi).2.1 pc = .ok (.istore_n j, 1)) (k : G S K mi (pc + 1) L' st ph phE M Q) : G S K mi pc L (.inl x :: st) ph phE M Q := by
  intro l B b D cA p e R s m args below meth c H0 c0 s0 Z F H locs cells slots ls hS hW hl hc hs
  subst hL
  exact lv_istore_n F.1 F.2.1 hd hj hl hn (lcs_st (B := B) (b := b) (L := L) (i := i) (v := .inl x)) (fun ls' hl' => k l B b D cA p e R s m args below meth c H0 c0 s0 Z F H locs cells slots ls' hS hW hl' hc hs)
theorem G_lstore {i : Nat} {x : Int} {L' : List (Nat × PV)}  (hn : i + 1 < (mr mi).2.2.1) (hL : (i, .inr (.inl x)) :: L.filter (fun q => !(q.1 == i) && (!(q.1 == i + 1) && !(q.1 + 1 == i && pcat q.2 == 2))) = L') (hd : decode (mr mi).2.1 pc = .ok (.lstore i, 2)) (k : G S K mi (pc + 2) L' st ph phE M Q) : G S K mi pc L (.inr (.inl x) :: st) ph phE M Q := by
  intro l B b D cA p e R s m args below meth c H0 c0 s0 Z F H locs cells slots ls hS hW hl hc hs
  subst hL
  exact lv_lstore F.1 F.2.1 hd hl hn (lcs_st2 (B := B) (b := b) (L := L) (i := i) (v := .inr (.inl x))) (fun ls' hl' => k l B b D cA p e R s m args below meth c H0 c0 s0 Z F H locs cells slots ls' hS hW hl' hc hs)
theorem G_lstore_n {i : Nat} {x : Int} {j : Fin 4} {L' : List (Nat × PV)} (hj : (j : Nat) = i) (hn : i + 1 < (mr mi).2.2.1) (hL : (i, .inr (.inl x)) :: L.filter (fun q => !(q.1 == i) && (!(q.1 == i + 1) && !(q.1 + 1 == i && pcat q.2 == 2))) = L') (hd : decode (mr mi).2.1 pc = .ok (.lstore_n j, 1)) (k : G S K mi (pc + 1) L' st ph phE M Q) : G S K mi pc L (.inr (.inl x) :: st) ph phE M Q := by
  intro l B b D cA p e R s m args below meth c H0 c0 s0 Z F H locs cells slots ls hS hW hl hc hs
  subst hL
  exact lv_lstore_n F.1 F.2.1 hd hj hl hn (lcs_st2 (B := B) (b := b) (L := L) (i := i) (v := .inr (.inl x))) (fun ls' hl' => k l B b D cA p e R s m args below meth c H0 c0 s0 Z F H locs cells slots ls' hS hW hl' hc hs)
theorem G_astore {i : Nat} {x : Nat} {L' : List (Nat × PV)}  (hn : i < (mr mi).2.2.1) (hL : (i, .inr (.inr x)) :: L.filter (fun q => !(q.1 == i) && !(q.1 + 1 == i && pcat q.2 == 2)) = L') (hd : decode (mr mi).2.1 pc = .ok (.astore i, 2)) (k : G S K mi (pc + 2) L' st ph phE M Q) : G S K mi pc L (.inr (.inr x) :: st) ph phE M Q := by
  intro l B b D cA p e R s m args below meth c H0 c0 s0 Z F H locs cells slots ls hS hW hl hc hs
  subst hL
  exact lv_astore F.1 F.2.1 hd hl hn (lcs_st (B := B) (b := b) (L := L) (i := i) (v := .inr (.inr x))) (fun ls' hl' => k l B b D cA p e R s m args below meth c H0 c0 s0 Z F H locs cells slots ls' hS hW hl' hc hs)
theorem G_astore_n {i : Nat} {x : Nat} {j : Fin 4} {L' : List (Nat × PV)} (hj : (j : Nat) = i) (hn : i < (mr mi).2.2.1) (hL : (i, .inr (.inr x)) :: L.filter (fun q => !(q.1 == i) && !(q.1 + 1 == i && pcat q.2 == 2)) = L') (hd : decode (mr mi).2.1 pc = .ok (.astore_n j, 1)) (k : G S K mi (pc + 1) L' st ph phE M Q) : G S K mi pc L (.inr (.inr x) :: st) ph phE M Q := by
  intro l B b D cA p e R s m args below meth c H0 c0 s0 Z F H locs cells slots ls hS hW hl hc hs
  subst hL
  exact lv_astore_n F.1 F.2.1 hd hj hl hn (lcs_st (B := B) (b := b) (L := L) (i := i) (v := .inr (.inr x))) (fun ls' hl' => k l B b D cA p e R s m args below meth c H0 c0 s0 Z F H locs cells slots ls' hS hW hl' hc hs)
theorem G_iinc {i : Nat} {n x : Int} {L' : List (Nat × PV)} (lx : Nat) (hx : L[lx]? = some (i, .inl x)) (hn : i < (mr mi).2.2.1) (hL : (i, .inl (x + n)) :: L.filter (fun q => !(q.1 == i) && !(q.1 + 1 == i && pcat q.2 == 2)) = L') (hd : decode (mr mi).2.1 pc = .ok (.iinc i n, 3)) (k : G S K mi (pc + 3) L' st ph phE M Q) : G S K mi pc L st ph phE M Q := by
  intro l B b D cA p e R s m args below meth c H0 c0 s0 Z F H locs cells slots ls hS hW hl hc hs
  subst hL
  exact lv_iinc F.1 F.2.1 hd hl (k := lx) (v := Int32.ofInt (x + n)) (x := Int32.ofInt x) (by simp [lcs, hx]; rfl) (by rw [Int32.ofInt_add]) hn (lcs_st (B := B) (b := b) (L := L) (i := i) (v := .inl (x + n))) (fun ls' hl' => k l B b D cA p e R s m args below meth c H0 c0 s0 Z F H locs cells slots ls' hS hW hl' hc hs)
theorem G_iadd {x y : Int} (hd : decode (mr mi).2.1 pc = .ok (.iadd, 1)) (k : G S K mi (pc + 1) L (.inl (x + y) :: st) ph phE M Q) : G S K mi pc L (.inl y :: .inl x :: st) ph phE M Q := by
  intro l B b D cA p e R s m args below meth c H0 c0 s0 Z F H locs cells slots ls hS hW hl hc hs
  refine lv_iadd F.1 F.2.1 hd ?_
  rw [← Int32.ofInt_add]
  exact k l B b D cA p e R s m args below meth c H0 c0 s0 Z F H locs cells slots ls hS hW hl hc hs
theorem G_ladd {x y : Int} (hd : decode (mr mi).2.1 pc = .ok (.ladd, 1)) (k : G S K mi (pc + 1) L (.inr (.inl (x + y)) :: st) ph phE M Q) : G S K mi pc L (.inr (.inl y) :: .inr (.inl x) :: st) ph phE M Q := by
  intro l B b D cA p e R s m args below meth c H0 c0 s0 Z F H locs cells slots ls hS hW hl hc hs
  refine lv_ladd F.1 F.2.1 hd ?_
  rw [← Int64.ofInt_add]
  exact k l B b D cA p e R s m args below meth c H0 c0 s0 Z F H locs cells slots ls hS hW hl hc hs
theorem G_isub {x y : Int} (hd : decode (mr mi).2.1 pc = .ok (.isub, 1)) (k : G S K mi (pc + 1) L (.inl (x - y) :: st) ph phE M Q) : G S K mi pc L (.inl y :: .inl x :: st) ph phE M Q := by
  intro l B b D cA p e R s m args below meth c H0 c0 s0 Z F H locs cells slots ls hS hW hl hc hs
  refine lv_isub F.1 F.2.1 hd ?_
  rw [← Int32.ofInt_sub]
  exact k l B b D cA p e R s m args below meth c H0 c0 s0 Z F H locs cells slots ls hS hW hl hc hs
theorem G_lsub {x y : Int} (hd : decode (mr mi).2.1 pc = .ok (.lsub, 1)) (k : G S K mi (pc + 1) L (.inr (.inl (x - y)) :: st) ph phE M Q) : G S K mi pc L (.inr (.inl y) :: .inr (.inl x) :: st) ph phE M Q := by
  intro l B b D cA p e R s m args below meth c H0 c0 s0 Z F H locs cells slots ls hS hW hl hc hs
  refine lv_lsub F.1 F.2.1 hd ?_
  rw [← Int64.ofInt_sub]
  exact k l B b D cA p e R s m args below meth c H0 c0 s0 Z F H locs cells slots ls hS hW hl hc hs
theorem G_imul {x y : Int} (hd : decode (mr mi).2.1 pc = .ok (.imul, 1)) (k : G S K mi (pc + 1) L (.inl (x * y) :: st) ph phE M Q) : G S K mi pc L (.inl y :: .inl x :: st) ph phE M Q := by
  intro l B b D cA p e R s m args below meth c H0 c0 s0 Z F H locs cells slots ls hS hW hl hc hs
  refine lv_imul F.1 F.2.1 hd ?_
  rw [← Int32.ofInt_mul]
  exact k l B b D cA p e R s m args below meth c H0 c0 s0 Z F H locs cells slots ls hS hW hl hc hs
theorem G_lmul {x y : Int} (hd : decode (mr mi).2.1 pc = .ok (.lmul, 1)) (k : G S K mi (pc + 1) L (.inr (.inl (x * y)) :: st) ph phE M Q) : G S K mi pc L (.inr (.inl y) :: .inr (.inl x) :: st) ph phE M Q := by
  intro l B b D cA p e R s m args below meth c H0 c0 s0 Z F H locs cells slots ls hS hW hl hc hs
  refine lv_lmul F.1 F.2.1 hd ?_
  rw [← Int64.ofInt_mul]
  exact k l B b D cA p e R s m args below meth c H0 c0 s0 Z F H locs cells slots ls hS hW hl hc hs
theorem G_ineg {x : Int} (hd : decode (mr mi).2.1 pc = .ok (.ineg, 1)) (k : G S K mi (pc + 1) L (.inl (-x) :: st) ph phE M Q) : G S K mi pc L (.inl x :: st) ph phE M Q := by
  intro l B b D cA p e R s m args below meth c H0 c0 s0 Z F H locs cells slots ls hS hW hl hc hs
  refine lv_ineg F.1 F.2.1 hd ?_
  rw [← Int32.ofInt_neg]
  exact k l B b D cA p e R s m args below meth c H0 c0 s0 Z F H locs cells slots ls hS hW hl hc hs
theorem G_lneg {x : Int} (hd : decode (mr mi).2.1 pc = .ok (.lneg, 1)) (k : G S K mi (pc + 1) L (.inr (.inl (-x)) :: st) ph phE M Q) : G S K mi pc L (.inr (.inl x) :: st) ph phE M Q := by
  intro l B b D cA p e R s m args below meth c H0 c0 s0 Z F H locs cells slots ls hS hW hl hc hs
  refine lv_lneg F.1 F.2.1 hd ?_
  rw [← Int64.ofInt_neg]
  exact k l B b D cA p e R s m args below meth c H0 c0 s0 Z F H locs cells slots ls hS hW hl hc hs
theorem G_idiv {x y : Int} (hx : R32 x) (hy : R32 y) (h0 : y ≠ 0) (hd : decode (mr mi).2.1 pc = .ok (.idiv, 1)) (k : G S K mi (pc + 1) L (.inl (Int.tdiv x y) :: st) ph phE M Q) : G S K mi pc L (.inl y :: .inl x :: st) ph phE M Q := by
  intro l B b D cA p e R s m args below meth c H0 c0 s0 Z F H locs cells slots ls hS hW hl hc hs
  refine lv_idiv F.1 F.2.1 hd (fun z => h0 ((i32_eq hy (y := 0) ⟨by omega, by omega⟩).mp z)) ?_
  rw [← Int32.ofInt_tdiv (show (-2147483648 : Int) ≤ x from hx.1) (show x ≤ 2147483647 by omega) (show (-2147483648 : Int) ≤ y from hy.1) (show y ≤ 2147483647 by omega)]
  exact k l B b D cA p e R s m args below meth c H0 c0 s0 Z F H locs cells slots ls hS hW hl hc hs
theorem G_ldiv {x y : Int} (hx : R64 x) (hy : R64 y) (h0 : y ≠ 0) (hd : decode (mr mi).2.1 pc = .ok (.ldiv, 1)) (k : G S K mi (pc + 1) L (.inr (.inl (Int.tdiv x y)) :: st) ph phE M Q) : G S K mi pc L (.inr (.inl y) :: .inr (.inl x) :: st) ph phE M Q := by
  intro l B b D cA p e R s m args below meth c H0 c0 s0 Z F H locs cells slots ls hS hW hl hc hs
  refine lv_ldiv F.1 F.2.1 hd (fun z => h0 ((i64_eq hy (y := 0) ⟨by omega, by omega⟩).mp z)) ?_
  rw [← Int64.ofInt_tdiv (show (-9223372036854775808 : Int) ≤ x from hx.1) (show x ≤ 9223372036854775807 by omega) (show (-9223372036854775808 : Int) ≤ y from hy.1) (show y ≤ 9223372036854775807 by omega)]
  exact k l B b D cA p e R s m args below meth c H0 c0 s0 Z F H locs cells slots ls hS hW hl hc hs
theorem G_irem {x y : Int} (hx : R32 x) (hy : R32 y) (h0 : y ≠ 0) (hd : decode (mr mi).2.1 pc = .ok (.irem, 1)) (k : G S K mi (pc + 1) L (.inl (Int.tmod x y) :: st) ph phE M Q) : G S K mi pc L (.inl y :: .inl x :: st) ph phE M Q := by
  intro l B b D cA p e R s m args below meth c H0 c0 s0 Z F H locs cells slots ls hS hW hl hc hs
  refine lv_irem F.1 F.2.1 hd (fun z => h0 ((i32_eq hy (y := 0) ⟨by omega, by omega⟩).mp z)) ?_
  rw [← Int32.ofInt_tdiv (show (-2147483648 : Int) ≤ x from hx.1) (show x ≤ 2147483647 by omega) (show (-2147483648 : Int) ≤ y from hy.1) (show y ≤ 2147483647 by omega)]
  rw [← Int32.ofInt_mul, ← Int32.ofInt_sub, show x - Int.tdiv x y * y = Int.tmod x y by rw [Int.tmod_def, Int.mul_comm]]
  exact k l B b D cA p e R s m args below meth c H0 c0 s0 Z F H locs cells slots ls hS hW hl hc hs
theorem G_lrem {x y : Int} (hx : R64 x) (hy : R64 y) (h0 : y ≠ 0) (hd : decode (mr mi).2.1 pc = .ok (.lrem, 1)) (k : G S K mi (pc + 1) L (.inr (.inl (Int.tmod x y)) :: st) ph phE M Q) : G S K mi pc L (.inr (.inl y) :: .inr (.inl x) :: st) ph phE M Q := by
  intro l B b D cA p e R s m args below meth c H0 c0 s0 Z F H locs cells slots ls hS hW hl hc hs
  refine lv_lrem F.1 F.2.1 hd (fun z => h0 ((i64_eq hy (y := 0) ⟨by omega, by omega⟩).mp z)) ?_
  rw [← Int64.ofInt_tdiv (show (-9223372036854775808 : Int) ≤ x from hx.1) (show x ≤ 9223372036854775807 by omega) (show (-9223372036854775808 : Int) ≤ y from hy.1) (show y ≤ 9223372036854775807 by omega)]
  rw [← Int64.ofInt_mul, ← Int64.ofInt_sub, show x - Int.tdiv x y * y = Int.tmod x y by rw [Int.tmod_def, Int.mul_comm]]
  exact k l B b D cA p e R s m args below meth c H0 c0 s0 Z F H locs cells slots ls hS hW hl hc hs
theorem G_iand {x y : Int} (hd : decode (mr mi).2.1 pc = .ok (.iand, 1)) (k : G S K mi (pc + 1) L (.inl (bAnd x y) :: st) ph phE M Q) : G S K mi pc L (.inl y :: .inl x :: st) ph phE M Q := by
  intro l B b D cA p e R s m args below meth c H0 c0 s0 Z F H locs cells slots ls hS hW hl hc hs
  refine lv_iand F.1 F.2.1 hd ?_
  have z := k l B b D cA p e R s m args below meth c H0 c0 s0 Z F H locs cells slots ls hS hW hl hc hs
  simp only [List.map_cons, rv, bAnd, Int32.ofInt_toInt] at z
  exact z
theorem G_ior {x y : Int} (hd : decode (mr mi).2.1 pc = .ok (.ior, 1)) (k : G S K mi (pc + 1) L (.inl (bOr x y) :: st) ph phE M Q) : G S K mi pc L (.inl y :: .inl x :: st) ph phE M Q := by
  intro l B b D cA p e R s m args below meth c H0 c0 s0 Z F H locs cells slots ls hS hW hl hc hs
  refine lv_ior F.1 F.2.1 hd ?_
  have z := k l B b D cA p e R s m args below meth c H0 c0 s0 Z F H locs cells slots ls hS hW hl hc hs
  simp only [List.map_cons, rv, bOr, Int32.ofInt_toInt] at z
  exact z
theorem G_ixor {x y : Int} (hd : decode (mr mi).2.1 pc = .ok (.ixor, 1)) (k : G S K mi (pc + 1) L (.inl (bXor x y) :: st) ph phE M Q) : G S K mi pc L (.inl y :: .inl x :: st) ph phE M Q := by
  intro l B b D cA p e R s m args below meth c H0 c0 s0 Z F H locs cells slots ls hS hW hl hc hs
  refine lv_ixor F.1 F.2.1 hd ?_
  have z := k l B b D cA p e R s m args below meth c H0 c0 s0 Z F H locs cells slots ls hS hW hl hc hs
  simp only [List.map_cons, rv, bXor, Int32.ofInt_toInt] at z
  exact z
theorem G_ishl {x y : Int} (hd : decode (mr mi).2.1 pc = .ok (.ishl, 1)) (k : G S K mi (pc + 1) L (.inl (bShl x y) :: st) ph phE M Q) : G S K mi pc L (.inl y :: .inl x :: st) ph phE M Q := by
  intro l B b D cA p e R s m args below meth c H0 c0 s0 Z F H locs cells slots ls hS hW hl hc hs
  refine lv_ishl F.1 F.2.1 hd ?_
  have z := k l B b D cA p e R s m args below meth c H0 c0 s0 Z F H locs cells slots ls hS hW hl hc hs
  simp only [List.map_cons, rv, bShl, Int32.ofInt_toInt] at z
  exact z
theorem G_ishr {x y : Int} (hd : decode (mr mi).2.1 pc = .ok (.ishr, 1)) (k : G S K mi (pc + 1) L (.inl (bShr x y) :: st) ph phE M Q) : G S K mi pc L (.inl y :: .inl x :: st) ph phE M Q := by
  intro l B b D cA p e R s m args below meth c H0 c0 s0 Z F H locs cells slots ls hS hW hl hc hs
  refine lv_ishr F.1 F.2.1 hd ?_
  have z := k l B b D cA p e R s m args below meth c H0 c0 s0 Z F H locs cells slots ls hS hW hl hc hs
  simp only [List.map_cons, rv, bShr, Int32.ofInt_toInt] at z
  exact z
theorem G_iushr {x y : Int} (hd : decode (mr mi).2.1 pc = .ok (.iushr, 1)) (k : G S K mi (pc + 1) L (.inl (bUsr x y) :: st) ph phE M Q) : G S K mi pc L (.inl y :: .inl x :: st) ph phE M Q := by
  intro l B b D cA p e R s m args below meth c H0 c0 s0 Z F H locs cells slots ls hS hW hl hc hs
  refine lv_iushr F.1 F.2.1 hd rfl ?_
  have z := k l B b D cA p e R s m args below meth c H0 c0 s0 Z F H locs cells slots ls hS hW hl hc hs
  simp only [List.map_cons, rv, bUsr, Int32.ofInt_toInt] at z
  exact z
theorem G_land {x y : Int} (hd : decode (mr mi).2.1 pc = .ok (.land, 1)) (k : G S K mi (pc + 1) L (.inr (.inl (lAnd x y)) :: st) ph phE M Q) : G S K mi pc L (.inr (.inl y) :: .inr (.inl x) :: st) ph phE M Q := by
  intro l B b D cA p e R s m args below meth c H0 c0 s0 Z F H locs cells slots ls hS hW hl hc hs
  refine lv_land F.1 F.2.1 hd ?_
  have z := k l B b D cA p e R s m args below meth c H0 c0 s0 Z F H locs cells slots ls hS hW hl hc hs
  simp only [List.map_cons, rv, lAnd, Int64.ofInt_toInt] at z
  exact z
theorem G_lor {x y : Int} (hd : decode (mr mi).2.1 pc = .ok (.lor, 1)) (k : G S K mi (pc + 1) L (.inr (.inl (lOr x y)) :: st) ph phE M Q) : G S K mi pc L (.inr (.inl y) :: .inr (.inl x) :: st) ph phE M Q := by
  intro l B b D cA p e R s m args below meth c H0 c0 s0 Z F H locs cells slots ls hS hW hl hc hs
  refine lv_lor F.1 F.2.1 hd ?_
  have z := k l B b D cA p e R s m args below meth c H0 c0 s0 Z F H locs cells slots ls hS hW hl hc hs
  simp only [List.map_cons, rv, lOr, Int64.ofInt_toInt] at z
  exact z
theorem G_lshl {x y : Int} (hd : decode (mr mi).2.1 pc = .ok (.lshl, 1)) (k : G S K mi (pc + 1) L (.inr (.inl (lShl x y)) :: st) ph phE M Q) : G S K mi pc L (.inl y :: .inr (.inl x) :: st) ph phE M Q := by
  intro l B b D cA p e R s m args below meth c H0 c0 s0 Z F H locs cells slots ls hS hW hl hc hs
  refine lv_lshl F.1 F.2.1 hd rfl ?_
  have z := k l B b D cA p e R s m args below meth c H0 c0 s0 Z F H locs cells slots ls hS hW hl hc hs
  simp only [List.map_cons, rv, lShl, Int64.ofInt_toInt] at z
  exact z
theorem G_i2l {x : Int} (hx : R32 x) (hd : decode (mr mi).2.1 pc = .ok (.i2l, 1)) (k : G S K mi (pc + 1) L (.inr (.inl x) :: st) ph phE M Q) : G S K mi pc L (.inl x :: st) ph phE M Q := by
  intro l B b D cA p e R s m args below meth c H0 c0 s0 Z F H locs cells slots ls hS hW hl hc hs
  refine lv_i2l F.1 F.2.1 hd (v := Int64.ofInt x) ?_ (k l B b D cA p e R s m args below meth c H0 c0 s0 Z F H locs cells slots ls hS hW hl hc hs)
  rw [← Int64.toInt_inj, Int32.toInt_toInt64, i32 hx, i64 ⟨by omega, by omega⟩]
theorem G_l2i {x : Int} (hd : decode (mr mi).2.1 pc = .ok (.l2i, 1)) (k : G S K mi (pc + 1) L (.inl x :: st) ph phE M Q) : G S K mi pc L (.inr (.inl x) :: st) ph phE M Q := by
  intro l B b D cA p e R s m args below meth c H0 c0 s0 Z F H locs cells slots ls hS hW hl hc hs
  exact lv_l2i F.1 F.2.1 hd (v := Int32.ofInt x) Int64.toInt32_ofInt (k l B b D cA p e R s m args below meth c H0 c0 s0 Z F H locs cells slots ls hS hW hl hc hs)
theorem G_lcmp {x y : Int} (hx : R64 x) (hy : R64 y) (hd : decode (mr mi).2.1 pc = .ok (.lcmp, 1)) (k : G S K mi (pc + 1) L (.inl (cm3 x y) :: st) ph phE M Q) : G S K mi pc L (.inr (.inl y) :: .inr (.inl x) :: st) ph phE M Q := by
  intro l B b D cA p e R s m args below meth c H0 c0 s0 Z F H locs cells slots ls hS hW hl hc hs
  refine W.lcmp F.1 F.2.1 hd ?_
  have z := k l B b D cA p e R s m args below meth c H0 c0 s0 Z F H locs cells slots ls hS hW hl hc hs
  have e : lg_cmp (Int64.ofInt x) (Int64.ofInt y) = Int32.ofInt (cm3 x y) := by
    unfold lg_cmp cm3
    by_cases h1 : y < x
    · rw [if_pos ((i64_lt hy hx).mpr h1), if_pos h1]; rfl
    · rw [if_neg (fun z => h1 ((i64_lt hy hx).mp z)), if_neg h1]
      by_cases h2 : x = y
      · rw [if_pos ((i64_eq hx hy).mpr h2), if_pos h2]; rfl
      · rw [if_neg (fun z => h2 ((i64_eq hx hy).mp z)), if_neg h2]; rfl
  rw [e]
  exact z
theorem G_pop {v : PV} (hv : pcat v = 1) (hd : decode (mr mi).2.1 pc = .ok (.pop, 1)) (k : G S K mi (pc + 1) L st ph phE M Q) : G S K mi pc L (v :: st) ph phE M Q := by
  intro l B b D cA p e R s m args below meth c H0 c0 s0 Z F H locs cells slots ls hS hW hl hc hs
  exact lv_pop F.1 F.2.1 hd (by rw [rv_cat]; exact hv) (k l B b D cA p e R s m args below meth c H0 c0 s0 Z F H locs cells slots ls hS hW hl hc hs)
theorem G_dup {v : PV} (hv : pcat v = 1) (hd : decode (mr mi).2.1 pc = .ok (.dup, 1)) (k : G S K mi (pc + 1) L (v :: v :: st) ph phE M Q) : G S K mi pc L (v :: st) ph phE M Q := by
  intro l B b D cA p e R s m args below meth c H0 c0 s0 Z F H locs cells slots ls hS hW hl hc hs
  exact lv_dup F.1 F.2.1 hd (by rw [rv_cat]; exact hv) (k l B b D cA p e R s m args below meth c H0 c0 s0 Z F H locs cells slots ls hS hW hl hc hs)
theorem G_dup2 {v w : PV} (hv : pcat v = 1) (hw : pcat w = 1) (hd : decode (mr mi).2.1 pc = .ok (.dup2, 1)) (k : G S K mi (pc + 1) L (v :: w :: v :: w :: st) ph phE M Q) : G S K mi pc L (v :: w :: st) ph phE M Q := by
  intro l B b D cA p e R s m args below meth c H0 c0 s0 Z F H locs cells slots ls hS hW hl hc hs
  exact lv_dup2_11 F.1 F.2.1 hd (by rw [rv_cat]; exact hv) (by rw [rv_cat]; exact hw) (k l B b D cA p e R s m args below meth c H0 c0 s0 Z F H locs cells slots ls hS hW hl hc hs)
theorem G_goto {off : Int} {tgt : Nat} (ht : (pc : Int) + off = (tgt : Int)) (hd : decode (mr mi).2.1 pc = .ok (.goto off, 3)) (k : G S K mi tgt L st ph phE M Q) : G S K mi pc L st ph phE M Q := by
  intro l B b D cA p e R s m args below meth c H0 c0 s0 Z F H locs cells slots ls hS hW hl hc hs
  exact lv_goto F.1 F.2.1 hd ht (k l B b D cA p e R s m args below meth c H0 c0 s0 Z F H locs cells slots ls hS hW hl hc hs)
theorem G_icmp_eq {x y off : Int} {tgt : Nat} (ht : (pc : Int) + off = (tgt : Int)) (hx : R32 x) (hy : R32 y) (hd : decode (mr mi).2.1 pc = .ok (.if_icmp .eq off, 3)) (kt : x = y → G S K mi tgt L st ph phE M Q) (kf : ¬ (x = y) → G S K mi (pc + 3) L st ph phE M Q) : G S K mi pc L (.inl y :: .inl x :: st) ph phE M Q := by
  intro l B b D cA p e R s m args below meth c H0 c0 s0 Z F H locs cells slots ls hS hW hl hc hs
  have h := (i32_eq hx hy)
  exact lv_icmp_eq F.1 F.2.1 hd ht (fun z => kt (h.mp z) l B b D cA p e R s m args below meth c H0 c0 s0 Z F H locs cells slots ls hS hW hl hc hs) (fun z => kf (fun w => z (h.mpr w)) l B b D cA p e R s m args below meth c H0 c0 s0 Z F H locs cells slots ls hS hW hl hc hs)
theorem G_if_eq {x off : Int} {tgt : Nat} (ht : (pc : Int) + off = (tgt : Int)) (hx : R32 x) (hd : decode (mr mi).2.1 pc = .ok (.ifCond .eq off, 3)) (kt : x = 0 → G S K mi tgt L st ph phE M Q) (kf : ¬ (x = 0) → G S K mi (pc + 3) L st ph phE M Q) : G S K mi pc L (.inl x :: st) ph phE M Q := by
  intro l B b D cA p e R s m args below meth c H0 c0 s0 Z F H locs cells slots ls hS hW hl hc hs
  have h := (i32_eq hx (y := 0) ⟨by omega, by omega⟩)
  exact lv_if_eq F.1 F.2.1 hd ht (fun z => kt (h.mp z) l B b D cA p e R s m args below meth c H0 c0 s0 Z F H locs cells slots ls hS hW hl hc hs) (fun z => kf (fun w => z (h.mpr w)) l B b D cA p e R s m args below meth c H0 c0 s0 Z F H locs cells slots ls hS hW hl hc hs)
theorem G_lif_eq {x y off : Int} {tgt : Nat} (hd2 : decode (mr mi).2.1 (pc + 1) = .ok (.ifCond .eq off, 3)) (ht : (pc : Int) + 1 + off = (tgt : Int)) (hx : R64 x) (hy : R64 y) (hd : decode (mr mi).2.1 pc = .ok (.lcmp, 1)) (kt : x = y → G S K mi tgt L st ph phE M Q) (kf : ¬ (x = y) → G S K mi (pc + 4) L st ph phE M Q) : G S K mi pc L (.inr (.inl y) :: .inr (.inl x) :: st) ph phE M Q := by
  exact G_lcmp hx hy hd (G_if_eq (by omega) (cm3_R x y) hd2 (fun z => kt (cm3_eq.mp z)) (fun z => kf (fun w => z (cm3_eq.mpr w))))
theorem G_icmp_ne {x y off : Int} {tgt : Nat} (ht : (pc : Int) + off = (tgt : Int)) (hx : R32 x) (hy : R32 y) (hd : decode (mr mi).2.1 pc = .ok (.if_icmp .ne off, 3)) (kt : ¬ x = y → G S K mi tgt L st ph phE M Q) (kf : x = y → G S K mi (pc + 3) L st ph phE M Q) : G S K mi pc L (.inl y :: .inl x :: st) ph phE M Q := by
  intro l B b D cA p e R s m args below meth c H0 c0 s0 Z F H locs cells slots ls hS hW hl hc hs
  have h := not_congr (i32_eq hx hy)
  exact lv_icmp_ne F.1 F.2.1 hd ht (fun z => kt (h.mp z) l B b D cA p e R s m args below meth c H0 c0 s0 Z F H locs cells slots ls hS hW hl hc hs) (fun z => kf ((i32_eq hx hy).mp z) l B b D cA p e R s m args below meth c H0 c0 s0 Z F H locs cells slots ls hS hW hl hc hs)
theorem G_if_ne {x off : Int} {tgt : Nat} (ht : (pc : Int) + off = (tgt : Int)) (hx : R32 x) (hd : decode (mr mi).2.1 pc = .ok (.ifCond .ne off, 3)) (kt : ¬ x = 0 → G S K mi tgt L st ph phE M Q) (kf : x = 0 → G S K mi (pc + 3) L st ph phE M Q) : G S K mi pc L (.inl x :: st) ph phE M Q := by
  intro l B b D cA p e R s m args below meth c H0 c0 s0 Z F H locs cells slots ls hS hW hl hc hs
  have h := not_congr (i32_eq hx (y := 0) ⟨by omega, by omega⟩)
  exact lv_if_ne F.1 F.2.1 hd ht (fun z => kt (h.mp z) l B b D cA p e R s m args below meth c H0 c0 s0 Z F H locs cells slots ls hS hW hl hc hs) (fun z => kf ((i32_eq hx (y := 0) ⟨by omega, by omega⟩).mp z) l B b D cA p e R s m args below meth c H0 c0 s0 Z F H locs cells slots ls hS hW hl hc hs)
theorem G_lif_ne {x y off : Int} {tgt : Nat} (hd2 : decode (mr mi).2.1 (pc + 1) = .ok (.ifCond .ne off, 3)) (ht : (pc : Int) + 1 + off = (tgt : Int)) (hx : R64 x) (hy : R64 y) (hd : decode (mr mi).2.1 pc = .ok (.lcmp, 1)) (kt : ¬ x = y → G S K mi tgt L st ph phE M Q) (kf : x = y → G S K mi (pc + 4) L st ph phE M Q) : G S K mi pc L (.inr (.inl y) :: .inr (.inl x) :: st) ph phE M Q := by
  exact G_lcmp hx hy hd (G_if_ne (by omega) (cm3_R x y) hd2 (fun z => kt (cm3_ne.mp z)) (fun z => kf (cm3_eq.mp z)))
theorem G_icmp_lt {x y off : Int} {tgt : Nat} (ht : (pc : Int) + off = (tgt : Int)) (hx : R32 x) (hy : R32 y) (hd : decode (mr mi).2.1 pc = .ok (.if_icmp .lt off, 3)) (kt : x < y → G S K mi tgt L st ph phE M Q) (kf : ¬ (x < y) → G S K mi (pc + 3) L st ph phE M Q) : G S K mi pc L (.inl y :: .inl x :: st) ph phE M Q := by
  intro l B b D cA p e R s m args below meth c H0 c0 s0 Z F H locs cells slots ls hS hW hl hc hs
  have h := (i32_lt hx hy)
  exact lv_icmp_lt F.1 F.2.1 hd ht (fun z => kt (h.mp z) l B b D cA p e R s m args below meth c H0 c0 s0 Z F H locs cells slots ls hS hW hl hc hs) (fun z => kf (fun w => z (h.mpr w)) l B b D cA p e R s m args below meth c H0 c0 s0 Z F H locs cells slots ls hS hW hl hc hs)
theorem G_if_lt {x off : Int} {tgt : Nat} (ht : (pc : Int) + off = (tgt : Int)) (hx : R32 x) (hd : decode (mr mi).2.1 pc = .ok (.ifCond .lt off, 3)) (kt : x < 0 → G S K mi tgt L st ph phE M Q) (kf : ¬ (x < 0) → G S K mi (pc + 3) L st ph phE M Q) : G S K mi pc L (.inl x :: st) ph phE M Q := by
  intro l B b D cA p e R s m args below meth c H0 c0 s0 Z F H locs cells slots ls hS hW hl hc hs
  have h := (i32_lt hx (y := 0) ⟨by omega, by omega⟩)
  exact lv_if_lt F.1 F.2.1 hd ht (fun z => kt (h.mp z) l B b D cA p e R s m args below meth c H0 c0 s0 Z F H locs cells slots ls hS hW hl hc hs) (fun z => kf (fun w => z (h.mpr w)) l B b D cA p e R s m args below meth c H0 c0 s0 Z F H locs cells slots ls hS hW hl hc hs)
theorem G_lif_lt {x y off : Int} {tgt : Nat} (hd2 : decode (mr mi).2.1 (pc + 1) = .ok (.ifCond .lt off, 3)) (ht : (pc : Int) + 1 + off = (tgt : Int)) (hx : R64 x) (hy : R64 y) (hd : decode (mr mi).2.1 pc = .ok (.lcmp, 1)) (kt : x < y → G S K mi tgt L st ph phE M Q) (kf : ¬ (x < y) → G S K mi (pc + 4) L st ph phE M Q) : G S K mi pc L (.inr (.inl y) :: .inr (.inl x) :: st) ph phE M Q := by
  exact G_lcmp hx hy hd (G_if_lt (by omega) (cm3_R x y) hd2 (fun z => kt (cm3_lt.mp z)) (fun z => kf (fun w => z (cm3_lt.mpr w))))
theorem G_icmp_ge {x y off : Int} {tgt : Nat} (ht : (pc : Int) + off = (tgt : Int)) (hx : R32 x) (hy : R32 y) (hd : decode (mr mi).2.1 pc = .ok (.if_icmp .ge off, 3)) (kt : y ≤ x → G S K mi tgt L st ph phE M Q) (kf : ¬ (y ≤ x) → G S K mi (pc + 3) L st ph phE M Q) : G S K mi pc L (.inl y :: .inl x :: st) ph phE M Q := by
  intro l B b D cA p e R s m args below meth c H0 c0 s0 Z F H locs cells slots ls hS hW hl hc hs
  have h := (i32_le hy hx)
  exact lv_icmp_ge F.1 F.2.1 hd ht (fun z => kt (h.mp z) l B b D cA p e R s m args below meth c H0 c0 s0 Z F H locs cells slots ls hS hW hl hc hs) (fun z => kf (fun w => z (h.mpr w)) l B b D cA p e R s m args below meth c H0 c0 s0 Z F H locs cells slots ls hS hW hl hc hs)
theorem G_if_ge {x off : Int} {tgt : Nat} (ht : (pc : Int) + off = (tgt : Int)) (hx : R32 x) (hd : decode (mr mi).2.1 pc = .ok (.ifCond .ge off, 3)) (kt : 0 ≤ x → G S K mi tgt L st ph phE M Q) (kf : ¬ (0 ≤ x) → G S K mi (pc + 3) L st ph phE M Q) : G S K mi pc L (.inl x :: st) ph phE M Q := by
  intro l B b D cA p e R s m args below meth c H0 c0 s0 Z F H locs cells slots ls hS hW hl hc hs
  have h := (i32_le (x := 0) ⟨by omega, by omega⟩ hx)
  exact lv_if_ge F.1 F.2.1 hd ht (fun z => kt (h.mp z) l B b D cA p e R s m args below meth c H0 c0 s0 Z F H locs cells slots ls hS hW hl hc hs) (fun z => kf (fun w => z (h.mpr w)) l B b D cA p e R s m args below meth c H0 c0 s0 Z F H locs cells slots ls hS hW hl hc hs)
theorem G_lif_ge {x y off : Int} {tgt : Nat} (hd2 : decode (mr mi).2.1 (pc + 1) = .ok (.ifCond .ge off, 3)) (ht : (pc : Int) + 1 + off = (tgt : Int)) (hx : R64 x) (hy : R64 y) (hd : decode (mr mi).2.1 pc = .ok (.lcmp, 1)) (kt : y ≤ x → G S K mi tgt L st ph phE M Q) (kf : ¬ (y ≤ x) → G S K mi (pc + 4) L st ph phE M Q) : G S K mi pc L (.inr (.inl y) :: .inr (.inl x) :: st) ph phE M Q := by
  exact G_lcmp hx hy hd (G_if_ge (by omega) (cm3_R x y) hd2 (fun z => kt (cm3_ge.mp z)) (fun z => kf (fun w => z (cm3_ge.mpr w))))
theorem G_icmp_gt {x y off : Int} {tgt : Nat} (ht : (pc : Int) + off = (tgt : Int)) (hx : R32 x) (hy : R32 y) (hd : decode (mr mi).2.1 pc = .ok (.if_icmp .gt off, 3)) (kt : y < x → G S K mi tgt L st ph phE M Q) (kf : ¬ (y < x) → G S K mi (pc + 3) L st ph phE M Q) : G S K mi pc L (.inl y :: .inl x :: st) ph phE M Q := by
  intro l B b D cA p e R s m args below meth c H0 c0 s0 Z F H locs cells slots ls hS hW hl hc hs
  have h := (i32_lt hy hx)
  exact lv_icmp_gt F.1 F.2.1 hd ht (fun z => kt (h.mp z) l B b D cA p e R s m args below meth c H0 c0 s0 Z F H locs cells slots ls hS hW hl hc hs) (fun z => kf (fun w => z (h.mpr w)) l B b D cA p e R s m args below meth c H0 c0 s0 Z F H locs cells slots ls hS hW hl hc hs)
theorem G_if_gt {x off : Int} {tgt : Nat} (ht : (pc : Int) + off = (tgt : Int)) (hx : R32 x) (hd : decode (mr mi).2.1 pc = .ok (.ifCond .gt off, 3)) (kt : 0 < x → G S K mi tgt L st ph phE M Q) (kf : ¬ (0 < x) → G S K mi (pc + 3) L st ph phE M Q) : G S K mi pc L (.inl x :: st) ph phE M Q := by
  intro l B b D cA p e R s m args below meth c H0 c0 s0 Z F H locs cells slots ls hS hW hl hc hs
  have h := (i32_lt (x := 0) ⟨by omega, by omega⟩ hx)
  exact lv_if_gt F.1 F.2.1 hd ht (fun z => kt (h.mp z) l B b D cA p e R s m args below meth c H0 c0 s0 Z F H locs cells slots ls hS hW hl hc hs) (fun z => kf (fun w => z (h.mpr w)) l B b D cA p e R s m args below meth c H0 c0 s0 Z F H locs cells slots ls hS hW hl hc hs)
theorem G_lif_gt {x y off : Int} {tgt : Nat} (hd2 : decode (mr mi).2.1 (pc + 1) = .ok (.ifCond .gt off, 3)) (ht : (pc : Int) + 1 + off = (tgt : Int)) (hx : R64 x) (hy : R64 y) (hd : decode (mr mi).2.1 pc = .ok (.lcmp, 1)) (kt : y < x → G S K mi tgt L st ph phE M Q) (kf : ¬ (y < x) → G S K mi (pc + 4) L st ph phE M Q) : G S K mi pc L (.inr (.inl y) :: .inr (.inl x) :: st) ph phE M Q := by
  exact G_lcmp hx hy hd (G_if_gt (by omega) (cm3_R x y) hd2 (fun z => kt (cm3_gt.mp z)) (fun z => kf (fun w => z (cm3_gt.mpr w))))
theorem G_icmp_le {x y off : Int} {tgt : Nat} (ht : (pc : Int) + off = (tgt : Int)) (hx : R32 x) (hy : R32 y) (hd : decode (mr mi).2.1 pc = .ok (.if_icmp .le off, 3)) (kt : x ≤ y → G S K mi tgt L st ph phE M Q) (kf : ¬ (x ≤ y) → G S K mi (pc + 3) L st ph phE M Q) : G S K mi pc L (.inl y :: .inl x :: st) ph phE M Q := by
  intro l B b D cA p e R s m args below meth c H0 c0 s0 Z F H locs cells slots ls hS hW hl hc hs
  have h := (i32_le hx hy)
  exact lv_icmp_le F.1 F.2.1 hd ht (fun z => kt (h.mp z) l B b D cA p e R s m args below meth c H0 c0 s0 Z F H locs cells slots ls hS hW hl hc hs) (fun z => kf (fun w => z (h.mpr w)) l B b D cA p e R s m args below meth c H0 c0 s0 Z F H locs cells slots ls hS hW hl hc hs)
theorem G_if_le {x off : Int} {tgt : Nat} (ht : (pc : Int) + off = (tgt : Int)) (hx : R32 x) (hd : decode (mr mi).2.1 pc = .ok (.ifCond .le off, 3)) (kt : x ≤ 0 → G S K mi tgt L st ph phE M Q) (kf : ¬ (x ≤ 0) → G S K mi (pc + 3) L st ph phE M Q) : G S K mi pc L (.inl x :: st) ph phE M Q := by
  intro l B b D cA p e R s m args below meth c H0 c0 s0 Z F H locs cells slots ls hS hW hl hc hs
  have h := (i32_le hx (y := 0) ⟨by omega, by omega⟩)
  exact lv_if_le F.1 F.2.1 hd ht (fun z => kt (h.mp z) l B b D cA p e R s m args below meth c H0 c0 s0 Z F H locs cells slots ls hS hW hl hc hs) (fun z => kf (fun w => z (h.mpr w)) l B b D cA p e R s m args below meth c H0 c0 s0 Z F H locs cells slots ls hS hW hl hc hs)
theorem G_lif_le {x y off : Int} {tgt : Nat} (hd2 : decode (mr mi).2.1 (pc + 1) = .ok (.ifCond .le off, 3)) (ht : (pc : Int) + 1 + off = (tgt : Int)) (hx : R64 x) (hy : R64 y) (hd : decode (mr mi).2.1 pc = .ok (.lcmp, 1)) (kt : x ≤ y → G S K mi tgt L st ph phE M Q) (kf : ¬ (x ≤ y) → G S K mi (pc + 4) L st ph phE M Q) : G S K mi pc L (.inr (.inl y) :: .inr (.inl x) :: st) ph phE M Q := by
  exact G_lcmp hx hy hd (G_if_le (by omega) (cm3_R x y) hd2 (fun z => kt (cm3_le.mp z)) (fun z => kf (fun w => z (cm3_le.mpr w))))
theorem G_tsIn {dflt lo hi : Int} {offs : Array Int} {len : Nat} {x off : Int} {tgt : Nat} (hx : R32 x) (h1 : lo ≤ x) (h2 : x ≤ hi) (ho : offs[(x - lo).toNat]? = some off) (ht : (pc : Int) + off = (tgt : Int)) (hd : decode (mr mi).2.1 pc = .ok (.tableswitch dflt lo hi offs, len)) (k : G S K mi tgt L st ph phE M Q) : G S K mi pc L (.inl x :: st) ph phE M Q := by
  intro l B b D cA p e R s m args below meth c H0 c0 s0 Z F H locs cells slots ls hS hW hl hc hs
  exact lv_tableIn F.1 F.2.1 hd (by rw [i32 hx]; omega) (by rw [i32 hx]; omega) (by rw [i32 hx]; exact ho) ht (k l B b D cA p e R s m args below meth c H0 c0 s0 Z F H locs cells slots ls hS hW hl hc hs)
theorem G_tsOut {dflt lo hi : Int} {offs : Array Int} {len : Nat} {x : Int} {tgt : Nat} (hx : R32 x) (h1 : x < lo ∨ hi < x) (ht : (pc : Int) + dflt = (tgt : Int)) (hd : decode (mr mi).2.1 pc = .ok (.tableswitch dflt lo hi offs, len)) (k : G S K mi tgt L st ph phE M Q) : G S K mi pc L (.inl x :: st) ph phE M Q := by
  intro l B b D cA p e R s m args below meth c H0 c0 s0 Z F H locs cells slots ls hS hW hl hc hs
  exact lv_tableOut F.1 F.2.1 hd (by rw [i32 hx]; exact h1) ht (k l B b D cA p e R s m args below meth c H0 c0 s0 Z F H locs cells slots ls hS hW hl hc hs)
theorem G_iret {x : Int} (hd : decode (mr mi).2.1 pc = .ok (.ireturn, 1)) (hr : rok (mr mi).2.2.2 (some (.inl x))) (k : Q (some (.inl x)) M) : G S K mi pc L [.inl x] phE phE M Q := by
  intro l B b D cA p e R s m args below meth c H0 c0 s0 Z F H locs cells slots ls hS hW hl hc hs
  exact F.2.2.2.2.2.2.2.2.2.2.2 pc ls H locs cells slots (some (.inl x)) M k hW hS hc hs hr hd
theorem G_lret {x : Int} (hd : decode (mr mi).2.1 pc = .ok (.lreturn, 1)) (hr : rok (mr mi).2.2.2 (some (.inr (.inl x)))) (k : Q (some (.inr (.inl x))) M) : G S K mi pc L [.inr (.inl x)] phE phE M Q := by
  intro l B b D cA p e R s m args below meth c H0 c0 s0 Z F H locs cells slots ls hS hW hl hc hs
  exact F.2.2.2.2.2.2.2.2.2.2.2 pc ls H locs cells slots (some (.inr (.inl x))) M k hW hS hc hs hr hd
theorem G_aret {x : Nat} (hd : decode (mr mi).2.1 pc = .ok (.areturn, 1)) (hr : rok (mr mi).2.2.2 (some (.inr (.inr x)))) (k : Q (some (.inr (.inr x))) M) : G S K mi pc L [.inr (.inr x)] phE phE M Q := by
  intro l B b D cA p e R s m args below meth c H0 c0 s0 Z F H locs cells slots ls hS hW hl hc hs
  exact F.2.2.2.2.2.2.2.2.2.2.2 pc ls H locs cells slots (some (.inr (.inr x))) M k hW hS hc hs hr hd
theorem G_vret  (hd : decode (mr mi).2.1 pc = .ok (.return_, 1)) (hr : rok (mr mi).2.2.2 none) (k : Q none M) : G S K mi pc L [] phE phE M Q := by
  intro l B b D cA p e R s m args below meth c H0 c0 s0 Z F H locs cells slots ls hS hW hl hc hs
  exact F.2.2.2.2.2.2.2.2.2.2.2 pc ls H locs cells slots none M k hW hS hc hs hr hd
theorem G_sub {L' : List (Nat × PV)} (ks : List Nat) (hL : ks.filterMap (fun k => L[k]?) = L') (k : G S K mi pc L' st ph phE M Q) : G S K mi pc L st ph phE M Q := by
  intro l B b D cA p e R s m args below meth c H0 c0 s0 Z F H locs cells slots ls hS hW hl hc hs
  refine k l B b D cA p e R s m args below meth c H0 c0 s0 Z F H locs cells slots ls hS hW (lv_sub hl ks ?_) hc hs
  subst hL
  simp only [lv_pick, lcs, List.map_filterMap, List.getElem?_map]
end ST
