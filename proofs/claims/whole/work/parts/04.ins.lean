/-! ===== THE FRAME, instructions: their sayings, and that these are sound ===== -/
def f_own (lo : Nat) (G : fG) (c : Nat) : Bool := Nat.ble lo c && Nat.blt c G.1
def f_isO (lo : Nat) (G : fG) (c ci : Nat) : Bool := f_own lo G c && (match f_sh c with
  | .inr (.inl j) => Nat.beq j ci
  | _ => false)
def f_arW (lo : Nat) (G : fG) (c k : Nat) : Option Nat := match f_sh c with
  | .inl (j, n) => bif (f_own lo G c && Nat.beq j k) then some n else none
  | _ => none
def f_tab (c : Nat) : Option (Nat × (Nat → Int32)) := match f_sh c with
  | .inr (.inr (.inl t)) => bif (Nat.ble 1000 c) then some t else none
  | _ => none
def f_arI (lo : Nat) (G : fG) (M : fMem) (c : Nat) : Option (Nat × (Nat → Int32)) := match f_arW lo G c 0 with
  | some n => some (n, M.1 c)
  | none => f_tab c
def f_len (lo : Nat) (G : fG) (c : Nat) : Option Nat := match f_sh c with
  | .inl (_, n) => bif f_own lo G c then some n else none
  | .inr (.inr (.inl t)) => bif (Nat.ble 1000 c) then some t.1 else none
  | .inr (.inr (.inr (.inr i))) => bif (Nat.beq c (2100 + i) && Nat.blt i 6) then some (f_slen.getD i 0) else none
  | _ => none
def f_txt (c : Nat) : Option Nat := match f_sh c with
  | .inr (.inr (.inr (.inl i))) => bif (Nat.beq c (2000 + i) && Nat.blt i 6) then some i else none
  | _ => none
def f_byt (c : Nat) : Option Nat := match f_sh c with
  | .inr (.inr (.inr (.inr i))) => bif (Nat.beq c (2100 + i) && Nat.blt i 6) then some i else none
  | _ => none
def f_pop : Nat → List Value → List Value → Option (List Value × List Value)
  | 0, st, acc => some (acc, st)
  | n + 1, v :: st, acc => f_pop n st (v :: acc)
  | _ + 1, [], _ => none
def f_ans (v : Option Value) (st : List Value) : List Value := match v with
  | some x => x :: st
  | none => st
def f_swg (x : Int32) : List (Int32 × Nat) → Nat → (Nat → Prop) → Prop
  | [], d, k => k d
  | (v, q) :: l, d, k => (x = v → k q) ∧ (¬ x = v → f_swg x l d k)
def tr_push (v : Value) (nx : Nat) : fTr := fun _ K G ls st M => K G nx ls (v :: st) M
def tr_iload (i nx : Nat) : fTr := fun _ K G ls st M => match f_lget ls i with
  | some (.int x) => K G nx ls (.int x :: st) M
  | _ => False
def tr_lload (i nx : Nat) : fTr := fun _ K G ls st M => match f_lget ls i with
  | some (.long x) => K G nx ls (.long x :: st) M
  | _ => False
def tr_aload (i nx : Nat) : fTr := fun _ K G ls st M => match f_lget ls i with
  | some (.ref x) => K G nx ls (.ref x :: st) M
  | _ => False
def tr_istore (i nx : Nat) : fTr := fun _ K G ls st M => match st with
  | .int x :: r => K G nx (f_lset ls i (some (.int x))) r M
  | _ => False
def tr_lstore (i nx : Nat) : fTr := fun _ K G ls st M => match st with
  | .long x :: r => K G nx (f_lset (f_lclr ls (i + 1)) i (some (.long x))) r M
  | _ => False
def tr_astore (i nx : Nat) : fTr := fun _ K G ls st M => match st with
  | .ref x :: r => K G nx (f_lset ls i (some (.ref x))) r M
  | _ => False
def tr_iinc (i : Nat) (n : Int32) (nx : Nat) : fTr := fun _ K G ls st M => match f_lget ls i with
  | some (.int x) => K G nx (f_lset ls i (some (.int (x + n)))) st M
  | _ => False
def tr_bin (f : Int32 → Int32 → Int32) (nx : Nat) : fTr := fun _ K G ls st M => match st with
  | .int y :: .int x :: r => K G nx ls (.int (f x y) :: r) M
  | _ => False
def tr_binD (f : Int32 → Int32 → Int32) (nx : Nat) : fTr := fun _ K G ls st M => match st with
  | .int y :: .int x :: r => ¬ y = 0 ∧ K G nx ls (.int (f x y) :: r) M
  | _ => False
def tr_binL (f : Int64 → Int64 → Int64) (nx : Nat) : fTr := fun _ K G ls st M => match st with
  | .long y :: .long x :: r => K G nx ls (.long (f x y) :: r) M
  | _ => False
def tr_binLD (f : Int64 → Int64 → Int64) (nx : Nat) : fTr := fun _ K G ls st M => match st with
  | .long y :: .long x :: r => ¬ y = 0 ∧ K G nx ls (.long (f x y) :: r) M
  | _ => False
def tr_ineg (nx : Nat) : fTr := fun _ K G ls st M => match st with
  | .int x :: r => K G nx ls (.int (-x) :: r) M
  | _ => False
def tr_i2l (nx : Nat) : fTr := fun _ K G ls st M => match st with
  | .int x :: r => K G nx ls (.long x.toInt64 :: r) M
  | _ => False
def tr_i2c (nx : Nat) : fTr := fun _ K G ls st M => match st with
  | .int x :: r => K G nx ls (.int (x.toUInt32 % 65536).toInt32 :: r) M
  | _ => False
def tr_lcmp (nx : Nat) : fTr := fun _ K G ls st M => match st with
  | .long y :: .long x :: r => K G nx ls (.int (lg_cmp x y) :: r) M
  | _ => False
def tr_dup (nx : Nat) : fTr := fun _ K G ls st M => match st with
  | .int x :: r => K G nx ls (.int x :: .int x :: r) M
  | .ref x :: r => K G nx ls (.ref x :: .ref x :: r) M
  | _ => False
def tr_dup2 (nx : Nat) : fTr := fun _ K G ls st M => match st with
  | .long x :: r => K G nx ls (.long x :: .long x :: r) M
  | .int x :: .ref z :: r => K G nx ls (.int x :: .ref z :: .int x :: .ref z :: r) M
  | _ => False
def tr_if (q : Int32 → Prop) (tg nx : Nat) : fTr := fun _ K G ls st M => match st with
  | .int x :: r => (q x → K G tg ls r M) ∧ (¬ q x → K G nx ls r M)
  | _ => False
def tr_if2 (q : Int32 → Int32 → Prop) (tg nx : Nat) : fTr := fun _ K G ls st M => match st with
  | .int y :: .int x :: r => (q x y → K G tg ls r M) ∧ (¬ q x y → K G nx ls r M)
  | _ => False
def tr_goto (tg : Nat) : fTr := fun _ K G ls st M => K G tg ls st M
def tr_sw (cs : List (Int32 × Nat)) (d : Nat) : fTr := fun _ K G ls st M => match st with
  | .int x :: r => f_swg x cs d (fun q => K G q ls r M)
  | _ => False
def tr_geti (lo ci k nx : Nat) : fTr := fun _ K G ls st M => match st with
  | .ref c :: r => bif f_isO lo G c ci then K G nx ls (.int (M.1 c k) :: r) M else False
  | _ => False
def tr_getl (lo ci k nx : Nat) : fTr := fun _ K G ls st M => match st with
  | .ref c :: r => bif f_isO lo G c ci then K G nx ls (.long (M.2 c k) :: r) M else False
  | _ => False
def tr_getr (lo ci k nx : Nat) : fTr := fun _ K G ls st M => match st with
  | .ref c :: r => bif f_isO lo G c ci then K G nx ls (G.2 c k :: r) M else False
  | _ => False
def tr_puti (lo ci k nx : Nat) : fTr := fun _ K G ls st M => match st with
  | .int v :: .ref c :: r => bif f_isO lo G c ci then K G nx ls r (f_up M.1 c k v, M.2) else False
  | _ => False
def tr_putz (lo ci k nx : Nat) : fTr := fun _ K G ls st M => match st with
  | .int v :: .ref c :: r => bif f_isO lo G c ci then ((v = 0 ∨ v = 1) ∧ K G nx ls r (f_up M.1 c k v, M.2)) else False
  | _ => False
def tr_putl (lo ci k nx : Nat) : fTr := fun _ K G ls st M => match st with
  | .long v :: .ref c :: r => bif f_isO lo G c ci then K G nx ls r (M.1, f_upL M.2 c k v) else False
  | _ => False
def tr_putr (lo ci k nx : Nat) : fTr := fun _ K G ls st M => match st with
  | .ref v :: .ref c :: r => bif f_isO lo G c ci then K (G.1, f_upR G.2 c k (.ref v)) nx ls r M else False
  | _ => False
def tr_iald (lo nx : Nat) : fTr := fun _ K G ls st M => match st with
  | .int i :: .ref c :: r => match f_arI lo G M c with
    | some t => vp_in i t.1 ∧ K G nx ls (.int (t.2 i.toNatClampNeg) :: r) M
    | none => False
  | _ => False
def tr_zald (lo nx : Nat) : fTr := fun _ K G ls st M => match st with
  | .int i :: .ref c :: r => match f_arW lo G c 2 with
    | some n => vp_in i n ∧ K G nx ls (.int (M.1 c i.toNatClampNeg) :: r) M
    | none => False
  | _ => False
def tr_lald (lo nx : Nat) : fTr := fun _ K G ls st M => match st with
  | .int i :: .ref c :: r => match f_arW lo G c 1 with
    | some n => vp_in i n ∧ K G nx ls (.long (M.2 c i.toNatClampNeg) :: r) M
    | none => False
  | _ => False
def tr_iast (lo nx : Nat) : fTr := fun _ K G ls st M => match st with
  | .int v :: .int i :: .ref c :: r => match f_arW lo G c 0 with
    | some n => vp_in i n ∧ K G nx ls r (f_up M.1 c i.toNatClampNeg v, M.2)
    | none => False
  | _ => False
def tr_zast (lo nx : Nat) : fTr := fun _ K G ls st M => match st with
  | .int v :: .int i :: .ref c :: r => match f_arW lo G c 2 with
    | some n => vp_in i n ∧ (v = 0 ∨ v = 1) ∧ K G nx ls r (f_up M.1 c i.toNatClampNeg v, M.2)
    | none => False
  | _ => False
def tr_last (lo nx : Nat) : fTr := fun _ K G ls st M => match st with
  | .long v :: .int i :: .ref c :: r => match f_arW lo G c 1 with
    | some n => vp_in i n ∧ K G nx ls r (M.1, f_upL M.2 c i.toNatClampNeg v)
    | none => False
  | _ => False
def tr_alen (lo nx : Nat) : fTr := fun _ K G ls st M => match st with
  | .ref c :: r => match f_len lo G c with
    | some n => K G nx ls (.int (Int32.ofNat n) :: r) M
    | none => False
  | _ => False
def tr_bald (nx : Nat) : fTr := fun _ K G ls st M => match st with
  | .int i :: .ref c :: r => match f_byt c with
    | some t => vp_in i (f_slen.getD t 0) ∧ K G nx ls (.int ((f_sbyt.getD t []).getD i.toNatClampNeg 0) :: r) M
    | none => False
  | _ => False
def tr_strv (nx : Nat) : fTr := fun _ K G ls st M => match st with
  | .ref c :: r => match f_txt c with
    | some t => K G nx ls (.ref (2100 + t) :: r) M
    | none => False
  | _ => False
def tr_strc (nx : Nat) : fTr := fun _ K G ls st M => match st with
  | .ref c :: r => match f_txt c with
    | some _ => K G nx ls (.int 0 :: r) M
    | none => False
  | _ => False
def tr_iret : fTr := fun R _ G _ st M => match st with
  | [.int x] => R G (some (.int x)) M
  | _ => False
def tr_zret (ty : FieldType) : fTr := fun R _ G _ st M => match st with
  | [.int x] => narrow ty (.int x) = .int x ∧ R G (some (.int x)) M
  | _ => False
def tr_lret : fTr := fun R _ G _ st M => match st with
  | [.long x] => R G (some (.long x)) M
  | _ => False
def tr_aret : fTr := fun R _ G _ st M => match st with
  | [.ref x] => R G (some (.ref x)) M
  | _ => False
def tr_vret : fTr := fun R _ G _ st M => match st with
  | [] => R G none M
  | _ => False
def tr_call (n w : Nat) (sp : fSp) (nx : Nat) : fTr := fun _ K G ls st M => match f_pop n st [] with
  | some q => bif (Nat.ble (f_cats q.1) w && Nat.ble (f_cats q.2) 8) then sp G q.1 M (fun G' v M' => K G' nx ls (f_ans v q.2) M') else False
  | none => False
/-- of an object: the first that is popped is looked at -/
def tr_callO (lo ci n w : Nat) (sp : fSp) (nx : Nat) : fTr := fun _ K G ls st M => match f_pop n st [] with
  | some (.ref b :: As, r) => bif (f_isO lo G b ci && (Nat.ble (f_cats (.ref b :: As)) w && Nat.ble (f_cats r) 8)) then sp G (.ref b :: As) M (fun G' v M' => K G' nx ls (f_ans v r) M') else False
  | _ => False
def tr_callT (n w : Nat) (sp : fSp) (nx : Nat) : fTr := fun _ K G ls st M => match f_pop n st [] with
  | some (.ref b :: As, r) => match f_txt b with
    | some _ => bif (Nat.ble (f_cats (.ref b :: As)) w && Nat.ble (f_cats r) 8) then sp G (.ref b :: As) M (fun G' v M' => K G' nx ls (f_ans v r) M') else False
    | none => False
  | _ => False

section FI
variable {p : Program} {l : Launch} {e : Env} {s : State} {m : MethodId} {args : Array Value} {below : List Frame} {meth : Method} {c : Code} {own : String} {y : MethodName} {bt : ByteArray} {maxL : Nat} {ret : Option FieldType} {lo hi h mc sz : Nat} {D : va_G} {cA : Nat → ClassId} {ad : Nat → Nat} {R : fR}

theorem s_iconst (hB : f_B p s m args meth c own y bt maxL ret lo hi mc sz D cA ad) {pc nx : Nat} {n : Int} {v : Int32} (hd : decode bt pc = .ok (.iconst n, 1)) (hv : Int32.ofInt n = v) (hn : pc + 1 = nx) : f_Snd (f_X p l e s m args below meth c maxL lo hi h mc sz D cA ad R) R pc (tr_push (.int v) nx) := by
  intro K hK G ls st M hk H locs lsA hL h1 h2 h3 hP hS
  subst hn
  exact lv_iconst hB.1 hB.2.1 hd hv (hK _ _ _ _ _ hk H locs lsA hL h1 h2 h3 hP hS)
theorem s_bipush (hB : f_B p s m args meth c own y bt maxL ret lo hi mc sz D cA ad) {pc nx : Nat} {n : Int} {v : Int32} (hd : decode bt pc = .ok (.bipush n, 2)) (hv : (Int8.ofInt n).toInt32 = v) (hn : pc + 2 = nx) : f_Snd (f_X p l e s m args below meth c maxL lo hi h mc sz D cA ad R) R pc (tr_push (.int v) nx) := by
  intro K hK G ls st M hk H locs lsA hL h1 h2 h3 hP hS
  subst hn
  exact lv_bipush hB.1 hB.2.1 hd hv (hK _ _ _ _ _ hk H locs lsA hL h1 h2 h3 hP hS)
theorem s_sipush (hB : f_B p s m args meth c own y bt maxL ret lo hi mc sz D cA ad) {pc nx : Nat} {n : Int} {v : Int32} (hd : decode bt pc = .ok (.sipush n, 3)) (hv : (Int16.ofInt n).toInt32 = v) (hn : pc + 3 = nx) : f_Snd (f_X p l e s m args below meth c maxL lo hi h mc sz D cA ad R) R pc (tr_push (.int v) nx) := by
  intro K hK G ls st M hk H locs lsA hL h1 h2 h3 hP hS
  subst hn
  exact lv_sipush hB.1 hB.2.1 hd hv (hK _ _ _ _ _ hk H locs lsA hL h1 h2 h3 hP hS)
theorem s_lconst (hB : f_B p s m args meth c own y bt maxL ret lo hi mc sz D cA ad) {pc nx : Nat} {n : Fin 2} {v : Int64} (hd : decode bt pc = .ok (.lconst n, 1)) (hv : Int64.ofNat (n : Nat) = v) (hn : pc + 1 = nx) : f_Snd (f_X p l e s m args below meth c maxL lo hi h mc sz D cA ad R) R pc (tr_push (.long v) nx) := by
  intro K hK G ls st M hk H locs lsA hL h1 h2 h3 hP hS
  subst hn
  exact lv_lconst hB.1 hB.2.1 hd hv (hK _ _ _ _ _ hk H locs lsA hL h1 h2 h3 hP hS)
theorem s_ldc (hB : f_B p s m args meth c own y bt maxL ret lo hi mc sz D cA ad) {pc nx : Nat} {index : Nat} {v : Int32} (hd : decode bt pc = .ok (.ldc index, 2)) (hw : Cond.constant own index v ∈ f_GW) (hn : pc + 2 = nx) : f_Snd (f_X p l e s m args below meth c maxL lo hi h mc sz D cA ad R) R pc (tr_push (.int v) nx) := by
  intro K hK G ls st M hk H locs lsA hL h1 h2 h3 hP hS
  subst hn
  exact lv_ldc hB.1 hB.2.1 hB.2.2.2.2.1 (hB.2.2.2.2.2.1 _ (List.mem_cons_of_mem _ hw)) hd (hK _ _ _ _ _ hk H locs lsA hL h1 h2 h3 hP hS)
theorem s_ldcw (hB : f_B p s m args meth c own y bt maxL ret lo hi mc sz D cA ad) {pc nx : Nat} {index : Nat} {v : Int32} (hd : decode bt pc = .ok (.ldc_w index, 3)) (hw : Cond.constant own index v ∈ f_GW) (hn : pc + 3 = nx) : f_Snd (f_X p l e s m args below meth c maxL lo hi h mc sz D cA ad R) R pc (tr_push (.int v) nx) := by
  intro K hK G ls st M hk H locs lsA hL h1 h2 h3 hP hS
  subst hn
  exact lv_ldcw hB.1 hB.2.1 hB.2.2.2.2.1 (hB.2.2.2.2.2.1 _ (List.mem_cons_of_mem _ hw)) hd (hK _ _ _ _ _ hk H locs lsA hL h1 h2 h3 hP hS)
theorem s_ldc2 (hB : f_B p s m args meth c own y bt maxL ret lo hi mc sz D cA ad) {pc nx : Nat} {index : Nat} {v : Int64} (hd : decode bt pc = .ok (.ldc2_w index, 3)) (hw : Cond.constantLong own index v ∈ f_GW) (hn : pc + 3 = nx) : f_Snd (f_X p l e s m args below meth c maxL lo hi h mc sz D cA ad R) R pc (tr_push (.long v) nx) := by
  intro K hK G ls st M hk H locs lsA hL h1 h2 h3 hP hS
  subst hn
  exact lv_ldc2 hB.1 hB.2.1 hB.2.2.2.2.1 (hB.2.2.2.2.2.1 _ (List.mem_cons_of_mem _ hw)) hd (hK _ _ _ _ _ hk H locs lsA hL h1 h2 h3 hP hS)
theorem s_ldcS (hB : f_B p s m args meth c own y bt maxL ret lo hi mc sz D cA ad) {pc nx : Nat} {index i : Nat} {tx : String} (hd : decode bt pc = .ok (.ldc index, 2)) (hw : (own, index, tx, i) ∈ f_ldcs) (hn : pc + 2 = nx) : f_Snd (f_X p l e s m args below meth c maxL lo hi h mc sz D cA ad R) R pc (tr_push (.ref (2000 + i)) nx) := by
  intro K hK G ls st M hk H locs lsA hL h1 h2 h3 hP hS
  subst hn
  exact va_ldcS hB.1 hB.2.1 hB.2.2.2.2.1 (hB.2.2.2.2.2.2.2.2.2.2.1.2.2.2.2.2.2 _ hw) hd (hK _ _ _ _ _ hk H locs lsA hL h1 h2 h3 hP hS)
theorem s_iload_n (hB : f_B p s m args meth c own y bt maxL ret lo hi mc sz D cA ad) {pc nx : Nat} {k : Fin 4} {i : Nat} (hd : decode bt pc = .ok (.iload_n k, 1)) (hki : (k : Nat) = i) (hn : pc + 1 = nx) : f_Snd (f_X p l e s m args below meth c maxL lo hi h mc sz D cA ad R) R pc (tr_iload i nx) := by
  intro K hK G ls st M hk H locs lsA hL h1 h2 h3 hP hS
  subst hn
  unfold tr_iload at hk
  split at hk
  · rename_i x hx
    exact lv_iload_n hB.1 hB.2.1 hd hki (hL.2.2 i (.int x) hx) (hK _ _ _ _ _ hk H locs lsA hL h1 h2 h3 hP hS)
  · exact hk.elim
theorem s_iload (hB : f_B p s m args meth c own y bt maxL ret lo hi mc sz D cA ad) {pc nx : Nat} {i : Nat} (hd : decode bt pc = .ok (.iload i, 2)) (hn : pc + 2 = nx) : f_Snd (f_X p l e s m args below meth c maxL lo hi h mc sz D cA ad R) R pc (tr_iload i nx) := by
  intro K hK G ls st M hk H locs lsA hL h1 h2 h3 hP hS
  subst hn
  unfold tr_iload at hk
  split at hk
  · rename_i x hx
    exact lv_iload hB.1 hB.2.1 hd (hL.2.2 i (.int x) hx) (hK _ _ _ _ _ hk H locs lsA hL h1 h2 h3 hP hS)
  · exact hk.elim
theorem s_istore_n (hB : f_B p s m args meth c own y bt maxL ret lo hi mc sz D cA ad) {pc nx : Nat} {k : Fin 4} {i : Nat} (hd : decode bt pc = .ok (.istore_n k, 1)) (hki : (k : Nat) = i) (hlt : i < maxL) (hn : pc + 1 = nx) : f_Snd (f_X p l e s m args below meth c maxL lo hi h mc sz D cA ad R) R pc (tr_istore i nx) := by
  intro K hK G ls st M hk H locs lsA hL h1 h2 h3 hP hS
  subst hn
  unfold tr_istore at hk
  split at hk
  · exact lv_istore_n hB.1 hB.2.1 hd hki hL.has hlt rfl (fun lsB hl => (hK _ _ _ _ _ hk H locs lsB (f_LH.st1 hl) h1 h2 h3 hP hS))
  · exact hk.elim
theorem s_istore (hB : f_B p s m args meth c own y bt maxL ret lo hi mc sz D cA ad) {pc nx : Nat} {i : Nat} (hd : decode bt pc = .ok (.istore i, 2)) (hlt : i < maxL) (hn : pc + 2 = nx) : f_Snd (f_X p l e s m args below meth c maxL lo hi h mc sz D cA ad R) R pc (tr_istore i nx) := by
  intro K hK G ls st M hk H locs lsA hL h1 h2 h3 hP hS
  subst hn
  unfold tr_istore at hk
  split at hk
  · exact lv_istore hB.1 hB.2.1 hd hL.has hlt rfl (fun lsB hl => (hK _ _ _ _ _ hk H locs lsB (f_LH.st1 hl) h1 h2 h3 hP hS))
  · exact hk.elim
theorem s_lload_n (hB : f_B p s m args meth c own y bt maxL ret lo hi mc sz D cA ad) {pc nx : Nat} {k : Fin 4} {i : Nat} (hd : decode bt pc = .ok (.lload_n k, 1)) (hki : (k : Nat) = i) (hn : pc + 1 = nx) : f_Snd (f_X p l e s m args below meth c maxL lo hi h mc sz D cA ad R) R pc (tr_lload i nx) := by
  intro K hK G ls st M hk H locs lsA hL h1 h2 h3 hP hS
  subst hn
  unfold tr_lload at hk
  split at hk
  · rename_i x hx
    exact lv_lload_n hB.1 hB.2.1 hd hki (hL.2.2 i (.long x) hx) (hK _ _ _ _ _ hk H locs lsA hL h1 h2 h3 hP hS)
  · exact hk.elim
theorem s_lload (hB : f_B p s m args meth c own y bt maxL ret lo hi mc sz D cA ad) {pc nx : Nat} {i : Nat} (hd : decode bt pc = .ok (.lload i, 2)) (hn : pc + 2 = nx) : f_Snd (f_X p l e s m args below meth c maxL lo hi h mc sz D cA ad R) R pc (tr_lload i nx) := by
  intro K hK G ls st M hk H locs lsA hL h1 h2 h3 hP hS
  subst hn
  unfold tr_lload at hk
  split at hk
  · rename_i x hx
    exact lv_lload hB.1 hB.2.1 hd (hL.2.2 i (.long x) hx) (hK _ _ _ _ _ hk H locs lsA hL h1 h2 h3 hP hS)
  · exact hk.elim
theorem s_lstore_n (hB : f_B p s m args meth c own y bt maxL ret lo hi mc sz D cA ad) {pc nx : Nat} {k : Fin 4} {i : Nat} (hd : decode bt pc = .ok (.lstore_n k, 1)) (hki : (k : Nat) = i) (hlt : i + 1 < maxL) (hn : pc + 1 = nx) : f_Snd (f_X p l e s m args below meth c maxL lo hi h mc sz D cA ad R) R pc (tr_lstore i nx) := by
  intro K hK G ls st M hk H locs lsA hL h1 h2 h3 hP hS
  subst hn
  unfold tr_lstore at hk
  split at hk
  · exact lv_lstore_n hB.1 hB.2.1 hd hki hL.has hlt rfl (fun lsB hl => (hK _ _ _ _ _ hk H locs lsB (f_LH.st2 hl) h1 h2 h3 hP hS))
  · exact hk.elim
theorem s_lstore (hB : f_B p s m args meth c own y bt maxL ret lo hi mc sz D cA ad) {pc nx : Nat} {i : Nat} (hd : decode bt pc = .ok (.lstore i, 2)) (hlt : i + 1 < maxL) (hn : pc + 2 = nx) : f_Snd (f_X p l e s m args below meth c maxL lo hi h mc sz D cA ad R) R pc (tr_lstore i nx) := by
  intro K hK G ls st M hk H locs lsA hL h1 h2 h3 hP hS
  subst hn
  unfold tr_lstore at hk
  split at hk
  · exact lv_lstore hB.1 hB.2.1 hd hL.has hlt rfl (fun lsB hl => (hK _ _ _ _ _ hk H locs lsB (f_LH.st2 hl) h1 h2 h3 hP hS))
  · exact hk.elim
theorem s_aload_n (hB : f_B p s m args meth c own y bt maxL ret lo hi mc sz D cA ad) {pc nx : Nat} {k : Fin 4} {i : Nat} (hd : decode bt pc = .ok (.aload_n k, 1)) (hki : (k : Nat) = i) (hn : pc + 1 = nx) : f_Snd (f_X p l e s m args below meth c maxL lo hi h mc sz D cA ad R) R pc (tr_aload i nx) := by
  intro K hK G ls st M hk H locs lsA hL h1 h2 h3 hP hS
  subst hn
  unfold tr_aload at hk
  split at hk
  · rename_i x hx
    exact lv_aload_n hB.1 hB.2.1 hd hki (hL.2.2 i (.ref x) hx) (hK _ _ _ _ _ hk H locs lsA hL h1 h2 h3 hP hS)
  · exact hk.elim
theorem s_aload (hB : f_B p s m args meth c own y bt maxL ret lo hi mc sz D cA ad) {pc nx : Nat} {i : Nat} (hd : decode bt pc = .ok (.aload i, 2)) (hn : pc + 2 = nx) : f_Snd (f_X p l e s m args below meth c maxL lo hi h mc sz D cA ad R) R pc (tr_aload i nx) := by
  intro K hK G ls st M hk H locs lsA hL h1 h2 h3 hP hS
  subst hn
  unfold tr_aload at hk
  split at hk
  · rename_i x hx
    exact lv_aload hB.1 hB.2.1 hd (hL.2.2 i (.ref x) hx) (hK _ _ _ _ _ hk H locs lsA hL h1 h2 h3 hP hS)
  · exact hk.elim
theorem s_astore_n (hB : f_B p s m args meth c own y bt maxL ret lo hi mc sz D cA ad) {pc nx : Nat} {k : Fin 4} {i : Nat} (hd : decode bt pc = .ok (.astore_n k, 1)) (hki : (k : Nat) = i) (hlt : i < maxL) (hn : pc + 1 = nx) : f_Snd (f_X p l e s m args below meth c maxL lo hi h mc sz D cA ad R) R pc (tr_astore i nx) := by
  intro K hK G ls st M hk H locs lsA hL h1 h2 h3 hP hS
  subst hn
  unfold tr_astore at hk
  split at hk
  · exact lv_astore_n hB.1 hB.2.1 hd hki hL.has hlt rfl (fun lsB hl => (hK _ _ _ _ _ hk H locs lsB (f_LH.st1 hl) h1 h2 h3 hP hS))
  · exact hk.elim
theorem s_astore (hB : f_B p s m args meth c own y bt maxL ret lo hi mc sz D cA ad) {pc nx : Nat} {i : Nat} (hd : decode bt pc = .ok (.astore i, 2)) (hlt : i < maxL) (hn : pc + 2 = nx) : f_Snd (f_X p l e s m args below meth c maxL lo hi h mc sz D cA ad R) R pc (tr_astore i nx) := by
  intro K hK G ls st M hk H locs lsA hL h1 h2 h3 hP hS
  subst hn
  unfold tr_astore at hk
  split at hk
  · exact lv_astore hB.1 hB.2.1 hd hL.has hlt rfl (fun lsB hl => (hK _ _ _ _ _ hk H locs lsB (f_LH.st1 hl) h1 h2 h3 hP hS))
  · exact hk.elim
theorem s_iinc (hB : f_B p s m args meth c own y bt maxL ret lo hi mc sz D cA ad) {pc nx : Nat} {i : Nat} {n : Int} {v : Int32} (hd : decode bt pc = .ok (.iinc i n, 3)) (hv : Int32.ofInt n = v) (hlt : i < maxL) (hn : pc + 3 = nx) : f_Snd (f_X p l e s m args below meth c maxL lo hi h mc sz D cA ad R) R pc (tr_iinc i v nx) := by
  intro K hK G ls st M hk H locs lsA hL h1 h2 h3 hP hS
  subst hn
  subst hv
  unfold tr_iinc at hk
  split at hk
  · rename_i x hx
    obtain ⟨k, hk2⟩ := List.getElem?_of_mem (f_ent_mem (ad := ad) hx)
    exact lv_iinc hB.1 hB.2.1 hd hL.has hk2 rfl hlt rfl (fun lsB hl => (hK _ _ _ _ _ hk H locs lsB (f_LH.st1 (v := .int (x + Int32.ofInt n)) hl) h1 h2 h3 hP hS))
  · exact hk.elim
theorem s_iadd (hB : f_B p s m args meth c own y bt maxL ret lo hi mc sz D cA ad) {pc nx : Nat} (hd : decode bt pc = .ok (.iadd, 1)) (hn : pc + 1 = nx) : f_Snd (f_X p l e s m args below meth c maxL lo hi h mc sz D cA ad R) R pc (tr_bin (fun x y => x + y) nx) := by
  intro K hK G ls st M hk H locs lsA hL h1 h2 h3 hP hS
  subst hn
  unfold tr_bin at hk
  split at hk
  · exact lv_iadd hB.1 hB.2.1 hd (hK _ _ _ _ _ hk H locs lsA hL h1 h2 h3 hP hS)
  · exact hk.elim
theorem s_isub (hB : f_B p s m args meth c own y bt maxL ret lo hi mc sz D cA ad) {pc nx : Nat} (hd : decode bt pc = .ok (.isub, 1)) (hn : pc + 1 = nx) : f_Snd (f_X p l e s m args below meth c maxL lo hi h mc sz D cA ad R) R pc (tr_bin (fun x y => x - y) nx) := by
  intro K hK G ls st M hk H locs lsA hL h1 h2 h3 hP hS
  subst hn
  unfold tr_bin at hk
  split at hk
  · exact lv_isub hB.1 hB.2.1 hd (hK _ _ _ _ _ hk H locs lsA hL h1 h2 h3 hP hS)
  · exact hk.elim
theorem s_imul (hB : f_B p s m args meth c own y bt maxL ret lo hi mc sz D cA ad) {pc nx : Nat} (hd : decode bt pc = .ok (.imul, 1)) (hn : pc + 1 = nx) : f_Snd (f_X p l e s m args below meth c maxL lo hi h mc sz D cA ad R) R pc (tr_bin (fun x y => x * y) nx) := by
  intro K hK G ls st M hk H locs lsA hL h1 h2 h3 hP hS
  subst hn
  unfold tr_bin at hk
  split at hk
  · exact lv_imul hB.1 hB.2.1 hd (hK _ _ _ _ _ hk H locs lsA hL h1 h2 h3 hP hS)
  · exact hk.elim
theorem s_iand (hB : f_B p s m args meth c own y bt maxL ret lo hi mc sz D cA ad) {pc nx : Nat} (hd : decode bt pc = .ok (.iand, 1)) (hn : pc + 1 = nx) : f_Snd (f_X p l e s m args below meth c maxL lo hi h mc sz D cA ad R) R pc (tr_bin (fun x y => x &&& y) nx) := by
  intro K hK G ls st M hk H locs lsA hL h1 h2 h3 hP hS
  subst hn
  unfold tr_bin at hk
  split at hk
  · exact lv_iand hB.1 hB.2.1 hd (hK _ _ _ _ _ hk H locs lsA hL h1 h2 h3 hP hS)
  · exact hk.elim
theorem s_ior (hB : f_B p s m args meth c own y bt maxL ret lo hi mc sz D cA ad) {pc nx : Nat} (hd : decode bt pc = .ok (.ior, 1)) (hn : pc + 1 = nx) : f_Snd (f_X p l e s m args below meth c maxL lo hi h mc sz D cA ad R) R pc (tr_bin (fun x y => x ||| y) nx) := by
  intro K hK G ls st M hk H locs lsA hL h1 h2 h3 hP hS
  subst hn
  unfold tr_bin at hk
  split at hk
  · exact lv_ior hB.1 hB.2.1 hd (hK _ _ _ _ _ hk H locs lsA hL h1 h2 h3 hP hS)
  · exact hk.elim
theorem s_ixor (hB : f_B p s m args meth c own y bt maxL ret lo hi mc sz D cA ad) {pc nx : Nat} (hd : decode bt pc = .ok (.ixor, 1)) (hn : pc + 1 = nx) : f_Snd (f_X p l e s m args below meth c maxL lo hi h mc sz D cA ad R) R pc (tr_bin (fun x y => x ^^^ y) nx) := by
  intro K hK G ls st M hk H locs lsA hL h1 h2 h3 hP hS
  subst hn
  unfold tr_bin at hk
  split at hk
  · exact lv_ixor hB.1 hB.2.1 hd (hK _ _ _ _ _ hk H locs lsA hL h1 h2 h3 hP hS)
  · exact hk.elim
theorem s_ishl (hB : f_B p s m args meth c own y bt maxL ret lo hi mc sz D cA ad) {pc nx : Nat} (hd : decode bt pc = .ok (.ishl, 1)) (hn : pc + 1 = nx) : f_Snd (f_X p l e s m args below meth c maxL lo hi h mc sz D cA ad R) R pc (tr_bin (fun x y => x <<< (y &&& 31)) nx) := by
  intro K hK G ls st M hk H locs lsA hL h1 h2 h3 hP hS
  subst hn
  unfold tr_bin at hk
  split at hk
  · exact lv_ishl hB.1 hB.2.1 hd (hK _ _ _ _ _ hk H locs lsA hL h1 h2 h3 hP hS)
  · exact hk.elim
theorem s_ishr (hB : f_B p s m args meth c own y bt maxL ret lo hi mc sz D cA ad) {pc nx : Nat} (hd : decode bt pc = .ok (.ishr, 1)) (hn : pc + 1 = nx) : f_Snd (f_X p l e s m args below meth c maxL lo hi h mc sz D cA ad R) R pc (tr_bin (fun x y => x >>> (y &&& 31)) nx) := by
  intro K hK G ls st M hk H locs lsA hL h1 h2 h3 hP hS
  subst hn
  unfold tr_bin at hk
  split at hk
  · exact lv_ishr hB.1 hB.2.1 hd (hK _ _ _ _ _ hk H locs lsA hL h1 h2 h3 hP hS)
  · exact hk.elim
theorem s_iushr (hB : f_B p s m args meth c own y bt maxL ret lo hi mc sz D cA ad) {pc nx : Nat} (hd : decode bt pc = .ok (.iushr, 1)) (hn : pc + 1 = nx) : f_Snd (f_X p l e s m args below meth c maxL lo hi h mc sz D cA ad R) R pc (tr_bin (fun x y => (x.toUInt32 >>> (y.toUInt32 &&& Int32.toUInt32 31)).toInt32) nx) := by
  intro K hK G ls st M hk H locs lsA hL h1 h2 h3 hP hS
  subst hn
  unfold tr_bin at hk
  split at hk
  · exact lv_iushr hB.1 hB.2.1 hd rfl (hK _ _ _ _ _ hk H locs lsA hL h1 h2 h3 hP hS)
  · exact hk.elim
theorem s_idiv (hB : f_B p s m args meth c own y bt maxL ret lo hi mc sz D cA ad) {pc nx : Nat} (hd : decode bt pc = .ok (.idiv, 1)) (hn : pc + 1 = nx) : f_Snd (f_X p l e s m args below meth c maxL lo hi h mc sz D cA ad R) R pc (tr_binD (fun x y => x / y) nx) := by
  intro K hK G ls st M hk H locs lsA hL h1 h2 h3 hP hS
  subst hn
  unfold tr_binD at hk
  split at hk
  · exact lv_idiv hB.1 hB.2.1 hd hk.1 (hK _ _ _ _ _ hk.2 H locs lsA hL h1 h2 h3 hP hS)
  · exact hk.elim
theorem s_irem (hB : f_B p s m args meth c own y bt maxL ret lo hi mc sz D cA ad) {pc nx : Nat} (hd : decode bt pc = .ok (.irem, 1)) (hn : pc + 1 = nx) : f_Snd (f_X p l e s m args below meth c maxL lo hi h mc sz D cA ad R) R pc (tr_binD (fun x y => x - x / y * y) nx) := by
  intro K hK G ls st M hk H locs lsA hL h1 h2 h3 hP hS
  subst hn
  unfold tr_binD at hk
  split at hk
  · exact lv_irem hB.1 hB.2.1 hd hk.1 (hK _ _ _ _ _ hk.2 H locs lsA hL h1 h2 h3 hP hS)
  · exact hk.elim
theorem s_ladd (hB : f_B p s m args meth c own y bt maxL ret lo hi mc sz D cA ad) {pc nx : Nat} (hd : decode bt pc = .ok (.ladd, 1)) (hn : pc + 1 = nx) : f_Snd (f_X p l e s m args below meth c maxL lo hi h mc sz D cA ad R) R pc (tr_binL (fun x y => x + y) nx) := by
  intro K hK G ls st M hk H locs lsA hL h1 h2 h3 hP hS
  subst hn
  unfold tr_binL at hk
  split at hk
  · exact lv_ladd hB.1 hB.2.1 hd (hK _ _ _ _ _ hk H locs lsA hL h1 h2 h3 hP hS)
  · exact hk.elim
theorem s_lsub (hB : f_B p s m args meth c own y bt maxL ret lo hi mc sz D cA ad) {pc nx : Nat} (hd : decode bt pc = .ok (.lsub, 1)) (hn : pc + 1 = nx) : f_Snd (f_X p l e s m args below meth c maxL lo hi h mc sz D cA ad R) R pc (tr_binL (fun x y => x - y) nx) := by
  intro K hK G ls st M hk H locs lsA hL h1 h2 h3 hP hS
  subst hn
  unfold tr_binL at hk
  split at hk
  · exact lv_lsub hB.1 hB.2.1 hd (hK _ _ _ _ _ hk H locs lsA hL h1 h2 h3 hP hS)
  · exact hk.elim
theorem s_lmul (hB : f_B p s m args meth c own y bt maxL ret lo hi mc sz D cA ad) {pc nx : Nat} (hd : decode bt pc = .ok (.lmul, 1)) (hn : pc + 1 = nx) : f_Snd (f_X p l e s m args below meth c maxL lo hi h mc sz D cA ad R) R pc (tr_binL (fun x y => x * y) nx) := by
  intro K hK G ls st M hk H locs lsA hL h1 h2 h3 hP hS
  subst hn
  unfold tr_binL at hk
  split at hk
  · exact lv_lmul hB.1 hB.2.1 hd (hK _ _ _ _ _ hk H locs lsA hL h1 h2 h3 hP hS)
  · exact hk.elim
theorem s_ldiv (hB : f_B p s m args meth c own y bt maxL ret lo hi mc sz D cA ad) {pc nx : Nat} (hd : decode bt pc = .ok (.ldiv, 1)) (hn : pc + 1 = nx) : f_Snd (f_X p l e s m args below meth c maxL lo hi h mc sz D cA ad R) R pc (tr_binLD (fun x y => x / y) nx) := by
  intro K hK G ls st M hk H locs lsA hL h1 h2 h3 hP hS
  subst hn
  unfold tr_binLD at hk
  split at hk
  · exact lv_ldiv hB.1 hB.2.1 hd hk.1 (hK _ _ _ _ _ hk.2 H locs lsA hL h1 h2 h3 hP hS)
  · exact hk.elim
theorem s_lrem (hB : f_B p s m args meth c own y bt maxL ret lo hi mc sz D cA ad) {pc nx : Nat} (hd : decode bt pc = .ok (.lrem, 1)) (hn : pc + 1 = nx) : f_Snd (f_X p l e s m args below meth c maxL lo hi h mc sz D cA ad R) R pc (tr_binLD (fun x y => x - x / y * y) nx) := by
  intro K hK G ls st M hk H locs lsA hL h1 h2 h3 hP hS
  subst hn
  unfold tr_binLD at hk
  split at hk
  · exact lv_lrem hB.1 hB.2.1 hd hk.1 (hK _ _ _ _ _ hk.2 H locs lsA hL h1 h2 h3 hP hS)
  · exact hk.elim
theorem s_ineg (hB : f_B p s m args meth c own y bt maxL ret lo hi mc sz D cA ad) {pc nx : Nat} (hd : decode bt pc = .ok (.ineg, 1)) (hn : pc + 1 = nx) : f_Snd (f_X p l e s m args below meth c maxL lo hi h mc sz D cA ad R) R pc (tr_ineg nx) := by
  intro K hK G ls st M hk H locs lsA hL h1 h2 h3 hP hS
  subst hn
  unfold tr_ineg at hk
  split at hk
  · exact lv_ineg hB.1 hB.2.1 hd (hK _ _ _ _ _ hk H locs lsA hL h1 h2 h3 hP hS)
  · exact hk.elim
theorem s_i2l (hB : f_B p s m args meth c own y bt maxL ret lo hi mc sz D cA ad) {pc nx : Nat} (hd : decode bt pc = .ok (.i2l, 1)) (hn : pc + 1 = nx) : f_Snd (f_X p l e s m args below meth c maxL lo hi h mc sz D cA ad R) R pc (tr_i2l nx) := by
  intro K hK G ls st M hk H locs lsA hL h1 h2 h3 hP hS
  subst hn
  unfold tr_i2l at hk
  split at hk
  · exact lv_i2l hB.1 hB.2.1 hd rfl (hK _ _ _ _ _ hk H locs lsA hL h1 h2 h3 hP hS)
  · exact hk.elim
theorem s_lcmp (hB : f_B p s m args meth c own y bt maxL ret lo hi mc sz D cA ad) {pc nx : Nat} (hd : decode bt pc = .ok (.lcmp, 1)) (hn : pc + 1 = nx) : f_Snd (f_X p l e s m args below meth c maxL lo hi h mc sz D cA ad R) R pc (tr_lcmp nx) := by
  intro K hK G ls st M hk H locs lsA hL h1 h2 h3 hP hS
  subst hn
  unfold tr_lcmp at hk
  split at hk
  · exact W.lcmp hB.1 hB.2.1 hd (hK _ _ _ _ _ hk H locs lsA hL h1 h2 h3 hP hS)
  · exact hk.elim
theorem s_dup (hB : f_B p s m args meth c own y bt maxL ret lo hi mc sz D cA ad) {pc nx : Nat} (hd : decode bt pc = .ok (.dup, 1)) (hn : pc + 1 = nx) : f_Snd (f_X p l e s m args below meth c maxL lo hi h mc sz D cA ad R) R pc (tr_dup nx) := by
  intro K hK G ls st M hk H locs lsA hL h1 h2 h3 hP hS
  subst hn
  unfold tr_dup at hk
  split at hk
  · exact lv_dup hB.1 hB.2.1 hd rfl (hK _ _ _ _ _ hk H locs lsA hL h1 h2 h3 hP hS)
  · exact lv_dup hB.1 hB.2.1 hd rfl (hK _ _ _ _ _ hk H locs lsA hL h1 h2 h3 hP hS)
  · exact hk.elim
theorem s_dup2 (hB : f_B p s m args meth c own y bt maxL ret lo hi mc sz D cA ad) {pc nx : Nat} (hd : decode bt pc = .ok (.dup2, 1)) (hn : pc + 1 = nx) : f_Snd (f_X p l e s m args below meth c maxL lo hi h mc sz D cA ad R) R pc (tr_dup2 nx) := by
  intro K hK G ls st M hk H locs lsA hL h1 h2 h3 hP hS
  subst hn
  unfold tr_dup2 at hk
  split at hk
  · exact lv_dup2_2 hB.1 hB.2.1 hd rfl (hK _ _ _ _ _ hk H locs lsA hL h1 h2 h3 hP hS)
  · exact lv_dup2_11 hB.1 hB.2.1 hd rfl rfl (hK _ _ _ _ _ hk H locs lsA hL h1 h2 h3 hP hS)
  · exact hk.elim
theorem s_if_eq (hB : f_B p s m args meth c own y bt maxL ret lo hi mc sz D cA ad) {pc nx : Nat} {off : Int} {tg : Nat} (hd : decode bt pc = .ok (.ifCond .eq off, 3)) (ht : (pc : Int) + off = (tg : Int)) (hn : pc + 3 = nx) : f_Snd (f_X p l e s m args below meth c maxL lo hi h mc sz D cA ad R) R pc (tr_if (fun x => x = 0) tg nx) := by
  intro K hK G ls st M hk H locs lsA hL h1 h2 h3 hP hS
  subst hn
  unfold tr_if at hk
  split at hk
  · exact lv_if_eq hB.1 hB.2.1 hd ht (fun q => (hK _ _ _ _ _ (hk.1 q) H locs lsA hL h1 h2 h3 hP hS)) (fun q => (hK _ _ _ _ _ (hk.2 q) H locs lsA hL h1 h2 h3 hP hS))
  · exact hk.elim
theorem s_icmp_eq (hB : f_B p s m args meth c own y bt maxL ret lo hi mc sz D cA ad) {pc nx : Nat} {off : Int} {tg : Nat} (hd : decode bt pc = .ok (.if_icmp .eq off, 3)) (ht : (pc : Int) + off = (tg : Int)) (hn : pc + 3 = nx) : f_Snd (f_X p l e s m args below meth c maxL lo hi h mc sz D cA ad R) R pc (tr_if2 (fun x y => x = y) tg nx) := by
  intro K hK G ls st M hk H locs lsA hL h1 h2 h3 hP hS
  subst hn
  unfold tr_if2 at hk
  split at hk
  · exact lv_icmp_eq hB.1 hB.2.1 hd ht (fun q => (hK _ _ _ _ _ (hk.1 q) H locs lsA hL h1 h2 h3 hP hS)) (fun q => (hK _ _ _ _ _ (hk.2 q) H locs lsA hL h1 h2 h3 hP hS))
  · exact hk.elim
theorem s_if_ne (hB : f_B p s m args meth c own y bt maxL ret lo hi mc sz D cA ad) {pc nx : Nat} {off : Int} {tg : Nat} (hd : decode bt pc = .ok (.ifCond .ne off, 3)) (ht : (pc : Int) + off = (tg : Int)) (hn : pc + 3 = nx) : f_Snd (f_X p l e s m args below meth c maxL lo hi h mc sz D cA ad R) R pc (tr_if (fun x => x = 0) nx tg) := by
  intro K hK G ls st M hk H locs lsA hL h1 h2 h3 hP hS
  subst hn
  unfold tr_if at hk
  split at hk
  · exact lv_if_ne hB.1 hB.2.1 hd ht (fun q => (hK _ _ _ _ _ (hk.2 q) H locs lsA hL h1 h2 h3 hP hS)) (fun q => (hK _ _ _ _ _ (hk.1 q) H locs lsA hL h1 h2 h3 hP hS))
  · exact hk.elim
theorem s_icmp_ne (hB : f_B p s m args meth c own y bt maxL ret lo hi mc sz D cA ad) {pc nx : Nat} {off : Int} {tg : Nat} (hd : decode bt pc = .ok (.if_icmp .ne off, 3)) (ht : (pc : Int) + off = (tg : Int)) (hn : pc + 3 = nx) : f_Snd (f_X p l e s m args below meth c maxL lo hi h mc sz D cA ad R) R pc (tr_if2 (fun x y => x = y) nx tg) := by
  intro K hK G ls st M hk H locs lsA hL h1 h2 h3 hP hS
  subst hn
  unfold tr_if2 at hk
  split at hk
  · exact lv_icmp_ne hB.1 hB.2.1 hd ht (fun q => (hK _ _ _ _ _ (hk.2 q) H locs lsA hL h1 h2 h3 hP hS)) (fun q => (hK _ _ _ _ _ (hk.1 q) H locs lsA hL h1 h2 h3 hP hS))
  · exact hk.elim
theorem s_if_lt (hB : f_B p s m args meth c own y bt maxL ret lo hi mc sz D cA ad) {pc nx : Nat} {off : Int} {tg : Nat} (hd : decode bt pc = .ok (.ifCond .lt off, 3)) (ht : (pc : Int) + off = (tg : Int)) (hn : pc + 3 = nx) : f_Snd (f_X p l e s m args below meth c maxL lo hi h mc sz D cA ad R) R pc (tr_if (fun x => x < 0) tg nx) := by
  intro K hK G ls st M hk H locs lsA hL h1 h2 h3 hP hS
  subst hn
  unfold tr_if at hk
  split at hk
  · exact lv_if_lt hB.1 hB.2.1 hd ht (fun q => (hK _ _ _ _ _ (hk.1 q) H locs lsA hL h1 h2 h3 hP hS)) (fun q => (hK _ _ _ _ _ (hk.2 q) H locs lsA hL h1 h2 h3 hP hS))
  · exact hk.elim
theorem s_icmp_lt (hB : f_B p s m args meth c own y bt maxL ret lo hi mc sz D cA ad) {pc nx : Nat} {off : Int} {tg : Nat} (hd : decode bt pc = .ok (.if_icmp .lt off, 3)) (ht : (pc : Int) + off = (tg : Int)) (hn : pc + 3 = nx) : f_Snd (f_X p l e s m args below meth c maxL lo hi h mc sz D cA ad R) R pc (tr_if2 (fun x y => x < y) tg nx) := by
  intro K hK G ls st M hk H locs lsA hL h1 h2 h3 hP hS
  subst hn
  unfold tr_if2 at hk
  split at hk
  · exact lv_icmp_lt hB.1 hB.2.1 hd ht (fun q => (hK _ _ _ _ _ (hk.1 q) H locs lsA hL h1 h2 h3 hP hS)) (fun q => (hK _ _ _ _ _ (hk.2 q) H locs lsA hL h1 h2 h3 hP hS))
  · exact hk.elim
theorem s_if_ge (hB : f_B p s m args meth c own y bt maxL ret lo hi mc sz D cA ad) {pc nx : Nat} {off : Int} {tg : Nat} (hd : decode bt pc = .ok (.ifCond .ge off, 3)) (ht : (pc : Int) + off = (tg : Int)) (hn : pc + 3 = nx) : f_Snd (f_X p l e s m args below meth c maxL lo hi h mc sz D cA ad R) R pc (tr_if (fun x => 0 ≤ x) tg nx) := by
  intro K hK G ls st M hk H locs lsA hL h1 h2 h3 hP hS
  subst hn
  unfold tr_if at hk
  split at hk
  · exact lv_if_ge hB.1 hB.2.1 hd ht (fun q => (hK _ _ _ _ _ (hk.1 q) H locs lsA hL h1 h2 h3 hP hS)) (fun q => (hK _ _ _ _ _ (hk.2 q) H locs lsA hL h1 h2 h3 hP hS))
  · exact hk.elim
theorem s_icmp_ge (hB : f_B p s m args meth c own y bt maxL ret lo hi mc sz D cA ad) {pc nx : Nat} {off : Int} {tg : Nat} (hd : decode bt pc = .ok (.if_icmp .ge off, 3)) (ht : (pc : Int) + off = (tg : Int)) (hn : pc + 3 = nx) : f_Snd (f_X p l e s m args below meth c maxL lo hi h mc sz D cA ad R) R pc (tr_if2 (fun x y => y ≤ x) tg nx) := by
  intro K hK G ls st M hk H locs lsA hL h1 h2 h3 hP hS
  subst hn
  unfold tr_if2 at hk
  split at hk
  · exact lv_icmp_ge hB.1 hB.2.1 hd ht (fun q => (hK _ _ _ _ _ (hk.1 q) H locs lsA hL h1 h2 h3 hP hS)) (fun q => (hK _ _ _ _ _ (hk.2 q) H locs lsA hL h1 h2 h3 hP hS))
  · exact hk.elim
theorem s_if_gt (hB : f_B p s m args meth c own y bt maxL ret lo hi mc sz D cA ad) {pc nx : Nat} {off : Int} {tg : Nat} (hd : decode bt pc = .ok (.ifCond .gt off, 3)) (ht : (pc : Int) + off = (tg : Int)) (hn : pc + 3 = nx) : f_Snd (f_X p l e s m args below meth c maxL lo hi h mc sz D cA ad R) R pc (tr_if (fun x => 0 < x) tg nx) := by
  intro K hK G ls st M hk H locs lsA hL h1 h2 h3 hP hS
  subst hn
  unfold tr_if at hk
  split at hk
  · exact lv_if_gt hB.1 hB.2.1 hd ht (fun q => (hK _ _ _ _ _ (hk.1 q) H locs lsA hL h1 h2 h3 hP hS)) (fun q => (hK _ _ _ _ _ (hk.2 q) H locs lsA hL h1 h2 h3 hP hS))
  · exact hk.elim
theorem s_icmp_gt (hB : f_B p s m args meth c own y bt maxL ret lo hi mc sz D cA ad) {pc nx : Nat} {off : Int} {tg : Nat} (hd : decode bt pc = .ok (.if_icmp .gt off, 3)) (ht : (pc : Int) + off = (tg : Int)) (hn : pc + 3 = nx) : f_Snd (f_X p l e s m args below meth c maxL lo hi h mc sz D cA ad R) R pc (tr_if2 (fun x y => y < x) tg nx) := by
  intro K hK G ls st M hk H locs lsA hL h1 h2 h3 hP hS
  subst hn
  unfold tr_if2 at hk
  split at hk
  · exact lv_icmp_gt hB.1 hB.2.1 hd ht (fun q => (hK _ _ _ _ _ (hk.1 q) H locs lsA hL h1 h2 h3 hP hS)) (fun q => (hK _ _ _ _ _ (hk.2 q) H locs lsA hL h1 h2 h3 hP hS))
  · exact hk.elim
theorem s_if_le (hB : f_B p s m args meth c own y bt maxL ret lo hi mc sz D cA ad) {pc nx : Nat} {off : Int} {tg : Nat} (hd : decode bt pc = .ok (.ifCond .le off, 3)) (ht : (pc : Int) + off = (tg : Int)) (hn : pc + 3 = nx) : f_Snd (f_X p l e s m args below meth c maxL lo hi h mc sz D cA ad R) R pc (tr_if (fun x => x ≤ 0) tg nx) := by
  intro K hK G ls st M hk H locs lsA hL h1 h2 h3 hP hS
  subst hn
  unfold tr_if at hk
  split at hk
  · exact lv_if_le hB.1 hB.2.1 hd ht (fun q => (hK _ _ _ _ _ (hk.1 q) H locs lsA hL h1 h2 h3 hP hS)) (fun q => (hK _ _ _ _ _ (hk.2 q) H locs lsA hL h1 h2 h3 hP hS))
  · exact hk.elim
theorem s_icmp_le (hB : f_B p s m args meth c own y bt maxL ret lo hi mc sz D cA ad) {pc nx : Nat} {off : Int} {tg : Nat} (hd : decode bt pc = .ok (.if_icmp .le off, 3)) (ht : (pc : Int) + off = (tg : Int)) (hn : pc + 3 = nx) : f_Snd (f_X p l e s m args below meth c maxL lo hi h mc sz D cA ad R) R pc (tr_if2 (fun x y => x ≤ y) tg nx) := by
  intro K hK G ls st M hk H locs lsA hL h1 h2 h3 hP hS
  subst hn
  unfold tr_if2 at hk
  split at hk
  · exact lv_icmp_le hB.1 hB.2.1 hd ht (fun q => (hK _ _ _ _ _ (hk.1 q) H locs lsA hL h1 h2 h3 hP hS)) (fun q => (hK _ _ _ _ _ (hk.2 q) H locs lsA hL h1 h2 h3 hP hS))
  · exact hk.elim
theorem s_goto (hB : f_B p s m args meth c own y bt maxL ret lo hi mc sz D cA ad) {pc nx : Nat} {off : Int} {tg : Nat} (hd : decode bt pc = .ok (.goto off, 3)) (ht : (pc : Int) + off = (tg : Int)) : f_Snd (f_X p l e s m args below meth c maxL lo hi h mc sz D cA ad R) R pc (tr_goto tg) := by
  intro K hK G ls st M hk H locs lsA hL h1 h2 h3 hP hS
  exact lv_goto hB.1 hB.2.1 hd ht (hK _ _ _ _ _ hk H locs lsA hL h1 h2 h3 hP hS)
end FI
