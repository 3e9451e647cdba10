section JR
variable {l : Launch} {s0 : State} {cl : List vw_C} {D : va_G} {cA : Nat → ClassId} {d : Nat} {y : jM} {pc : Nat} {L : jL} {st : List Value} {σ : jS} {Φ : Option Value → jS → Prop}
theorem jW.iconst {n : Int} {v : Int32} (hd : decode y.2.1 pc = .ok (.iconst n, 1)) (hv : Int32.ofInt n = v) {pc' : Nat} (hp : pc + 1 = pc') (k : jW l s0 cl D cA d y pc' L (.int v :: st) σ Φ) : jW l s0 cl D cA d y pc L (st) σ Φ := by
  subst hp
  exact k.pure fun p e R s m args below meth c H locs ls cells slots Q hx hb hL w => lv_iconst hx hb hd hv w
theorem jW.bipush {n : Int} {v : Int32} (hd : decode y.2.1 pc = .ok (.bipush n, 2)) (hv : (Int8.ofInt n).toInt32 = v) {pc' : Nat} (hp : pc + 2 = pc') (k : jW l s0 cl D cA d y pc' L (.int v :: st) σ Φ) : jW l s0 cl D cA d y pc L (st) σ Φ := by
  subst hp
  exact k.pure fun p e R s m args below meth c H locs ls cells slots Q hx hb hL w => lv_bipush hx hb hd hv w
theorem jW.sipush {n : Int} {v : Int32} (hd : decode y.2.1 pc = .ok (.sipush n, 3)) (hv : (Int16.ofInt n).toInt32 = v) {pc' : Nat} (hp : pc + 3 = pc') (k : jW l s0 cl D cA d y pc' L (.int v :: st) σ Φ) : jW l s0 cl D cA d y pc L (st) σ Φ := by
  subst hp
  exact k.pure fun p e R s m args below meth c H locs ls cells slots Q hx hb hL w => lv_sipush hx hb hd hv w
theorem jW.null  (hd : decode y.2.1 pc = .ok (.aconst_null, 1)) {pc' : Nat} (hp : pc + 1 = pc') (k : jW l s0 cl D cA d y pc' L (.null :: st) σ Φ) : jW l s0 cl D cA d y pc L (st) σ Φ := by
  subst hp
  exact k.pure fun p e R s m args below meth c H locs ls cells slots Q hx hb hL w => lv_null hx hb hd w
theorem jW.iload_n {k0 : Fin 4} {i : Nat} {x : Int32} (hd : decode y.2.1 pc = .ok (.iload_n k0, 1)) (hi : (k0 : Nat) = i) (hl : L[i]? = some (some (.int x))) {pc' : Nat} (hp : pc + 1 = pc') (k : jW l s0 cl D cA d y pc' L (.int x :: st) σ Φ) : jW l s0 cl D cA d y pc L (st) σ Φ := by
  subst hp
  exact k.pure fun p e R s m args below meth c H locs ls cells slots Q hx hb hL w => lv_iload_n hx hb hd hi (hL.2.2 _ _ hl).2 w
theorem jW.iload {i : Nat} {x : Int32} (hd : decode y.2.1 pc = .ok (.iload i, 2)) (hl : L[i]? = some (some (.int x))) {pc' : Nat} (hp : pc + 2 = pc') (k : jW l s0 cl D cA d y pc' L (.int x :: st) σ Φ) : jW l s0 cl D cA d y pc L (st) σ Φ := by
  subst hp
  exact k.pure fun p e R s m args below meth c H locs ls cells slots Q hx hb hL w => lv_iload hx hb hd (hL.2.2 _ _ hl).2 w
theorem jW.aload_n {k0 : Fin 4} {i : Nat} {x : Nat} (hd : decode y.2.1 pc = .ok (.aload_n k0, 1)) (hi : (k0 : Nat) = i) (hl : L[i]? = some (some (.ref x))) {pc' : Nat} (hp : pc + 1 = pc') (k : jW l s0 cl D cA d y pc' L (.ref x :: st) σ Φ) : jW l s0 cl D cA d y pc L (st) σ Φ := by
  subst hp
  exact k.pure fun p e R s m args below meth c H locs ls cells slots Q hx hb hL w => lv_aload_n hx hb hd hi (hL.2.2 _ _ hl).2 w
theorem jW.aload {i : Nat} {x : Nat} (hd : decode y.2.1 pc = .ok (.aload i, 2)) (hl : L[i]? = some (some (.ref x))) {pc' : Nat} (hp : pc + 2 = pc') (k : jW l s0 cl D cA d y pc' L (.ref x :: st) σ Φ) : jW l s0 cl D cA d y pc L (st) σ Φ := by
  subst hp
  exact k.pure fun p e R s m args below meth c H locs ls cells slots Q hx hb hL w => lv_aload hx hb hd (hL.2.2 _ _ hl).2 w
theorem jW.aload_nN {k0 : Fin 4} {i : Nat} (hd : decode y.2.1 pc = .ok (.aload_n k0, 1)) (hi : (k0 : Nat) = i) (hl : L[i]? = some (some .null)) {pc' : Nat} (hp : pc + 1 = pc') (k : jW l s0 cl D cA d y pc' L (.null :: st) σ Φ) : jW l s0 cl D cA d y pc L (st) σ Φ := by
  subst hp
  exact k.pure fun p e R s m args below meth c H locs ls cells slots Q hx hb hL w => lv_aload_nN hx hb hd hi (hL.2.2 _ _ hl).2 w
theorem jW.aloadN {i : Nat} (hd : decode y.2.1 pc = .ok (.aload i, 2)) (hl : L[i]? = some (some .null)) {pc' : Nat} (hp : pc + 2 = pc') (k : jW l s0 cl D cA d y pc' L (.null :: st) σ Φ) : jW l s0 cl D cA d y pc L (st) σ Φ := by
  subst hp
  exact k.pure fun p e R s m args below meth c H locs ls cells slots Q hx hb hL w => lv_aloadN hx hb hd (hL.2.2 _ _ hl).2 w
theorem jW.iadd {x z : Int32} (hd : decode y.2.1 pc = .ok (.iadd, 1)) {pc' : Nat} (hp : pc + 1 = pc') (k : jW l s0 cl D cA d y pc' L (.int (x + z) :: st) σ Φ) : jW l s0 cl D cA d y pc L (.int z :: .int x :: st) σ Φ := by
  subst hp
  exact k.pure fun p e R s m args below meth c H locs ls cells slots Q hx hb hL w => lv_iadd hx hb hd w
theorem jW.isub {x z : Int32} (hd : decode y.2.1 pc = .ok (.isub, 1)) {pc' : Nat} (hp : pc + 1 = pc') (k : jW l s0 cl D cA d y pc' L (.int (x - z) :: st) σ Φ) : jW l s0 cl D cA d y pc L (.int z :: .int x :: st) σ Φ := by
  subst hp
  exact k.pure fun p e R s m args below meth c H locs ls cells slots Q hx hb hL w => lv_isub hx hb hd w
theorem jW.imul {x z : Int32} (hd : decode y.2.1 pc = .ok (.imul, 1)) {pc' : Nat} (hp : pc + 1 = pc') (k : jW l s0 cl D cA d y pc' L (.int (x * z) :: st) σ Φ) : jW l s0 cl D cA d y pc L (.int z :: .int x :: st) σ Φ := by
  subst hp
  exact k.pure fun p e R s m args below meth c H locs ls cells slots Q hx hb hL w => lv_imul hx hb hd w
theorem jW.iand {x z : Int32} (hd : decode y.2.1 pc = .ok (.iand, 1)) {pc' : Nat} (hp : pc + 1 = pc') (k : jW l s0 cl D cA d y pc' L (.int (x &&& z) :: st) σ Φ) : jW l s0 cl D cA d y pc L (.int z :: .int x :: st) σ Φ := by
  subst hp
  exact k.pure fun p e R s m args below meth c H locs ls cells slots Q hx hb hL w => lv_iand hx hb hd w
theorem jW.ior {x z : Int32} (hd : decode y.2.1 pc = .ok (.ior, 1)) {pc' : Nat} (hp : pc + 1 = pc') (k : jW l s0 cl D cA d y pc' L (.int (x ||| z) :: st) σ Φ) : jW l s0 cl D cA d y pc L (.int z :: .int x :: st) σ Φ := by
  subst hp
  exact k.pure fun p e R s m args below meth c H locs ls cells slots Q hx hb hL w => lv_ior hx hb hd w
theorem jW.ixor {x z : Int32} (hd : decode y.2.1 pc = .ok (.ixor, 1)) {pc' : Nat} (hp : pc + 1 = pc') (k : jW l s0 cl D cA d y pc' L (.int (x ^^^ z) :: st) σ Φ) : jW l s0 cl D cA d y pc L (.int z :: .int x :: st) σ Φ := by
  subst hp
  exact k.pure fun p e R s m args below meth c H locs ls cells slots Q hx hb hL w => lv_ixor hx hb hd w
theorem jW.ishl {x z : Int32} (hd : decode y.2.1 pc = .ok (.ishl, 1)) {pc' : Nat} (hp : pc + 1 = pc') (k : jW l s0 cl D cA d y pc' L (.int (x <<< (z &&& 31)) :: st) σ Φ) : jW l s0 cl D cA d y pc L (.int z :: .int x :: st) σ Φ := by
  subst hp
  exact k.pure fun p e R s m args below meth c H locs ls cells slots Q hx hb hL w => lv_ishl hx hb hd w
theorem jW.ishr {x z : Int32} (hd : decode y.2.1 pc = .ok (.ishr, 1)) {pc' : Nat} (hp : pc + 1 = pc') (k : jW l s0 cl D cA d y pc' L (.int (x >>> (z &&& 31)) :: st) σ Φ) : jW l s0 cl D cA d y pc L (.int z :: .int x :: st) σ Φ := by
  subst hp
  exact k.pure fun p e R s m args below meth c H locs ls cells slots Q hx hb hL w => lv_ishr hx hb hd w
theorem jW.iushr {x z v : Int32} (hd : decode y.2.1 pc = .ok (.iushr, 1)) (hv : (x.toUInt32 >>> (z.toUInt32 &&& Int32.toUInt32 31)).toInt32 = v) {pc' : Nat} (hp : pc + 1 = pc') (k : jW l s0 cl D cA d y pc' L (.int v :: st) σ Φ) : jW l s0 cl D cA d y pc L (.int z :: .int x :: st) σ Φ := by
  subst hp
  exact k.pure fun p e R s m args below meth c H locs ls cells slots Q hx hb hL w => lv_iushr hx hb hd hv w
theorem jW.idiv {x z : Int32} (hd : decode y.2.1 pc = .ok (.idiv, 1)) (hne : ¬ z = 0) {pc' : Nat} (hp : pc + 1 = pc') (k : jW l s0 cl D cA d y pc' L (.int (x / z) :: st) σ Φ) : jW l s0 cl D cA d y pc L (.int z :: .int x :: st) σ Φ := by
  subst hp
  exact k.pure fun p e R s m args below meth c H locs ls cells slots Q hx hb hL w => lv_idiv hx hb hd hne w
theorem jW.irem {x z : Int32} (hd : decode y.2.1 pc = .ok (.irem, 1)) (hne : ¬ z = 0) {pc' : Nat} (hp : pc + 1 = pc') (k : jW l s0 cl D cA d y pc' L (.int (x - x / z * z) :: st) σ Φ) : jW l s0 cl D cA d y pc L (.int z :: .int x :: st) σ Φ := by
  subst hp
  exact k.pure fun p e R s m args below meth c H locs ls cells slots Q hx hb hL w => lv_irem hx hb hd hne w
theorem jW.ineg {x : Int32} (hd : decode y.2.1 pc = .ok (.ineg, 1)) {pc' : Nat} (hp : pc + 1 = pc') (k : jW l s0 cl D cA d y pc' L (.int (-x) :: st) σ Φ) : jW l s0 cl D cA d y pc L (.int x :: st) σ Φ := by
  subst hp
  exact k.pure fun p e R s m args below meth c H locs ls cells slots Q hx hb hL w => lv_ineg hx hb hd w
theorem jW.i2l {x : Int32} {v : Int64} (hd : decode y.2.1 pc = .ok (.i2l, 1)) (hv : x.toInt64 = v) {pc' : Nat} (hp : pc + 1 = pc') (k : jW l s0 cl D cA d y pc' L (.long v :: st) σ Φ) : jW l s0 cl D cA d y pc L (.int x :: st) σ Φ := by
  subst hp
  exact k.pure fun p e R s m args below meth c H locs ls cells slots Q hx hb hL w => lv_i2l hx hb hd hv w
theorem jW.i2c {x v : Int32} (hd : decode y.2.1 pc = .ok (.i2c, 1)) (hv : (x.toUInt32 % 65536).toInt32 = v) {pc' : Nat} (hp : pc + 1 = pc') (k : jW l s0 cl D cA d y pc' L (.int v :: st) σ Φ) : jW l s0 cl D cA d y pc L (.int x :: st) σ Φ := by
  subst hp
  exact k.pure fun p e R s m args below meth c H locs ls cells slots Q hx hb hL w => lv_i2c hx hb hd hv w
theorem jW.i2b {x v : Int32} (hd : decode y.2.1 pc = .ok (.i2b, 1)) (hv : x.toInt8.toInt32 = v) {pc' : Nat} (hp : pc + 1 = pc') (k : jW l s0 cl D cA d y pc' L (.int v :: st) σ Φ) : jW l s0 cl D cA d y pc L (.int x :: st) σ Φ := by
  subst hp
  exact k.pure fun p e R s m args below meth c H locs ls cells slots Q hx hb hL w => lv_i2b hx hb hd hv w
theorem jW.lcmp {x z : Int64} (hd : decode y.2.1 pc = .ok (.lcmp, 1)) {pc' : Nat} (hp : pc + 1 = pc') (k : jW l s0 cl D cA d y pc' L (.int (lg_cmp x z) :: st) σ Φ) : jW l s0 cl D cA d y pc L (.long z :: .long x :: st) σ Φ := by
  subst hp
  exact k.pure fun p e R s m args below meth c H locs ls cells slots Q hx hb hL w => W.lcmp hx hb hd w
theorem jW.dup {va : Value} (hd : decode y.2.1 pc = .ok (.dup, 1)) (ha : va.category = 1) {pc' : Nat} (hp : pc + 1 = pc') (k : jW l s0 cl D cA d y pc' L (va :: va :: st) σ Φ) : jW l s0 cl D cA d y pc L (va :: st) σ Φ := by
  subst hp
  exact k.pure fun p e R s m args below meth c H locs ls cells slots Q hx hb hL w => lv_dup hx hb hd ha w
theorem jW.pop {va : Value} (hd : decode y.2.1 pc = .ok (.pop, 1)) (ha : va.category = 1) {pc' : Nat} (hp : pc + 1 = pc') (k : jW l s0 cl D cA d y pc' L (st) σ Φ) : jW l s0 cl D cA d y pc L (va :: st) σ Φ := by
  subst hp
  exact k.pure fun p e R s m args below meth c H locs ls cells slots Q hx hb hL w => lv_pop hx hb hd ha w
theorem jW.dup_x1 {va vb : Value} (hd : decode y.2.1 pc = .ok (.dup_x1, 1)) (ha : va.category = 1) (hb2 : vb.category = 1) {pc' : Nat} (hp : pc + 1 = pc') (k : jW l s0 cl D cA d y pc' L (va :: vb :: va :: st) σ Φ) : jW l s0 cl D cA d y pc L (va :: vb :: st) σ Φ := by
  subst hp
  exact k.pure fun p e R s m args below meth c H locs ls cells slots Q hx hb hL w => lv_dup_x1 hx hb hd ha hb2 w
theorem jW.dup_x2 {va vb vd : Value} (hd : decode y.2.1 pc = .ok (.dup_x2, 1)) (ha : va.category = 1) (hb2 : vb.category = 1) (hd2 : vd.category = 1) {pc' : Nat} (hp : pc + 1 = pc') (k : jW l s0 cl D cA d y pc' L (va :: vb :: vd :: va :: st) σ Φ) : jW l s0 cl D cA d y pc L (va :: vb :: vd :: st) σ Φ := by
  subst hp
  exact k.pure fun p e R s m args below meth c H locs ls cells slots Q hx hb hL w => lv_dup_x2 hx hb hd ha hb2 hd2 w
theorem jW.dup2 {va vb : Value} (hd : decode y.2.1 pc = .ok (.dup2, 1)) (ha : va.category = 1) (hb2 : vb.category = 1) {pc' : Nat} (hp : pc + 1 = pc') (k : jW l s0 cl D cA d y pc' L (va :: vb :: va :: vb :: st) σ Φ) : jW l s0 cl D cA d y pc L (va :: vb :: st) σ Φ := by
  subst hp
  exact k.pure fun p e R s m args below meth c H locs ls cells slots Q hx hb hL w => lv_dup2_11 hx hb hd ha hb2 w
theorem jW.ifnull {x : Nat} {off : Int} (hd : decode y.2.1 pc = .ok (.ifnull off, 3)) {pc' : Nat} (hp : pc + 3 = pc') (k : jW l s0 cl D cA d y pc' L (st) σ Φ) : jW l s0 cl D cA d y pc L (.ref x :: st) σ Φ := by
  subst hp
  exact k.pure fun p e R s m args below meth c H locs ls cells slots Q hx hb hL w => lv_ifnull hx hb hd w
theorem jW.ifnonnullN {off : Int} (hd : decode y.2.1 pc = .ok (.ifnonnull off, 3)) {pc' : Nat} (hp : pc + 3 = pc') (k : jW l s0 cl D cA d y pc' L (st) σ Φ) : jW l s0 cl D cA d y pc L (.null :: st) σ Φ := by
  subst hp
  exact k.pure fun p e R s m args below meth c H locs ls cells slots Q hx hb hL w => lv_ifnonnullN hx hb hd w
theorem jW.castN {index : Nat} (hd : decode y.2.1 pc = .ok (.checkcast index, 3)) {pc' : Nat} (hp : pc + 3 = pc') (k : jW l s0 cl D cA d y pc' L (.null :: st) σ Φ) : jW l s0 cl D cA d y pc L (.null :: st) σ Φ := by
  subst hp
  exact k.pure fun p e R s m args below meth c H locs ls cells slots Q hx hb hL w => lv_castN hx hb hd w
theorem jW.goto  {off : Int} (hd : decode y.2.1 pc = .ok (.goto off, 3)) (tgt : Nat) (ht : (pc : Int) + off = (tgt : Int)) (k : jW l s0 cl D cA d y tgt L st σ Φ) : jW l s0 cl D cA d y pc L (st) σ Φ :=
  k.pure fun p e R s m args below meth c H locs ls cells slots Q hx hb hL w => lv_goto hx hb hd ht w
theorem jW.ifnonnull {x : Nat} {off : Int} (hd : decode y.2.1 pc = .ok (.ifnonnull off, 3)) (tgt : Nat) (ht : (pc : Int) + off = (tgt : Int)) (k : jW l s0 cl D cA d y tgt L st σ Φ) : jW l s0 cl D cA d y pc L (.ref x :: st) σ Φ :=
  k.pure fun p e R s m args below meth c H locs ls cells slots Q hx hb hL w => lv_ifnonnull hx hb hd ht w
theorem jW.ifnullN  {off : Int} (hd : decode y.2.1 pc = .ok (.ifnull off, 3)) (tgt : Nat) (ht : (pc : Int) + off = (tgt : Int)) (k : jW l s0 cl D cA d y tgt L st σ Φ) : jW l s0 cl D cA d y pc L (.null :: st) σ Φ :=
  k.pure fun p e R s m args below meth c H locs ls cells slots Q hx hb hL w => lv_ifnullN hx hb hd ht w
theorem jW.icmp_eq {x z : Int32} {off : Int} (hd : decode y.2.1 pc = .ok (.if_icmp .eq off, 3)) (tgt : Nat) (ht : (pc : Int) + off = (tgt : Int)) {pc' : Nat} (hp : pc + 3 = pc') (kt : x = z → jW l s0 cl D cA d y tgt L st σ Φ) (kf : ¬ x = z → jW l s0 cl D cA d y pc' L st σ Φ) : jW l s0 cl D cA d y pc L (.int z :: .int x :: st) σ Φ := by
  subst hp
  by_cases hc : x = z
  · exact (kt hc).pure fun p e R s m args below meth c H locs ls cells slots Q hx hb hL w => lv_icmp_eq hx hb hd ht (fun _ => w) (fun q => absurd hc q)
  · exact (kf hc).pure fun p e R s m args below meth c H locs ls cells slots Q hx hb hL w => lv_icmp_eq hx hb hd ht (fun q => absurd q hc) (fun _ => w)
theorem jW.if_eq {x : Int32} {off : Int} (hd : decode y.2.1 pc = .ok (.ifCond .eq off, 3)) (tgt : Nat) (ht : (pc : Int) + off = (tgt : Int)) {pc' : Nat} (hp : pc + 3 = pc') (kt : x = 0 → jW l s0 cl D cA d y tgt L st σ Φ) (kf : ¬ x = 0 → jW l s0 cl D cA d y pc' L st σ Φ) : jW l s0 cl D cA d y pc L (.int x :: st) σ Φ := by
  subst hp
  by_cases hc : x = 0
  · exact (kt hc).pure fun p e R s m args below meth c H locs ls cells slots Q hx hb hL w => lv_if_eq hx hb hd ht (fun _ => w) (fun q => absurd hc q)
  · exact (kf hc).pure fun p e R s m args below meth c H locs ls cells slots Q hx hb hL w => lv_if_eq hx hb hd ht (fun q => absurd q hc) (fun _ => w)
theorem jW.icmp_ne {x z : Int32} {off : Int} (hd : decode y.2.1 pc = .ok (.if_icmp .ne off, 3)) (tgt : Nat) (ht : (pc : Int) + off = (tgt : Int)) {pc' : Nat} (hp : pc + 3 = pc') (kt : ¬ x = z → jW l s0 cl D cA d y tgt L st σ Φ) (kf : x = z → jW l s0 cl D cA d y pc' L st σ Φ) : jW l s0 cl D cA d y pc L (.int z :: .int x :: st) σ Φ := by
  subst hp
  by_cases hc : x = z
  · exact (kf hc).pure fun p e R s m args below meth c H locs ls cells slots Q hx hb hL w => lv_icmp_ne hx hb hd ht (fun q => absurd hc q) (fun _ => w)
  · exact (kt hc).pure fun p e R s m args below meth c H locs ls cells slots Q hx hb hL w => lv_icmp_ne hx hb hd ht (fun _ => w) (fun q => absurd q hc)
theorem jW.if_ne {x : Int32} {off : Int} (hd : decode y.2.1 pc = .ok (.ifCond .ne off, 3)) (tgt : Nat) (ht : (pc : Int) + off = (tgt : Int)) {pc' : Nat} (hp : pc + 3 = pc') (kt : ¬ x = 0 → jW l s0 cl D cA d y tgt L st σ Φ) (kf : x = 0 → jW l s0 cl D cA d y pc' L st σ Φ) : jW l s0 cl D cA d y pc L (.int x :: st) σ Φ := by
  subst hp
  by_cases hc : x = 0
  · exact (kf hc).pure fun p e R s m args below meth c H locs ls cells slots Q hx hb hL w => lv_if_ne hx hb hd ht (fun q => absurd hc q) (fun _ => w)
  · exact (kt hc).pure fun p e R s m args below meth c H locs ls cells slots Q hx hb hL w => lv_if_ne hx hb hd ht (fun _ => w) (fun q => absurd q hc)
theorem jW.icmp_lt {x z : Int32} {off : Int} (hd : decode y.2.1 pc = .ok (.if_icmp .lt off, 3)) (tgt : Nat) (ht : (pc : Int) + off = (tgt : Int)) {pc' : Nat} (hp : pc + 3 = pc') (kt : x < z → jW l s0 cl D cA d y tgt L st σ Φ) (kf : ¬ x < z → jW l s0 cl D cA d y pc' L st σ Φ) : jW l s0 cl D cA d y pc L (.int z :: .int x :: st) σ Φ := by
  subst hp
  by_cases hc : x < z
  · exact (kt hc).pure fun p e R s m args below meth c H locs ls cells slots Q hx hb hL w => lv_icmp_lt hx hb hd ht (fun _ => w) (fun q => absurd hc q)
  · exact (kf hc).pure fun p e R s m args below meth c H locs ls cells slots Q hx hb hL w => lv_icmp_lt hx hb hd ht (fun q => absurd q hc) (fun _ => w)
theorem jW.if_lt {x : Int32} {off : Int} (hd : decode y.2.1 pc = .ok (.ifCond .lt off, 3)) (tgt : Nat) (ht : (pc : Int) + off = (tgt : Int)) {pc' : Nat} (hp : pc + 3 = pc') (kt : x < 0 → jW l s0 cl D cA d y tgt L st σ Φ) (kf : ¬ x < 0 → jW l s0 cl D cA d y pc' L st σ Φ) : jW l s0 cl D cA d y pc L (.int x :: st) σ Φ := by
  subst hp
  by_cases hc : x < 0
  · exact (kt hc).pure fun p e R s m args below meth c H locs ls cells slots Q hx hb hL w => lv_if_lt hx hb hd ht (fun _ => w) (fun q => absurd hc q)
  · exact (kf hc).pure fun p e R s m args below meth c H locs ls cells slots Q hx hb hL w => lv_if_lt hx hb hd ht (fun q => absurd q hc) (fun _ => w)
theorem jW.icmp_ge {x z : Int32} {off : Int} (hd : decode y.2.1 pc = .ok (.if_icmp .ge off, 3)) (tgt : Nat) (ht : (pc : Int) + off = (tgt : Int)) {pc' : Nat} (hp : pc + 3 = pc') (kt : z ≤ x → jW l s0 cl D cA d y tgt L st σ Φ) (kf : ¬ z ≤ x → jW l s0 cl D cA d y pc' L st σ Φ) : jW l s0 cl D cA d y pc L (.int z :: .int x :: st) σ Φ := by
  subst hp
  by_cases hc : z ≤ x
  · exact (kt hc).pure fun p e R s m args below meth c H locs ls cells slots Q hx hb hL w => lv_icmp_ge hx hb hd ht (fun _ => w) (fun q => absurd hc q)
  · exact (kf hc).pure fun p e R s m args below meth c H locs ls cells slots Q hx hb hL w => lv_icmp_ge hx hb hd ht (fun q => absurd q hc) (fun _ => w)
theorem jW.if_ge {x : Int32} {off : Int} (hd : decode y.2.1 pc = .ok (.ifCond .ge off, 3)) (tgt : Nat) (ht : (pc : Int) + off = (tgt : Int)) {pc' : Nat} (hp : pc + 3 = pc') (kt : 0 ≤ x → jW l s0 cl D cA d y tgt L st σ Φ) (kf : ¬ 0 ≤ x → jW l s0 cl D cA d y pc' L st σ Φ) : jW l s0 cl D cA d y pc L (.int x :: st) σ Φ := by
  subst hp
  by_cases hc : 0 ≤ x
  · exact (kt hc).pure fun p e R s m args below meth c H locs ls cells slots Q hx hb hL w => lv_if_ge hx hb hd ht (fun _ => w) (fun q => absurd hc q)
  · exact (kf hc).pure fun p e R s m args below meth c H locs ls cells slots Q hx hb hL w => lv_if_ge hx hb hd ht (fun q => absurd q hc) (fun _ => w)
theorem jW.icmp_gt {x z : Int32} {off : Int} (hd : decode y.2.1 pc = .ok (.if_icmp .gt off, 3)) (tgt : Nat) (ht : (pc : Int) + off = (tgt : Int)) {pc' : Nat} (hp : pc + 3 = pc') (kt : z < x → jW l s0 cl D cA d y tgt L st σ Φ) (kf : ¬ z < x → jW l s0 cl D cA d y pc' L st σ Φ) : jW l s0 cl D cA d y pc L (.int z :: .int x :: st) σ Φ := by
  subst hp
  by_cases hc : z < x
  · exact (kt hc).pure fun p e R s m args below meth c H locs ls cells slots Q hx hb hL w => lv_icmp_gt hx hb hd ht (fun _ => w) (fun q => absurd hc q)
  · exact (kf hc).pure fun p e R s m args below meth c H locs ls cells slots Q hx hb hL w => lv_icmp_gt hx hb hd ht (fun q => absurd q hc) (fun _ => w)
theorem jW.if_gt {x : Int32} {off : Int} (hd : decode y.2.1 pc = .ok (.ifCond .gt off, 3)) (tgt : Nat) (ht : (pc : Int) + off = (tgt : Int)) {pc' : Nat} (hp : pc + 3 = pc') (kt : 0 < x → jW l s0 cl D cA d y tgt L st σ Φ) (kf : ¬ 0 < x → jW l s0 cl D cA d y pc' L st σ Φ) : jW l s0 cl D cA d y pc L (.int x :: st) σ Φ := by
  subst hp
  by_cases hc : 0 < x
  · exact (kt hc).pure fun p e R s m args below meth c H locs ls cells slots Q hx hb hL w => lv_if_gt hx hb hd ht (fun _ => w) (fun q => absurd hc q)
  · exact (kf hc).pure fun p e R s m args below meth c H locs ls cells slots Q hx hb hL w => lv_if_gt hx hb hd ht (fun q => absurd q hc) (fun _ => w)
theorem jW.icmp_le {x z : Int32} {off : Int} (hd : decode y.2.1 pc = .ok (.if_icmp .le off, 3)) (tgt : Nat) (ht : (pc : Int) + off = (tgt : Int)) {pc' : Nat} (hp : pc + 3 = pc') (kt : x ≤ z → jW l s0 cl D cA d y tgt L st σ Φ) (kf : ¬ x ≤ z → jW l s0 cl D cA d y pc' L st σ Φ) : jW l s0 cl D cA d y pc L (.int z :: .int x :: st) σ Φ := by
  subst hp
  by_cases hc : x ≤ z
  · exact (kt hc).pure fun p e R s m args below meth c H locs ls cells slots Q hx hb hL w => lv_icmp_le hx hb hd ht (fun _ => w) (fun q => absurd hc q)
  · exact (kf hc).pure fun p e R s m args below meth c H locs ls cells slots Q hx hb hL w => lv_icmp_le hx hb hd ht (fun q => absurd q hc) (fun _ => w)
theorem jW.if_le {x : Int32} {off : Int} (hd : decode y.2.1 pc = .ok (.ifCond .le off, 3)) (tgt : Nat) (ht : (pc : Int) + off = (tgt : Int)) {pc' : Nat} (hp : pc + 3 = pc') (kt : x ≤ 0 → jW l s0 cl D cA d y tgt L st σ Φ) (kf : ¬ x ≤ 0 → jW l s0 cl D cA d y pc' L st σ Φ) : jW l s0 cl D cA d y pc L (.int x :: st) σ Φ := by
  subst hp
  by_cases hc : x ≤ 0
  · exact (kt hc).pure fun p e R s m args below meth c H locs ls cells slots Q hx hb hL w => lv_if_le hx hb hd ht (fun _ => w) (fun q => absurd hc q)
  · exact (kf hc).pure fun p e R s m args below meth c H locs ls cells slots Q hx hb hL w => lv_if_le hx hb hd ht (fun q => absurd q hc) (fun _ => w)
theorem jW.istore_n {k0 : Fin 4} {i : Nat} {x : Int32} (hd : decode y.2.1 pc = .ok (.istore_n k0, 1)) (hi : (k0 : Nat) = i) (hn : i < y.2.2.1) {L' : jL} (hL' : L.set i (some (.int x)) = L') {pc' : Nat} (hp : pc + 1 = pc') (k : jW l s0 cl D cA d y pc' L' st σ Φ) : jW l s0 cl D cA d y pc L (.int x :: st) σ Φ := by
  subst hp; subst hL'; subst hi
  refine k.lcl fun p e R s m args below meth c H locs ls cells slots Q hx hb hL w => ?_
  obtain ⟨ls', e', h'⟩ := hL.store hn (v := .int x) rfl
  intro T hT X
  obtain ⟨t, a, b⟩ := w ls' h' T hT X
  refine ⟨t, ?_, b⟩
  jvm_step X.here [X.here.top, ↓top_set X.here.top, hx, hb, hd, e', Value.isRef]
  exact a
theorem jW.istore {i : Nat} {x : Int32} (hd : decode y.2.1 pc = .ok (.istore i, 2)) (hn : i < y.2.2.1) {L' : jL} (hL' : L.set i (some (.int x)) = L') {pc' : Nat} (hp : pc + 2 = pc') (k : jW l s0 cl D cA d y pc' L' st σ Φ) : jW l s0 cl D cA d y pc L (.int x :: st) σ Φ := by
  subst hp; subst hL'
  refine k.lcl fun p e R s m args below meth c H locs ls cells slots Q hx hb hL w => ?_
  obtain ⟨ls', e', h'⟩ := hL.store hn (v := .int x) rfl
  intro T hT X
  obtain ⟨t, a, b⟩ := w ls' h' T hT X
  refine ⟨t, ?_, b⟩
  jvm_step X.here [X.here.top, ↓top_set X.here.top, hx, hb, hd, e', Value.isRef]
  exact a
theorem jW.astore_n {k0 : Fin 4} {i x : Nat} (hd : decode y.2.1 pc = .ok (.astore_n k0, 1)) (hi : (k0 : Nat) = i) (hn : i < y.2.2.1) {L' : jL} (hL' : L.set i (some (.ref x)) = L') {pc' : Nat} (hp : pc + 1 = pc') (k : jW l s0 cl D cA d y pc' L' st σ Φ) : jW l s0 cl D cA d y pc L (.ref x :: st) σ Φ := by
  subst hp; subst hL'; subst hi
  refine k.lcl fun p e R s m args below meth c H locs ls cells slots Q hx hb hL w => ?_
  obtain ⟨ls', e', h'⟩ := hL.store hn (v := .ref x) rfl
  intro T hT X
  obtain ⟨t, a, b⟩ := w ls' h' T hT X
  refine ⟨t, ?_, b⟩
  jvm_step X.here [X.here.top, ↓top_set X.here.top, hx, hb, hd, e', Value.isRef]
  exact a
theorem jW.astore {i x : Nat} (hd : decode y.2.1 pc = .ok (.astore i, 2)) (hn : i < y.2.2.1) {L' : jL} (hL' : L.set i (some (.ref x)) = L') {pc' : Nat} (hp : pc + 2 = pc') (k : jW l s0 cl D cA d y pc' L' st σ Φ) : jW l s0 cl D cA d y pc L (.ref x :: st) σ Φ := by
  subst hp; subst hL'
  refine k.lcl fun p e R s m args below meth c H locs ls cells slots Q hx hb hL w => ?_
  obtain ⟨ls', e', h'⟩ := hL.store hn (v := .ref x) rfl
  intro T hT X
  obtain ⟨t, a, b⟩ := w ls' h' T hT X
  refine ⟨t, ?_, b⟩
  jvm_step X.here [X.here.top, ↓top_set X.here.top, hx, hb, hd, e', Value.isRef]
  exact a
theorem jW.astore_nN {k0 : Fin 4} {i : Nat} (hd : decode y.2.1 pc = .ok (.astore_n k0, 1)) (hi : (k0 : Nat) = i) (hn : i < y.2.2.1) {L' : jL} (hL' : L.set i (some (.null)) = L') {pc' : Nat} (hp : pc + 1 = pc') (k : jW l s0 cl D cA d y pc' L' st σ Φ) : jW l s0 cl D cA d y pc L (.null :: st) σ Φ := by
  subst hp; subst hL'; subst hi
  refine k.lcl fun p e R s m args below meth c H locs ls cells slots Q hx hb hL w => ?_
  obtain ⟨ls', e', h'⟩ := hL.store hn (v := .null) rfl
  intro T hT X
  obtain ⟨t, a, b⟩ := w ls' h' T hT X
  refine ⟨t, ?_, b⟩
  jvm_step X.here [X.here.top, ↓top_set X.here.top, hx, hb, hd, e', Value.isRef]
  exact a
theorem jW.astoreN {i : Nat} (hd : decode y.2.1 pc = .ok (.astore i, 2)) (hn : i < y.2.2.1) {L' : jL} (hL' : L.set i (some (.null)) = L') {pc' : Nat} (hp : pc + 2 = pc') (k : jW l s0 cl D cA d y pc' L' st σ Φ) : jW l s0 cl D cA d y pc L (.null :: st) σ Φ := by
  subst hp; subst hL'
  refine k.lcl fun p e R s m args below meth c H locs ls cells slots Q hx hb hL w => ?_
  obtain ⟨ls', e', h'⟩ := hL.store hn (v := .null) rfl
  intro T hT X
  obtain ⟨t, a, b⟩ := w ls' h' T hT X
  refine ⟨t, ?_, b⟩
  jvm_step X.here [X.here.top, ↓top_set X.here.top, hx, hb, hd, e', Value.isRef]
  exact a
theorem jW.iinc {i : Nat} {n : Int} {x v : Int32} (hd : decode y.2.1 pc = .ok (.iinc i n, 3)) (hl : L[i]? = some (some (.int x))) (hv : x + Int32.ofInt n = v) (hn : i < y.2.2.1) {L' : jL} (hL' : L.set i (some (.int v)) = L') {pc' : Nat} (hp : pc + 3 = pc') (k : jW l s0 cl D cA d y pc' L' st σ Φ) : jW l s0 cl D cA d y pc L st σ Φ := by
  subst hp; subst hL'; subst hv
  refine k.lcl fun p e R s m args below meth c H locs ls cells slots Q hx hb hL w => ?_
  have hg := (hL.2.2 _ _ hl).2
  obtain ⟨ls', e', h'⟩ := hL.store hn (v := .int (x + Int32.ofInt n)) rfl
  intro T hT X
  obtain ⟨t, a, b⟩ := w ls' h' T hT X
  refine ⟨t, ?_, b⟩
  jvm_step X.here [X.here.top, ↓top_set X.here.top, hx, hb, hd, hg, e']
  exact a
end JR
