/-! ===== rows of the pure machine: a row an instruction ===== -/
section ZR
variable {d own : Nat} {ini : Bool} {rt : Nat} {cd : List (List (Nat × zE))} {F : Option Value → zS → Prop} {pc pc' : Nat} {ls : List Value} {st : List Value} {X : zX} {b : Nat × Nat} {y : zY} {K : Nat → Nat → Option Nat} {B : Nat → Nat → Int64} {M : Nat → Nat → Int32} {v : Int32} {t : Nat} {ts : List (Int32 × Nat)}
theorem zr_iconst {n : Int} (pc' : Nat) (hc : zlk2 cd (pc / 32) pc = some (.iconst n, v, t, ts)) (hp : pc + 1 = pc') (k : zEx (zCall d) own ini rt cd F pc' ls (.int v :: st) (X, b, y, K, B, M)) : zEx (zCall d) own ini rt cd F pc ls st (X, b, y, K, B, M) := by
  subst hp; exact zEx_s (zCall_m d) hc k
theorem zr_bipush {n : Int} (pc' : Nat) (hc : zlk2 cd (pc / 32) pc = some (.bipush n, v, t, ts)) (hp : pc + 2 = pc') (k : zEx (zCall d) own ini rt cd F pc' ls (.int v :: st) (X, b, y, K, B, M)) : zEx (zCall d) own ini rt cd F pc ls st (X, b, y, K, B, M) := by
  subst hp; exact zEx_s (zCall_m d) hc k
theorem zr_sipush {n : Int} (pc' : Nat) (hc : zlk2 cd (pc / 32) pc = some (.sipush n, v, t, ts)) (hp : pc + 3 = pc') (k : zEx (zCall d) own ini rt cd F pc' ls (.int v :: st) (X, b, y, K, B, M)) : zEx (zCall d) own ini rt cd F pc ls st (X, b, y, K, B, M) := by
  subst hp; exact zEx_s (zCall_m d) hc k
theorem zr_lconst {n : Fin 2} (pc' : Nat) (hc : zlk2 cd (pc / 32) pc = some (.lconst n, v, t, ts)) (hp : pc + 1 = pc') (k : zEx (zCall d) own ini rt cd F pc' ls (.long (Int64.ofNat n.val) :: st) (X, b, y, K, B, M)) : zEx (zCall d) own ini rt cd F pc ls st (X, b, y, K, B, M) := by
  subst hp; exact zEx_s (zCall_m d) hc k
theorem zr_ldc {idx r : Nat} {x : Int32} (pc' : Nat) (hc : zlk2 cd (pc / 32) pc = some (.ldc idx, v, t, ts)) (hp : pc + 2 = pc') (hl : zlk2 zciL own idx = some (x, r)) (k : zEx (zCall d) own ini rt cd F pc' ls (.int x :: st) (X, b, y, K, B, M)) : zEx (zCall d) own ini rt cd F pc ls st (X, b, y, K, B, M) := by
  subst hp; refine zEx_s (zCall_m d) hc ?_; simp only [zwp, hl]; exact k
theorem zr_ldcs {idx r a : Nat} (pc' : Nat) (hc : zlk2 cd (pc / 32) pc = some (.ldc idx, v, t, ts)) (hp : pc + 2 = pc') (hn : zlk2 zciL own idx = none) (hl : zlk2 ztxL own idx = some (a, r)) (k : zEx (zCall d) own ini rt cd F pc' ls (.ref a :: st) (X, b, y, K, B, M)) : zEx (zCall d) own ini rt cd F pc ls st (X, b, y, K, B, M) := by
  subst hp; refine zEx_s (zCall_m d) hc ?_; simp only [zwp, hn, hl]; exact k
theorem zr_ldc_w {idx r : Nat} {x : Int32} (pc' : Nat) (hc : zlk2 cd (pc / 32) pc = some (.ldc_w idx, v, t, ts)) (hp : pc + 3 = pc') (hl : zlk2 zciL own idx = some (x, r)) (k : zEx (zCall d) own ini rt cd F pc' ls (.int x :: st) (X, b, y, K, B, M)) : zEx (zCall d) own ini rt cd F pc ls st (X, b, y, K, B, M) := by
  subst hp; refine zEx_s (zCall_m d) hc ?_; simp only [zwp, hl]; exact k
theorem zr_ldc2_w {idx r : Nat} {x : Int64} (pc' : Nat) (hc : zlk2 cd (pc / 32) pc = some (.ldc2_w idx, v, t, ts)) (hp : pc + 3 = pc') (hl : zlk2 zclL own idx = some (x, r)) (k : zEx (zCall d) own ini rt cd F pc' ls (.long x :: st) (X, b, y, K, B, M)) : zEx (zCall d) own ini rt cd F pc ls st (X, b, y, K, B, M) := by
  subst hp; refine zEx_s (zCall_m d) hc ?_; simp only [zwp, hl]; exact k
theorem zr_iload_n {i : Fin 4} {x : Int32} (pc' : Nat) (hc : zlk2 cd (pc / 32) pc = some (.iload_n i, v, t, ts)) (hp : pc + 1 = pc') (hl : zget ls i.val = some (.int x)) (k : zEx (zCall d) own ini rt cd F pc' ls (.int x :: st) (X, b, y, K, B, M)) : zEx (zCall d) own ini rt cd F pc ls st (X, b, y, K, B, M) := by
  subst hp; refine zEx_s (zCall_m d) hc ?_; simp only [zwp, zldi, hl]; exact k
theorem zr_iload {i : Nat} {x : Int32} (pc' : Nat) (hc : zlk2 cd (pc / 32) pc = some (.iload i, v, t, ts)) (hp : pc + 2 = pc') (hl : zget ls i = some (.int x)) (k : zEx (zCall d) own ini rt cd F pc' ls (.int x :: st) (X, b, y, K, B, M)) : zEx (zCall d) own ini rt cd F pc ls st (X, b, y, K, B, M) := by
  subst hp; refine zEx_s (zCall_m d) hc ?_; simp only [zwp, zldi, hl]; exact k
theorem zr_lload_n {i : Fin 4} {x : Int64} (pc' : Nat) (hc : zlk2 cd (pc / 32) pc = some (.lload_n i, v, t, ts)) (hp : pc + 1 = pc') (hl : zget ls i.val = some (.long x)) (k : zEx (zCall d) own ini rt cd F pc' ls (.long x :: st) (X, b, y, K, B, M)) : zEx (zCall d) own ini rt cd F pc ls st (X, b, y, K, B, M) := by
  subst hp; refine zEx_s (zCall_m d) hc ?_; simp only [zwp, zldl, hl]; exact k
theorem zr_lload {i : Nat} {x : Int64} (pc' : Nat) (hc : zlk2 cd (pc / 32) pc = some (.lload i, v, t, ts)) (hp : pc + 2 = pc') (hl : zget ls i = some (.long x)) (k : zEx (zCall d) own ini rt cd F pc' ls (.long x :: st) (X, b, y, K, B, M)) : zEx (zCall d) own ini rt cd F pc ls st (X, b, y, K, B, M) := by
  subst hp; refine zEx_s (zCall_m d) hc ?_; simp only [zwp, zldl, hl]; exact k
theorem zr_aload_n {i : Fin 4} {a : Nat} (pc' : Nat) (hc : zlk2 cd (pc / 32) pc = some (.aload_n i, v, t, ts)) (hp : pc + 1 = pc') (hl : zget ls i.val = some (.ref a)) (k : zEx (zCall d) own ini rt cd F pc' ls (.ref a :: st) (X, b, y, K, B, M)) : zEx (zCall d) own ini rt cd F pc ls st (X, b, y, K, B, M) := by
  subst hp; refine zEx_s (zCall_m d) hc ?_; simp only [zwp, zlda, hl]; exact k
theorem zr_aload {i : Nat} {a : Nat} (pc' : Nat) (hc : zlk2 cd (pc / 32) pc = some (.aload i, v, t, ts)) (hp : pc + 2 = pc') (hl : zget ls i = some (.ref a)) (k : zEx (zCall d) own ini rt cd F pc' ls (.ref a :: st) (X, b, y, K, B, M)) : zEx (zCall d) own ini rt cd F pc ls st (X, b, y, K, B, M) := by
  subst hp; refine zEx_s (zCall_m d) hc ?_; simp only [zwp, zlda, hl]; exact k
theorem zr_istore_n {i : Fin 4} {x : Int32} (pc' : Nat) (ls' : List Value) (hc : zlk2 cd (pc / 32) pc = some (.istore_n i, v, t, ts)) (hp : pc + 1 = pc') (hn : i.val < ls.length) (hl : zst1 ls i.val (.int x) = ls') (k : zEx (zCall d) own ini rt cd F pc' ls' st (X, b, y, K, B, M)) : zEx (zCall d) own ini rt cd F pc ls (.int x :: st) (X, b, y, K, B, M) := by
  subst hp; subst hl; exact zEx_s (zCall_m d) hc ⟨hn, k⟩
theorem zr_istore {i : Nat} {x : Int32} (pc' : Nat) (ls' : List Value) (hc : zlk2 cd (pc / 32) pc = some (.istore i, v, t, ts)) (hp : pc + 2 = pc') (hn : i < ls.length) (hl : zst1 ls i (.int x) = ls') (k : zEx (zCall d) own ini rt cd F pc' ls' st (X, b, y, K, B, M)) : zEx (zCall d) own ini rt cd F pc ls (.int x :: st) (X, b, y, K, B, M) := by
  subst hp; subst hl; exact zEx_s (zCall_m d) hc ⟨hn, k⟩
theorem zr_lstore_n {i : Fin 4} {x : Int64} (pc' : Nat) (ls' : List Value) (hc : zlk2 cd (pc / 32) pc = some (.lstore_n i, v, t, ts)) (hp : pc + 1 = pc') (hn : i.val + 1 < ls.length) (hl : zst2 ls i.val (.long x) = ls') (k : zEx (zCall d) own ini rt cd F pc' ls' st (X, b, y, K, B, M)) : zEx (zCall d) own ini rt cd F pc ls (.long x :: st) (X, b, y, K, B, M) := by
  subst hp; subst hl; exact zEx_s (zCall_m d) hc ⟨hn, k⟩
theorem zr_astore_n {i : Fin 4} {x : Nat} (pc' : Nat) (ls' : List Value) (hc : zlk2 cd (pc / 32) pc = some (.astore_n i, v, t, ts)) (hp : pc + 1 = pc') (hn : i.val < ls.length) (hl : zst1 ls i.val (.ref x) = ls') (k : zEx (zCall d) own ini rt cd F pc' ls' st (X, b, y, K, B, M)) : zEx (zCall d) own ini rt cd F pc ls (.ref x :: st) (X, b, y, K, B, M) := by
  subst hp; subst hl; exact zEx_s (zCall_m d) hc ⟨hn, k⟩
theorem zr_iinc {i : Nat} {n : Int} {x : Int32} (pc' : Nat) (ls' : List Value) (hc : zlk2 cd (pc / 32) pc = some (.iinc i n, v, t, ts)) (hp : pc + 3 = pc') (hn : i < ls.length) (hg : zget ls i = some (.int x)) (hl : zst1 ls i (.int (x + v)) = ls') (k : zEx (zCall d) own ini rt cd F pc' ls' st (X, b, y, K, B, M)) : zEx (zCall d) own ini rt cd F pc ls st (X, b, y, K, B, M) := by
  subst hp; subst hl; refine zEx_s (zCall_m d) hc ⟨hn, ?_⟩; simp only [zldi, hg]; exact k
theorem zr_ibin {i : Instr} {f : Int32 → Int32 → Int32} {x z : Int32} (pc' : Nat) (hc : zlk2 cd (pc / 32) pc = some (i, v, t, ts)) (hp : pc + 1 = pc') (hf : zibin i = some f) (k : zEx (zCall d) own ini rt cd F pc' ls (.int (f x z) :: st) (X, b, y, K, B, M)) : zEx (zCall d) own ini rt cd F pc ls (.int z :: .int x :: st) (X, b, y, K, B, M) := by
  subst hp
  refine zEx_s (zCall_m d) hc ?_
  cases i <;> first | (cases hf; done) | (cases hf; exact k)
theorem zr_lbin {i : Instr} {f : Int64 → Int64 → Int64} {x z : Int64} (pc' : Nat) (hc : zlk2 cd (pc / 32) pc = some (i, v, t, ts)) (hp : pc + 1 = pc') (hf : zlbin i = some f) (k : zEx (zCall d) own ini rt cd F pc' ls (.long (f x z) :: st) (X, b, y, K, B, M)) : zEx (zCall d) own ini rt cd F pc ls (.long z :: .long x :: st) (X, b, y, K, B, M) := by
  subst hp
  refine zEx_s (zCall_m d) hc ?_
  cases i <;> first | (cases hf; done) | (cases hf; exact k)
theorem zr_idiv {x z : Int32} (pc' : Nat) (hc : zlk2 cd (pc / 32) pc = some (.idiv, v, t, ts)) (hp : pc + 1 = pc') (hz : ¬ z = 0) (k : zEx (zCall d) own ini rt cd F pc' ls (.int (x / z) :: st) (X, b, y, K, B, M)) : zEx (zCall d) own ini rt cd F pc ls (.int z :: .int x :: st) (X, b, y, K, B, M) := by
  subst hp; exact zEx_s (zCall_m d) hc ⟨hz, k⟩
theorem zr_irem {x z : Int32} (pc' : Nat) (hc : zlk2 cd (pc / 32) pc = some (.irem, v, t, ts)) (hp : pc + 1 = pc') (hz : ¬ z = 0) (k : zEx (zCall d) own ini rt cd F pc' ls (.int (x - x / z * z) :: st) (X, b, y, K, B, M)) : zEx (zCall d) own ini rt cd F pc ls (.int z :: .int x :: st) (X, b, y, K, B, M) := by
  subst hp; exact zEx_s (zCall_m d) hc ⟨hz, k⟩
theorem zr_ldiv {x z : Int64} (pc' : Nat) (hc : zlk2 cd (pc / 32) pc = some (.ldiv, v, t, ts)) (hp : pc + 1 = pc') (hz : ¬ z = 0) (k : zEx (zCall d) own ini rt cd F pc' ls (.long (x / z) :: st) (X, b, y, K, B, M)) : zEx (zCall d) own ini rt cd F pc ls (.long z :: .long x :: st) (X, b, y, K, B, M) := by
  subst hp; exact zEx_s (zCall_m d) hc ⟨hz, k⟩
theorem zr_ineg {x : Int32} (pc' : Nat) (hc : zlk2 cd (pc / 32) pc = some (.ineg, v, t, ts)) (hp : pc + 1 = pc') (k : zEx (zCall d) own ini rt cd F pc' ls (.int (-x) :: st) (X, b, y, K, B, M)) : zEx (zCall d) own ini rt cd F pc ls (.int x :: st) (X, b, y, K, B, M) := by
  subst hp; exact zEx_s (zCall_m d) hc k
theorem zr_lneg {x : Int64} (pc' : Nat) (hc : zlk2 cd (pc / 32) pc = some (.lneg, v, t, ts)) (hp : pc + 1 = pc') (k : zEx (zCall d) own ini rt cd F pc' ls (.long (-x) :: st) (X, b, y, K, B, M)) : zEx (zCall d) own ini rt cd F pc ls (.long x :: st) (X, b, y, K, B, M) := by
  subst hp; exact zEx_s (zCall_m d) hc k
theorem zr_i2l {x : Int32} (pc' : Nat) (hc : zlk2 cd (pc / 32) pc = some (.i2l, v, t, ts)) (hp : pc + 1 = pc') (k : zEx (zCall d) own ini rt cd F pc' ls (.long x.toInt64 :: st) (X, b, y, K, B, M)) : zEx (zCall d) own ini rt cd F pc ls (.int x :: st) (X, b, y, K, B, M) := by
  subst hp; exact zEx_s (zCall_m d) hc k
theorem zr_l2i {x : Int64} (pc' : Nat) (hc : zlk2 cd (pc / 32) pc = some (.l2i, v, t, ts)) (hp : pc + 1 = pc') (k : zEx (zCall d) own ini rt cd F pc' ls (.int x.toInt32 :: st) (X, b, y, K, B, M)) : zEx (zCall d) own ini rt cd F pc ls (.long x :: st) (X, b, y, K, B, M) := by
  subst hp; exact zEx_s (zCall_m d) hc k
theorem zr_i2b {x : Int32} (pc' : Nat) (hc : zlk2 cd (pc / 32) pc = some (.i2b, v, t, ts)) (hp : pc + 1 = pc') (k : zEx (zCall d) own ini rt cd F pc' ls (.int x.toInt8.toInt32 :: st) (X, b, y, K, B, M)) : zEx (zCall d) own ini rt cd F pc ls (.int x :: st) (X, b, y, K, B, M) := by
  subst hp; exact zEx_s (zCall_m d) hc k
theorem zr_lcmp {x z : Int64} (pc' : Nat) (hc : zlk2 cd (pc / 32) pc = some (.lcmp, v, t, ts)) (hp : pc + 1 = pc') (k : zEx (zCall d) own ini rt cd F pc' ls (.int (lg_cmp x z) :: st) (X, b, y, K, B, M)) : zEx (zCall d) own ini rt cd F pc ls (.long z :: .long x :: st) (X, b, y, K, B, M) := by
  subst hp; exact zEx_s (zCall_m d) hc k
theorem zr_dup {w : Value} (pc' : Nat) (hc : zlk2 cd (pc / 32) pc = some (.dup, v, t, ts)) (hp : pc + 1 = pc') (h1 : w.category = 1) (k : zEx (zCall d) own ini rt cd F pc' ls (w :: w :: st) (X, b, y, K, B, M)) : zEx (zCall d) own ini rt cd F pc ls (w :: st) (X, b, y, K, B, M) := by
  subst hp; exact zEx_s (zCall_m d) hc ⟨h1, k⟩
theorem zr_dup_x1 {w u : Value} (pc' : Nat) (hc : zlk2 cd (pc / 32) pc = some (.dup_x1, v, t, ts)) (hp : pc + 1 = pc') (h1 : w.category = 1) (h2 : u.category = 1) (k : zEx (zCall d) own ini rt cd F pc' ls (w :: u :: w :: st) (X, b, y, K, B, M)) : zEx (zCall d) own ini rt cd F pc ls (w :: u :: st) (X, b, y, K, B, M) := by
  subst hp; exact zEx_s (zCall_m d) hc ⟨h1, h2, k⟩
theorem zr_dup2 {w u : Value} (pc' : Nat) (hc : zlk2 cd (pc / 32) pc = some (.dup2, v, t, ts)) (hp : pc + 1 = pc') (h1 : w.category = 1) (h2 : u.category = 1) (k : zEx (zCall d) own ini rt cd F pc' ls (w :: u :: w :: u :: st) (X, b, y, K, B, M)) : zEx (zCall d) own ini rt cd F pc ls (w :: u :: st) (X, b, y, K, B, M) := by
  subst hp; exact zEx_s (zCall_m d) hc ⟨h1, h2, k⟩
theorem zr_pop {w : Value} (pc' : Nat) (hc : zlk2 cd (pc / 32) pc = some (.pop, v, t, ts)) (hp : pc + 1 = pc') (h1 : w.category = 1) (k : zEx (zCall d) own ini rt cd F pc' ls st (X, b, y, K, B, M)) : zEx (zCall d) own ini rt cd F pc ls (w :: st) (X, b, y, K, B, M) := by
  subst hp; exact zEx_s (zCall_m d) hc ⟨h1, k⟩
theorem zr_if {cn : ClassFile.Cond} {o : Int} {x : Int32} (pc' : Nat) (hc : zlk2 cd (pc / 32) pc = some (.ifCond cn o, v, t, ts)) (hp : pc + 3 = pc') (k1 : zcnd cn x 0 → zEx (zCall d) own ini rt cd F t ls st (X, b, y, K, B, M)) (k2 : ¬ zcnd cn x 0 → zEx (zCall d) own ini rt cd F pc' ls st (X, b, y, K, B, M)) : zEx (zCall d) own ini rt cd F pc ls (.int x :: st) (X, b, y, K, B, M) := by
  subst hp; exact zEx_s (zCall_m d) hc ⟨k1, k2⟩
theorem zr_ic {cn : ClassFile.Cond} {o : Int} {x z : Int32} (pc' : Nat) (hc : zlk2 cd (pc / 32) pc = some (.if_icmp cn o, v, t, ts)) (hp : pc + 3 = pc') (k1 : zcnd cn x z → zEx (zCall d) own ini rt cd F t ls st (X, b, y, K, B, M)) (k2 : ¬ zcnd cn x z → zEx (zCall d) own ini rt cd F pc' ls st (X, b, y, K, B, M)) : zEx (zCall d) own ini rt cd F pc ls (.int z :: .int x :: st) (X, b, y, K, B, M) := by
  subst hp; exact zEx_s (zCall_m d) hc ⟨k1, k2⟩
theorem zr_goto {o : Int} (hc : zlk2 cd (pc / 32) pc = some (.goto o, v, t, ts)) (k : zEx (zCall d) own ini rt cd F t ls st (X, b, y, K, B, M)) : zEx (zCall d) own ini rt cd F pc ls st (X, b, y, K, B, M) := zEx_s (zCall_m d) hc k
theorem zr_tsw {a1 a2 a3 : Int} {os : Array Int} {x : Int32} (hc : zlk2 cd (pc / 32) pc = some (.tableswitch a1 a2 a3 os, v, t, ts)) (k : zsw (fun t => zEx (zCall d) own ini rt cd F t ls st (X, b, y, K, B, M)) x t ts) : zEx (zCall d) own ini rt cd F pc ls (.int x :: st) (X, b, y, K, B, M) := zEx_s (zCall_m d) hc k
theorem zr_lsw {a1 : Int} {os : Array (Int × Int)} {x : Int32} (hc : zlk2 cd (pc / 32) pc = some (.lookupswitch a1 os, v, t, ts)) (k : zsw (fun t => zEx (zCall d) own ini rt cd F t ls st (X, b, y, K, B, M)) x t ts) : zEx (zCall d) own ini rt cd F pc ls (.int x :: st) (X, b, y, K, B, M) := zEx_s (zCall_m d) hc k
theorem zr_geti {idx ci kk kd r a : Nat} {fn : Bool} (pc' : Nat) (hc : zlk2 cd (pc / 32) pc = some (.getfield idx, v, t, ts)) (hp : pc + 3 = pc') (hl : zlk2 zflL own idx = some (ci, kk, kd, fn, r)) (hd : Nat.beq kd 1 = false) (hy : zget y a = some (.inl ci)) (k : zEx (zCall d) own ini rt cd F pc' ls (.int (M a kk) :: st) (X, b, y, K, B, M)) : zEx (zCall d) own ini rt cd F pc ls (.ref a :: st) (X, b, y, K, B, M) := by
  subst hp; refine zEx_s (zCall_m d) hc ?_; simp only [zwp, hl]; refine ⟨hy, ?_⟩; simp only [hd, zfv, cond_false]; exact k
theorem zr_getr {idx ci kk kd r a j : Nat} {fn : Bool} (pc' : Nat) (hc : zlk2 cd (pc / 32) pc = some (.getfield idx, v, t, ts)) (hp : pc + 3 = pc') (hl : zlk2 zflL own idx = some (ci, kk, kd, fn, r)) (hd : Nat.beq kd 1 = true) (hy : zget y a = some (.inl ci)) (hk : K a kk = some j) (k : zEx (zCall d) own ini rt cd F pc' ls (.ref j :: st) (X, b, y, K, B, M)) : zEx (zCall d) own ini rt cd F pc ls (.ref a :: st) (X, b, y, K, B, M) := by
  subst hp; refine zEx_s (zCall_m d) hc ?_; simp only [zwp, hl]; refine ⟨hy, ?_⟩; simp only [hd, zfv, cond_true, hk, zrv]; exact k
theorem zr_puti {idx ci kk r a : Nat} {x : Int32} (pc' : Nat) (hc : zlk2 cd (pc / 32) pc = some (.putfield idx, v, t, ts)) (hp : pc + 3 = pc') (hl : zlk2 zflL own idx = some (ci, kk, 0, false, r)) (hy : zget y a = some (.inl ci)) (k : zEx (zCall d) own ini rt cd F pc' ls st (X, b, y, K, B, zu M a kk x)) : zEx (zCall d) own ini rt cd F pc ls (.int x :: .ref a :: st) (X, b, y, K, B, M) := by
  subst hp; refine zEx_s (zCall_m d) hc ?_; simp only [zwp, hl]; exact ⟨hy, trivial, fun h => (by cases h), k⟩
theorem zr_putz {idx ci kk r a : Nat} {x : Int32} (pc' : Nat) (hc : zlk2 cd (pc / 32) pc = some (.putfield idx, v, t, ts)) (hp : pc + 3 = pc') (hl : zlk2 zflL own idx = some (ci, kk, 2, false, r)) (hy : zget y a = some (.inl ci)) (hx : x = 0 ∨ x = 1) (k : zEx (zCall d) own ini rt cd F pc' ls st (X, b, y, K, B, zu M a kk x)) : zEx (zCall d) own ini rt cd F pc ls (.int x :: .ref a :: st) (X, b, y, K, B, M) := by
  subst hp; refine zEx_s (zCall_m d) hc ?_; simp only [zwp, hl]; exact ⟨hy, hx, fun h => (by cases h), k⟩
theorem zr_putr {idx ci kk r a j : Nat} (pc' : Nat) (hc : zlk2 cd (pc / 32) pc = some (.putfield idx, v, t, ts)) (hp : pc + 3 = pc') (hl : zlk2 zflL own idx = some (ci, kk, 1, false, r)) (hy : zget y a = some (.inl ci)) (k : zEx (zCall d) own ini rt cd F pc' ls st (X, b, y, zu K a kk (some j), B, M)) : zEx (zCall d) own ini rt cd F pc ls (.ref j :: .ref a :: st) (X, b, y, K, B, M) := by
  subst hp; refine zEx_s (zCall_m d) hc ?_; simp only [zwp, hl]; exact ⟨hy, trivial, fun h => (by cases h), k⟩
theorem zr_putFi {idx ci kk r a : Nat} {x : Int32} (pc' : Nat) (hc : zlk2 cd (pc / 32) pc = some (.putfield idx, v, t, ts)) (hp : pc + 3 = pc') (hl : zlk2 zflL own idx = some (ci, kk, 0, true, r)) (hy : zget y a = some (.inl ci)) (hi : ini = true ∧ own = ci) (k : zEx (zCall d) own ini rt cd F pc' ls st (X, b, y, K, B, zu M a kk x)) : zEx (zCall d) own ini rt cd F pc ls (.int x :: .ref a :: st) (X, b, y, K, B, M) := by
  subst hp; refine zEx_s (zCall_m d) hc ?_; simp only [zwp, hl]; exact ⟨hy, trivial, fun _ => hi, k⟩
theorem zr_putFr {idx ci kk r a j : Nat} (pc' : Nat) (hc : zlk2 cd (pc / 32) pc = some (.putfield idx, v, t, ts)) (hp : pc + 3 = pc') (hl : zlk2 zflL own idx = some (ci, kk, 1, true, r)) (hy : zget y a = some (.inl ci)) (hi : ini = true ∧ own = ci) (k : zEx (zCall d) own ini rt cd F pc' ls st (X, b, y, zu K a kk (some j), B, M)) : zEx (zCall d) own ini rt cd F pc ls (.ref j :: .ref a :: st) (X, b, y, K, B, M) := by
  subst hp; refine zEx_s (zCall_m d) hc ?_; simp only [zwp, hl]; exact ⟨hy, trivial, fun _ => hi, k⟩
theorem zr_getstatic {idx a r : Nat} (pc' : Nat) (hc : zlk2 cd (pc / 32) pc = some (.getstatic idx, v, t, ts)) (hp : pc + 3 = pc') (hl : zlk2 zgsL own idx = some (a, r)) (k : zEx (zCall d) own ini rt cd F pc' ls (.ref a :: st) (X, b, y, K, B, M)) : zEx (zCall d) own ini rt cd F pc ls st (X, b, y, K, B, M) := by
  subst hp; refine zEx_s (zCall_m d) hc ?_; simp only [zwp, hl]; exact k
theorem zlen_of {y : zY} {tt a n : Nat} (h : zget y a = some (.inr (tt, n))) : zlen (X, b, y, K, B, M) tt a = some n := by
  unfold zlen; simp only [h]; simp
theorem zr_iaload {a n : Nat} {i : Int32} (pc' : Nat) (hc : zlk2 cd (pc / 32) pc = some (.iaload, v, t, ts)) (hp : pc + 1 = pc') (hy : zget y a = some (.inr (0, n))) (hi : vp_in i n) (k : zEx (zCall d) own ini rt cd F pc' ls (.int (M a i.toNatClampNeg) :: st) (X, b, y, K, B, M)) : zEx (zCall d) own ini rt cd F pc ls (.int i :: .ref a :: st) (X, b, y, K, B, M) := by
  subst hp; refine zEx_s (zCall_m d) hc ?_; simp only [zwp, zlen_of hy]; exact ⟨hi, k⟩
theorem zr_iaX {a n : Nat} {f : Nat → Int32} {i : Int32} (pc' : Nat) (hc : zlk2 cd (pc / 32) pc = some (.iaload, v, t, ts)) (hp : pc + 1 = pc') (hy : zget y a = none) (hx : X a = some (n, f)) (hi : vp_in i n) (k : zEx (zCall d) own ini rt cd F pc' ls (.int (f i.toNatClampNeg) :: st) (X, b, y, K, B, M)) : zEx (zCall d) own ini rt cd F pc ls (.int i :: .ref a :: st) (X, b, y, K, B, M) := by
  subst hp; refine zEx_s (zCall_m d) hc ?_
  have hz : zlen (X, b, y, K, B, M) 0 a = none := by unfold zlen; simp only [hy]
  simp only [zwp, hz, hx]; exact ⟨hi, k⟩
theorem zr_baload1 {a n : Nat} {i : Int32} (pc' : Nat) (hc : zlk2 cd (pc / 32) pc = some (.baload, v, t, ts)) (hp : pc + 1 = pc') (hy : zget y a = some (.inr (1, n))) (hi : vp_in i n) (k : zEx (zCall d) own ini rt cd F pc' ls (.int (M a i.toNatClampNeg) :: st) (X, b, y, K, B, M)) : zEx (zCall d) own ini rt cd F pc ls (.int i :: .ref a :: st) (X, b, y, K, B, M) := by
  subst hp; refine zEx_s (zCall_m d) hc ?_; simp only [zwp, zlen_of hy]; exact ⟨hi, k⟩
theorem zr_baload2 {a n : Nat} {i : Int32} (pc' : Nat) (hc : zlk2 cd (pc / 32) pc = some (.baload, v, t, ts)) (hp : pc + 1 = pc') (hy : zget y a = some (.inr (2, n))) (hi : vp_in i n) (k : zEx (zCall d) own ini rt cd F pc' ls (.int (M a i.toNatClampNeg) :: st) (X, b, y, K, B, M)) : zEx (zCall d) own ini rt cd F pc ls (.int i :: .ref a :: st) (X, b, y, K, B, M) := by
  subst hp; refine zEx_s (zCall_m d) hc ?_
  have hz : zlen (X, b, y, K, B, M) 1 a = none := by unfold zlen; simp only [hy]; rfl
  simp only [zwp, hz, zlen_of hy]; exact ⟨hi, k⟩
theorem zr_laload {a n : Nat} {i : Int32} (pc' : Nat) (hc : zlk2 cd (pc / 32) pc = some (.laload, v, t, ts)) (hp : pc + 1 = pc') (hy : zget y a = some (.inr (3, n))) (hi : vp_in i n) (k : zEx (zCall d) own ini rt cd F pc' ls (.long (B a i.toNatClampNeg) :: st) (X, b, y, K, B, M)) : zEx (zCall d) own ini rt cd F pc ls (.int i :: .ref a :: st) (X, b, y, K, B, M) := by
  subst hp; refine zEx_s (zCall_m d) hc ?_; simp only [zwp, zlen_of hy]; exact ⟨hi, k⟩
theorem zr_aaload {a n j : Nat} {i : Int32} (pc' : Nat) (hc : zlk2 cd (pc / 32) pc = some (.aaload, v, t, ts)) (hp : pc + 1 = pc') (hy : zget y a = some (.inr (4, n))) (hi : vp_in i n) (hk : K a i.toNatClampNeg = some j) (k : zEx (zCall d) own ini rt cd F pc' ls (.ref j :: st) (X, b, y, K, B, M)) : zEx (zCall d) own ini rt cd F pc ls (.int i :: .ref a :: st) (X, b, y, K, B, M) := by
  subst hp; refine zEx_s (zCall_m d) hc ?_; simp only [zwp, zlen_of hy, hk, zrv]; exact ⟨hi, k⟩
theorem zr_iastore {a n : Nat} {i x : Int32} (pc' : Nat) (hc : zlk2 cd (pc / 32) pc = some (.iastore, v, t, ts)) (hp : pc + 1 = pc') (hy : zget y a = some (.inr (0, n))) (hi : vp_in i n) (k : zEx (zCall d) own ini rt cd F pc' ls st (X, b, y, K, B, zu M a i.toNatClampNeg x)) : zEx (zCall d) own ini rt cd F pc ls (.int x :: .int i :: .ref a :: st) (X, b, y, K, B, M) := by
  subst hp; refine zEx_s (zCall_m d) hc ?_; simp only [zwp, zlen_of hy]; exact ⟨hi, k⟩
theorem zr_bastore1 {a n : Nat} {i x : Int32} (pc' : Nat) (hc : zlk2 cd (pc / 32) pc = some (.bastore, v, t, ts)) (hp : pc + 1 = pc') (hy : zget y a = some (.inr (1, n))) (hi : vp_in i n) (k : zEx (zCall d) own ini rt cd F pc' ls st (X, b, y, K, B, zu M a i.toNatClampNeg (vp_nar .byte x))) : zEx (zCall d) own ini rt cd F pc ls (.int x :: .int i :: .ref a :: st) (X, b, y, K, B, M) := by
  subst hp; refine zEx_s (zCall_m d) hc ?_; simp only [zwp, zlen_of hy]; exact ⟨hi, k⟩
theorem zr_bastore2 {a n : Nat} {i x : Int32} (pc' : Nat) (hc : zlk2 cd (pc / 32) pc = some (.bastore, v, t, ts)) (hp : pc + 1 = pc') (hy : zget y a = some (.inr (2, n))) (hi : vp_in i n) (k : zEx (zCall d) own ini rt cd F pc' ls st (X, b, y, K, B, zu M a i.toNatClampNeg (vp_nar .boolean x))) : zEx (zCall d) own ini rt cd F pc ls (.int x :: .int i :: .ref a :: st) (X, b, y, K, B, M) := by
  subst hp; refine zEx_s (zCall_m d) hc ?_
  have hz : zlen (X, b, y, K, B, M) 1 a = none := by unfold zlen; simp only [hy]; rfl
  simp only [zwp, hz, zlen_of hy]; exact ⟨hi, k⟩
theorem zr_lastore {a n : Nat} {i : Int32} {x : Int64} (pc' : Nat) (hc : zlk2 cd (pc / 32) pc = some (.lastore, v, t, ts)) (hp : pc + 1 = pc') (hy : zget y a = some (.inr (3, n))) (hi : vp_in i n) (k : zEx (zCall d) own ini rt cd F pc' ls st (X, b, y, K, zu B a i.toNatClampNeg x, M)) : zEx (zCall d) own ini rt cd F pc ls (.long x :: .int i :: .ref a :: st) (X, b, y, K, B, M) := by
  subst hp; refine zEx_s (zCall_m d) hc ?_; simp only [zwp, zlen_of hy]; exact ⟨hi, k⟩
theorem zr_aastore {a n j : Nat} {i : Int32} (pc' : Nat) (hc : zlk2 cd (pc / 32) pc = some (.aastore, v, t, ts)) (hp : pc + 1 = pc') (hy : zget y a = some (.inr (4, n))) (hi : vp_in i n) (hj : zget y j = some (.inl 8)) (k : zEx (zCall d) own ini rt cd F pc' ls st (X, b, y, zu K a i.toNatClampNeg (some j), B, M)) : zEx (zCall d) own ini rt cd F pc ls (.ref j :: .int i :: .ref a :: st) (X, b, y, K, B, M) := by
  subst hp; refine zEx_s (zCall_m d) hc ?_; simp only [zwp, zlen_of hy]; exact ⟨hi, hj, k⟩
theorem zr_alen {a tt n : Nat} (pc' : Nat) (hc : zlk2 cd (pc / 32) pc = some (.arraylength, v, t, ts)) (hp : pc + 1 = pc') (hy : zget y a = some (.inr (tt, n))) (h5 : Nat.blt tt 5 = true) (k : zEx (zCall d) own ini rt cd F pc' ls (.int (Int32.ofNat n) :: st) (X, b, y, K, B, M)) : zEx (zCall d) own ini rt cd F pc ls (.ref a :: st) (X, b, y, K, B, M) := by
  subst hp; refine zEx_s (zCall_m d) hc ?_
  have hz : zalen (X, b, y, K, B, M) a = some n := by unfold zalen; simp only [hy, h5, cond_true]
  simp only [zwp, hz]; exact k
theorem zr_alX {a n : Nat} {f : Nat → Int32} (pc' : Nat) (hc : zlk2 cd (pc / 32) pc = some (.arraylength, v, t, ts)) (hp : pc + 1 = pc') (hy : zget y a = none) (hx : X a = some (n, f)) (k : zEx (zCall d) own ini rt cd F pc' ls (.int (Int32.ofNat n) :: st) (X, b, y, K, B, M)) : zEx (zCall d) own ini rt cd F pc ls (.ref a :: st) (X, b, y, K, B, M) := by
  subst hp; refine zEx_s (zCall_m d) hc ?_
  have hz : zalen (X, b, y, K, B, M) a = none := by unfold zalen; simp only [hy]
  simp only [zwp, hz, hx]; exact k
theorem zr_ireturn {x : Int32} (hc : zlk2 cd (pc / 32) pc = some (.ireturn, v, t, ts)) (h : rt = 1) (k : F (some (.int x)) (X, b, y, K, B, M)) : zEx (zCall d) own ini rt cd F pc ls [.int x] (X, b, y, K, B, M) := zEx_s (zCall_m d) hc ⟨Or.inl h, k⟩
theorem zr_zreturn {x : Int32} (hc : zlk2 cd (pc / 32) pc = some (.ireturn, v, t, ts)) (h : rt = 2) (hx : x = 0 ∨ x = 1) (k : F (some (.int x)) (X, b, y, K, B, M)) : zEx (zCall d) own ini rt cd F pc ls [.int x] (X, b, y, K, B, M) := zEx_s (zCall_m d) hc ⟨Or.inr ⟨h, hx⟩, k⟩
theorem zr_lreturn {x : Int64} (hc : zlk2 cd (pc / 32) pc = some (.lreturn, v, t, ts)) (h : rt = 3) (k : F (some (.long x)) (X, b, y, K, B, M)) : zEx (zCall d) own ini rt cd F pc ls [.long x] (X, b, y, K, B, M) := zEx_s (zCall_m d) hc ⟨h, k⟩
theorem zr_areturn {x : Nat} (hc : zlk2 cd (pc / 32) pc = some (.areturn, v, t, ts)) (h : rt = 4) (k : F (some (.ref x)) (X, b, y, K, B, M)) : zEx (zCall d) own ini rt cd F pc ls [.ref x] (X, b, y, K, B, M) := zEx_s (zCall_m d) hc ⟨h, k⟩
theorem zr_return (hc : zlk2 cd (pc / 32) pc = some (.return_, v, t, ts)) (h : rt = 0) (k : F none (X, b, y, K, B, M)) : zEx (zCall d) own ini rt cd F pc ls [] (X, b, y, K, B, M) := zEx_s (zCall_m d) hc ⟨rfl, h, k⟩
/-- a call: what it answers and leaves is put into the frame -/
def zGo (d own : Nat) (ini : Bool) (rt : Nat) (cd : List (List (Nat × zE))) (F : Option Value → zS → Prop) (pc : Nat) (ls st : List Value) (b : Nat × Nat) : Option Value → zS → Prop := fun v S' => zEx (zCall d) own ini rt cd F pc ls (v.toList ++ st) (S'.1, b, S'.2.2)
theorem zr_static {idx mi n cl r : Nat} {nb : Bool} {as : List Value} {rest : List Value} (pc' : Nat) (hc : zlk2 cd (pc / 32) pc = some (.invokestatic idx, v, t, ts)) (hp : pc + 3 = pc') (hl : zlk2 zmlL own idx = some (mi, n, cl, nb, r)) (hm : Nat.ble 302 mi = false) (ha : zlk zalL mi = none) (ht : ztake n [] st = some (as, rest)) (hz : Nat.ble (zcat rest) 8 = true) (k : zCall d mi as (X, (0, 0), y, K, B, M) (zGo d own ini rt cd F pc' ls rest b)) : zEx (zCall d) own ini rt cd F pc ls st (X, b, y, K, B, M) := by
  subst hp
  refine zEx_s (zCall_m d) hc ?_
  have h1 : Nat.beq mi 302 = false := by
    cases hb : Nat.beq mi 302
    · rfl
    · rw [Nat.eq_of_beq_eq_true hb] at hm; cases hm
  have h2 : Nat.ble 303 mi = false := by
    cases hb : Nat.ble 303 mi
    · rfl
    · have := Nat.le_of_ble_eq_true hb
      rw [Nat.ble_eq_true_of_le (by omega : 302 ≤ mi)] at hm; cases hm
  simp only [zwp, ziS, hl, h1, h2, cond_false, ht]
  refine ⟨hz, ?_⟩
  simp only [zcal, ha]
  exact k
theorem zr_math {idx mi n cl r : Nat} {nb : Bool} {w : Value} {rest : List Value} (pc' : Nat) (hc : zlk2 cd (pc / 32) pc = some (.invokestatic idx, v, t, ts)) (hp : pc + 3 = pc') (hl : zlk2 zmlL own idx = some (mi, n, cl, nb, r)) (hm : Nat.ble 303 mi = true) (ht : zmth mi st = some (w, rest)) (hz : Nat.ble (zcat rest) 8 = true) (k : zEx (zCall d) own ini rt cd F pc' ls (w :: rest) (X, b, y, K, B, M)) : zEx (zCall d) own ini rt cd F pc ls st (X, b, y, K, B, M) := by
  subst hp
  refine zEx_s (zCall_m d) hc ?_
  have h1 : Nat.beq mi 302 = false := by
    cases hb : Nat.beq mi 302
    · rfl
    · rw [Nat.eq_of_beq_eq_true hb] at hm; cases hm
  simp only [zwp, ziS, hl, h1, hm, cond_false, cond_true, ht]
  exact ⟨hz, k⟩
theorem zr_virt {idx mi n cl r a : Nat} {nb : Bool} {as rest : List Value} (pc' : Nat) (hc : zlk2 cd (pc / 32) pc = some (.invokevirtual idx, v, t, ts)) (hp : pc + 3 = pc') (hl : zlk2 zmlL own idx = some (mi, n, cl, nb, r)) (ha : zlk zalL mi = none) (ht : ztake n [] st = some (as, .ref a :: rest)) (hz : Nat.ble (zcat rest) 8 = true) (h99 : Nat.beq cl 99 = false) (hy : zget y a = some (.inl cl)) (k : zCall d mi (.ref a :: as) (X, (0, 0), y, K, B, M) (zGo d own ini rt cd F pc' ls rest b)) : zEx (zCall d) own ini rt cd F pc ls st (X, b, y, K, B, M) := by
  subst hp
  refine zEx_s (zCall_m d) hc ?_
  simp only [zwp, ziV, hl, ht]
  refine ⟨hz, ⟨fun h => ?_, fun _ => hy⟩, ?_⟩
  · rw [h] at h99; cases h99
  · simp only [zcal, ha]
    exact k
theorem zr_text {idx mi n r a : Nat} {nb : Bool} {as rest : List Value} (pc' : Nat) (hc : zlk2 cd (pc / 32) pc = some (.invokevirtual idx, v, t, ts)) (hp : pc + 3 = pc') (hl : zlk2 zmlL own idx = some (mi, n, 99, nb, r)) (ha : zlk zalL mi = none) (ht : ztake n [] st = some (as, .ref a :: rest)) (hz : Nat.ble (zcat rest) 8 = true) (hy : 2000 ≤ a ∧ a < 2015) (k : zCall d mi (.ref a :: as) (X, (0, 0), y, K, B, M) (zGo d own ini rt cd F pc' ls rest b)) : zEx (zCall d) own ini rt cd F pc ls st (X, b, y, K, B, M) := by
  subst hp
  refine zEx_s (zCall_m d) hc ?_
  simp only [zwp, ziV, hl, ht]
  refine ⟨hz, ⟨fun _ => hy, fun h => absurd trivial h⟩, ?_⟩
  simp only [zcal, ha]
  exact k
end ZR
theorem zc_of {d mi own rt mL a b : Nat} {ini : Bool} {cd : List (List (Nat × zE))} {as : List Value} {S : zS} {F : Option Value → zS → Prop} (ls : List Value) (h : zinfL[mi]? = some (own, ini, rt, mL, a, b, cd)) (hl : Nat.ble (zarg as).length mL = true) (hls : zfill mL (zarg as) = ls) (k : zEx (zCall d) own ini rt cd F 0 ls [] S) : zCall (d + 1) mi as S F := by
  subst hls
  unfold zCall
  rw [h]
  exact ⟨Nat.le_of_ble_eq_true hl, k⟩
