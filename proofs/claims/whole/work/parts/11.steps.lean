theorem Ev_iadd {d : Nat} {y : MethodName} {cc : ByteArray} {nL : Nat} {ret : Option FieldType} {pc : Nat} {ls : List (Option V)} {st : List V} {μ μ' : Mem} {r : Option V} {x z : Int32} (hd : decode cc pc = .ok (.iadd, 1)) (k : Ev d y cc nL ret (pc + 1) ls (vi (x + z) :: st) μ r μ') : Ev d y cc nL ret pc ls (vi z :: vi x :: st) μ r μ' := by
  intro l R N sh ρ cT D A p e s m args below meth c H locs cells slots al hR hC hB hX hW hA hS hls hst hL
  exact lv_iadd hX.1 hX.2.1 hd (k l R N sh ρ cT D A p e s m args below meth c H locs cells slots al hR hC hB hX hW hA hS hls (SV.cons trivial hst.tl.tl) hL)

theorem Ev_isub {d : Nat} {y : MethodName} {cc : ByteArray} {nL : Nat} {ret : Option FieldType} {pc : Nat} {ls : List (Option V)} {st : List V} {μ μ' : Mem} {r : Option V} {x z : Int32} (hd : decode cc pc = .ok (.isub, 1)) (k : Ev d y cc nL ret (pc + 1) ls (vi (x - z) :: st) μ r μ') : Ev d y cc nL ret pc ls (vi z :: vi x :: st) μ r μ' := by
  intro l R N sh ρ cT D A p e s m args below meth c H locs cells slots al hR hC hB hX hW hA hS hls hst hL
  exact lv_isub hX.1 hX.2.1 hd (k l R N sh ρ cT D A p e s m args below meth c H locs cells slots al hR hC hB hX hW hA hS hls (SV.cons trivial hst.tl.tl) hL)

theorem Ev_imul {d : Nat} {y : MethodName} {cc : ByteArray} {nL : Nat} {ret : Option FieldType} {pc : Nat} {ls : List (Option V)} {st : List V} {μ μ' : Mem} {r : Option V} {x z : Int32} (hd : decode cc pc = .ok (.imul, 1)) (k : Ev d y cc nL ret (pc + 1) ls (vi (x * z) :: st) μ r μ') : Ev d y cc nL ret pc ls (vi z :: vi x :: st) μ r μ' := by
  intro l R N sh ρ cT D A p e s m args below meth c H locs cells slots al hR hC hB hX hW hA hS hls hst hL
  exact lv_imul hX.1 hX.2.1 hd (k l R N sh ρ cT D A p e s m args below meth c H locs cells slots al hR hC hB hX hW hA hS hls (SV.cons trivial hst.tl.tl) hL)

theorem Ev_iand {d : Nat} {y : MethodName} {cc : ByteArray} {nL : Nat} {ret : Option FieldType} {pc : Nat} {ls : List (Option V)} {st : List V} {μ μ' : Mem} {r : Option V} {x z : Int32} (hd : decode cc pc = .ok (.iand, 1)) (k : Ev d y cc nL ret (pc + 1) ls (vi (x &&& z) :: st) μ r μ') : Ev d y cc nL ret pc ls (vi z :: vi x :: st) μ r μ' := by
  intro l R N sh ρ cT D A p e s m args below meth c H locs cells slots al hR hC hB hX hW hA hS hls hst hL
  exact lv_iand hX.1 hX.2.1 hd (k l R N sh ρ cT D A p e s m args below meth c H locs cells slots al hR hC hB hX hW hA hS hls (SV.cons trivial hst.tl.tl) hL)

theorem Ev_ior {d : Nat} {y : MethodName} {cc : ByteArray} {nL : Nat} {ret : Option FieldType} {pc : Nat} {ls : List (Option V)} {st : List V} {μ μ' : Mem} {r : Option V} {x z : Int32} (hd : decode cc pc = .ok (.ior, 1)) (k : Ev d y cc nL ret (pc + 1) ls (vi (x ||| z) :: st) μ r μ') : Ev d y cc nL ret pc ls (vi z :: vi x :: st) μ r μ' := by
  intro l R N sh ρ cT D A p e s m args below meth c H locs cells slots al hR hC hB hX hW hA hS hls hst hL
  exact lv_ior hX.1 hX.2.1 hd (k l R N sh ρ cT D A p e s m args below meth c H locs cells slots al hR hC hB hX hW hA hS hls (SV.cons trivial hst.tl.tl) hL)

theorem Ev_ixor {d : Nat} {y : MethodName} {cc : ByteArray} {nL : Nat} {ret : Option FieldType} {pc : Nat} {ls : List (Option V)} {st : List V} {μ μ' : Mem} {r : Option V} {x z : Int32} (hd : decode cc pc = .ok (.ixor, 1)) (k : Ev d y cc nL ret (pc + 1) ls (vi (x ^^^ z) :: st) μ r μ') : Ev d y cc nL ret pc ls (vi z :: vi x :: st) μ r μ' := by
  intro l R N sh ρ cT D A p e s m args below meth c H locs cells slots al hR hC hB hX hW hA hS hls hst hL
  exact lv_ixor hX.1 hX.2.1 hd (k l R N sh ρ cT D A p e s m args below meth c H locs cells slots al hR hC hB hX hW hA hS hls (SV.cons trivial hst.tl.tl) hL)

theorem Ev_ishl {d : Nat} {y : MethodName} {cc : ByteArray} {nL : Nat} {ret : Option FieldType} {pc : Nat} {ls : List (Option V)} {st : List V} {μ μ' : Mem} {r : Option V} {x z : Int32} (hd : decode cc pc = .ok (.ishl, 1)) (k : Ev d y cc nL ret (pc + 1) ls (vi (x <<< (z &&& 31)) :: st) μ r μ') : Ev d y cc nL ret pc ls (vi z :: vi x :: st) μ r μ' := by
  intro l R N sh ρ cT D A p e s m args below meth c H locs cells slots al hR hC hB hX hW hA hS hls hst hL
  exact lv_ishl hX.1 hX.2.1 hd (k l R N sh ρ cT D A p e s m args below meth c H locs cells slots al hR hC hB hX hW hA hS hls (SV.cons trivial hst.tl.tl) hL)

theorem Ev_ishr {d : Nat} {y : MethodName} {cc : ByteArray} {nL : Nat} {ret : Option FieldType} {pc : Nat} {ls : List (Option V)} {st : List V} {μ μ' : Mem} {r : Option V} {x z : Int32} (hd : decode cc pc = .ok (.ishr, 1)) (k : Ev d y cc nL ret (pc + 1) ls (vi (x >>> (z &&& 31)) :: st) μ r μ') : Ev d y cc nL ret pc ls (vi z :: vi x :: st) μ r μ' := by
  intro l R N sh ρ cT D A p e s m args below meth c H locs cells slots al hR hC hB hX hW hA hS hls hst hL
  exact lv_ishr hX.1 hX.2.1 hd (k l R N sh ρ cT D A p e s m args below meth c H locs cells slots al hR hC hB hX hW hA hS hls (SV.cons trivial hst.tl.tl) hL)

theorem Ev_idiv {d : Nat} {y : MethodName} {cc : ByteArray} {nL : Nat} {ret : Option FieldType} {pc : Nat} {ls : List (Option V)} {st : List V} {μ μ' : Mem} {r : Option V} {x z : Int32} (hd : decode cc pc = .ok (.idiv, 1)) (hz : ¬ z = 0) (k : Ev d y cc nL ret (pc + 1) ls (vi (x / z) :: st) μ r μ') : Ev d y cc nL ret pc ls (vi z :: vi x :: st) μ r μ' := by
  intro l R N sh ρ cT D A p e s m args below meth c H locs cells slots al hR hC hB hX hW hA hS hls hst hL
  exact lv_idiv hX.1 hX.2.1 hd hz (k l R N sh ρ cT D A p e s m args below meth c H locs cells slots al hR hC hB hX hW hA hS hls (SV.cons trivial hst.tl.tl) hL)

theorem Ev_irem {d : Nat} {y : MethodName} {cc : ByteArray} {nL : Nat} {ret : Option FieldType} {pc : Nat} {ls : List (Option V)} {st : List V} {μ μ' : Mem} {r : Option V} {x z : Int32} (hd : decode cc pc = .ok (.irem, 1)) (hz : ¬ z = 0) (k : Ev d y cc nL ret (pc + 1) ls (vi (x - x / z * z) :: st) μ r μ') : Ev d y cc nL ret pc ls (vi z :: vi x :: st) μ r μ' := by
  intro l R N sh ρ cT D A p e s m args below meth c H locs cells slots al hR hC hB hX hW hA hS hls hst hL
  exact lv_irem hX.1 hX.2.1 hd hz (k l R N sh ρ cT D A p e s m args below meth c H locs cells slots al hR hC hB hX hW hA hS hls (SV.cons trivial hst.tl.tl) hL)

theorem Ev_iushr {d : Nat} {y : MethodName} {cc : ByteArray} {nL : Nat} {ret : Option FieldType} {pc : Nat} {ls : List (Option V)} {st : List V} {μ μ' : Mem} {r : Option V} {x z : Int32} (hd : decode cc pc = .ok (.iushr, 1)) (k : Ev d y cc nL ret (pc + 1) ls (vi ((x.toUInt32 >>> (z.toUInt32 &&& Int32.toUInt32 31)).toInt32) :: st) μ r μ') : Ev d y cc nL ret pc ls (vi z :: vi x :: st) μ r μ' := by
  intro l R N sh ρ cT D A p e s m args below meth c H locs cells slots al hR hC hB hX hW hA hS hls hst hL
  exact lv_iushr hX.1 hX.2.1 hd rfl (k l R N sh ρ cT D A p e s m args below meth c H locs cells slots al hR hC hB hX hW hA hS hls (SV.cons trivial hst.tl.tl) hL)

theorem Ev_ineg {d : Nat} {y : MethodName} {cc : ByteArray} {nL : Nat} {ret : Option FieldType} {pc : Nat} {ls : List (Option V)} {st : List V} {μ μ' : Mem} {r : Option V} {x : Int32} (hd : decode cc pc = .ok (.ineg, 1)) (k : Ev d y cc nL ret (pc + 1) ls (vi (-x) :: st) μ r μ') : Ev d y cc nL ret pc ls (vi x :: st) μ r μ' := by
  intro l R N sh ρ cT D A p e s m args below meth c H locs cells slots al hR hC hB hX hW hA hS hls hst hL
  exact lv_ineg hX.1 hX.2.1 hd (k l R N sh ρ cT D A p e s m args below meth c H locs cells slots al hR hC hB hX hW hA hS hls (SV.cons trivial hst.tl) hL)

theorem Ev_i2b {d : Nat} {y : MethodName} {cc : ByteArray} {nL : Nat} {ret : Option FieldType} {pc : Nat} {ls : List (Option V)} {st : List V} {μ μ' : Mem} {r : Option V} {x : Int32} (hd : decode cc pc = .ok (.i2b, 1)) (k : Ev d y cc nL ret (pc + 1) ls (vi (x.toInt8.toInt32) :: st) μ r μ') : Ev d y cc nL ret pc ls (vi x :: st) μ r μ' := by
  intro l R N sh ρ cT D A p e s m args below meth c H locs cells slots al hR hC hB hX hW hA hS hls hst hL
  exact lv_i2b hX.1 hX.2.1 hd rfl (k l R N sh ρ cT D A p e s m args below meth c H locs cells slots al hR hC hB hX hW hA hS hls (SV.cons trivial hst.tl) hL)

theorem Ev_i2c {d : Nat} {y : MethodName} {cc : ByteArray} {nL : Nat} {ret : Option FieldType} {pc : Nat} {ls : List (Option V)} {st : List V} {μ μ' : Mem} {r : Option V} {x : Int32} (hd : decode cc pc = .ok (.i2c, 1)) (k : Ev d y cc nL ret (pc + 1) ls (vi ((x.toUInt32 % 65536).toInt32) :: st) μ r μ') : Ev d y cc nL ret pc ls (vi x :: st) μ r μ' := by
  intro l R N sh ρ cT D A p e s m args below meth c H locs cells slots al hR hC hB hX hW hA hS hls hst hL
  exact lv_i2c hX.1 hX.2.1 hd rfl (k l R N sh ρ cT D A p e s m args below meth c H locs cells slots al hR hC hB hX hW hA hS hls (SV.cons trivial hst.tl) hL)

theorem Ev_i2l {d : Nat} {y : MethodName} {cc : ByteArray} {nL : Nat} {ret : Option FieldType} {pc : Nat} {ls : List (Option V)} {st : List V} {μ μ' : Mem} {r : Option V} {x : Int32} (hd : decode cc pc = .ok (.i2l, 1)) (k : Ev d y cc nL ret (pc + 1) ls (vl x.toInt64 :: st) μ r μ') : Ev d y cc nL ret pc ls (vi x :: st) μ r μ' := by
  intro l R N sh ρ cT D A p e s m args below meth c H locs cells slots al hR hC hB hX hW hA hS hls hst hL
  exact lv_i2l hX.1 hX.2.1 hd rfl (k l R N sh ρ cT D A p e s m args below meth c H locs cells slots al hR hC hB hX hW hA hS hls (SV.cons trivial hst.tl) hL)

theorem Ev_l2i {d : Nat} {y : MethodName} {cc : ByteArray} {nL : Nat} {ret : Option FieldType} {pc : Nat} {ls : List (Option V)} {st : List V} {μ μ' : Mem} {r : Option V} {x : Int64} (hd : decode cc pc = .ok (.l2i, 1)) (k : Ev d y cc nL ret (pc + 1) ls (vi x.toInt32 :: st) μ r μ') : Ev d y cc nL ret pc ls (vl x :: st) μ r μ' := by
  intro l R N sh ρ cT D A p e s m args below meth c H locs cells slots al hR hC hB hX hW hA hS hls hst hL
  exact lv_l2i hX.1 hX.2.1 hd rfl (k l R N sh ρ cT D A p e s m args below meth c H locs cells slots al hR hC hB hX hW hA hS hls (SV.cons trivial hst.tl) hL)

theorem Ev_ladd {d : Nat} {y : MethodName} {cc : ByteArray} {nL : Nat} {ret : Option FieldType} {pc : Nat} {ls : List (Option V)} {st : List V} {μ μ' : Mem} {r : Option V} {x z : Int64} (hd : decode cc pc = .ok (.ladd, 1)) (k : Ev d y cc nL ret (pc + 1) ls (vl (x + z) :: st) μ r μ') : Ev d y cc nL ret pc ls (vl z :: vl x :: st) μ r μ' := by
  intro l R N sh ρ cT D A p e s m args below meth c H locs cells slots al hR hC hB hX hW hA hS hls hst hL
  exact lv_ladd hX.1 hX.2.1 hd (k l R N sh ρ cT D A p e s m args below meth c H locs cells slots al hR hC hB hX hW hA hS hls (SV.cons trivial hst.tl.tl) hL)

theorem Ev_lmul {d : Nat} {y : MethodName} {cc : ByteArray} {nL : Nat} {ret : Option FieldType} {pc : Nat} {ls : List (Option V)} {st : List V} {μ μ' : Mem} {r : Option V} {x z : Int64} (hd : decode cc pc = .ok (.lmul, 1)) (k : Ev d y cc nL ret (pc + 1) ls (vl (x * z) :: st) μ r μ') : Ev d y cc nL ret pc ls (vl z :: vl x :: st) μ r μ' := by
  intro l R N sh ρ cT D A p e s m args below meth c H locs cells slots al hR hC hB hX hW hA hS hls hst hL
  exact lv_lmul hX.1 hX.2.1 hd (k l R N sh ρ cT D A p e s m args below meth c H locs cells slots al hR hC hB hX hW hA hS hls (SV.cons trivial hst.tl.tl) hL)

theorem Ev_land {d : Nat} {y : MethodName} {cc : ByteArray} {nL : Nat} {ret : Option FieldType} {pc : Nat} {ls : List (Option V)} {st : List V} {μ μ' : Mem} {r : Option V} {x z : Int64} (hd : decode cc pc = .ok (.land, 1)) (k : Ev d y cc nL ret (pc + 1) ls (vl (x &&& z) :: st) μ r μ') : Ev d y cc nL ret pc ls (vl z :: vl x :: st) μ r μ' := by
  intro l R N sh ρ cT D A p e s m args below meth c H locs cells slots al hR hC hB hX hW hA hS hls hst hL
  exact lv_land hX.1 hX.2.1 hd (k l R N sh ρ cT D A p e s m args below meth c H locs cells slots al hR hC hB hX hW hA hS hls (SV.cons trivial hst.tl.tl) hL)

theorem Ev_ldiv {d : Nat} {y : MethodName} {cc : ByteArray} {nL : Nat} {ret : Option FieldType} {pc : Nat} {ls : List (Option V)} {st : List V} {μ μ' : Mem} {r : Option V} {x z : Int64} (hd : decode cc pc = .ok (.ldiv, 1)) (hz : ¬ z = 0) (k : Ev d y cc nL ret (pc + 1) ls (vl (x / z) :: st) μ r μ') : Ev d y cc nL ret pc ls (vl z :: vl x :: st) μ r μ' := by
  intro l R N sh ρ cT D A p e s m args below meth c H locs cells slots al hR hC hB hX hW hA hS hls hst hL
  exact lv_ldiv hX.1 hX.2.1 hd hz (k l R N sh ρ cT D A p e s m args below meth c H locs cells slots al hR hC hB hX hW hA hS hls (SV.cons trivial hst.tl.tl) hL)

theorem Ev_lrem {d : Nat} {y : MethodName} {cc : ByteArray} {nL : Nat} {ret : Option FieldType} {pc : Nat} {ls : List (Option V)} {st : List V} {μ μ' : Mem} {r : Option V} {x z : Int64} (hd : decode cc pc = .ok (.lrem, 1)) (hz : ¬ z = 0) (k : Ev d y cc nL ret (pc + 1) ls (vl (x - x / z * z) :: st) μ r μ') : Ev d y cc nL ret pc ls (vl z :: vl x :: st) μ r μ' := by
  intro l R N sh ρ cT D A p e s m args below meth c H locs cells slots al hR hC hB hX hW hA hS hls hst hL
  exact lv_lrem hX.1 hX.2.1 hd hz (k l R N sh ρ cT D A p e s m args below meth c H locs cells slots al hR hC hB hX hW hA hS hls (SV.cons trivial hst.tl.tl) hL)

theorem Ev_lushr {d : Nat} {y : MethodName} {cc : ByteArray} {nL : Nat} {ret : Option FieldType} {pc : Nat} {ls : List (Option V)} {st : List V} {μ μ' : Mem} {r : Option V} {x : Int64} {z : Int32} (hd : decode cc pc = .ok (.lushr, 1)) (k : Ev d y cc nL ret (pc + 1) ls (vl ((x.toUInt64 >>> (z.toInt64.toUInt64 &&& Int64.toUInt64 63)).toInt64) :: st) μ r μ') : Ev d y cc nL ret pc ls (vi z :: vl x :: st) μ r μ' := by
  intro l R N sh ρ cT D A p e s m args below meth c H locs cells slots al hR hC hB hX hW hA hS hls hst hL
  exact lv_lushr hX.1 hX.2.1 hd rfl (k l R N sh ρ cT D A p e s m args below meth c H locs cells slots al hR hC hB hX hW hA hS hls (SV.cons trivial hst.tl.tl) hL)

theorem Ev_iconst {d : Nat} {y : MethodName} {cc : ByteArray} {nL : Nat} {ret : Option FieldType} {pc : Nat} {ls : List (Option V)} {st : List V} {μ μ' : Mem} {r : Option V} {n : Int} (v : Int32) (hd : decode cc pc = .ok (.iconst n, 1)) (hv : Int32.ofInt n = v) (k : Ev d y cc nL ret (pc + 1) ls (vi v :: st) μ r μ') : Ev d y cc nL ret pc ls (st) μ r μ' := by
  intro l R N sh ρ cT D A p e s m args below meth c H locs cells slots al hR hC hB hX hW hA hS hls hst hL
  exact lv_iconst hX.1 hX.2.1 hd hv (k l R N sh ρ cT D A p e s m args below meth c H locs cells slots al hR hC hB hX hW hA hS hls (SV.cons trivial hst) hL)

theorem Ev_bipush {d : Nat} {y : MethodName} {cc : ByteArray} {nL : Nat} {ret : Option FieldType} {pc : Nat} {ls : List (Option V)} {st : List V} {μ μ' : Mem} {r : Option V} {n : Int} (v : Int32) (hd : decode cc pc = .ok (.bipush n, 2)) (hv : (Int8.ofInt n).toInt32 = v) (k : Ev d y cc nL ret (pc + 2) ls (vi v :: st) μ r μ') : Ev d y cc nL ret pc ls (st) μ r μ' := by
  intro l R N sh ρ cT D A p e s m args below meth c H locs cells slots al hR hC hB hX hW hA hS hls hst hL
  exact lv_bipush hX.1 hX.2.1 hd hv (k l R N sh ρ cT D A p e s m args below meth c H locs cells slots al hR hC hB hX hW hA hS hls (SV.cons trivial hst) hL)

theorem Ev_sipush {d : Nat} {y : MethodName} {cc : ByteArray} {nL : Nat} {ret : Option FieldType} {pc : Nat} {ls : List (Option V)} {st : List V} {μ μ' : Mem} {r : Option V} {n : Int} (v : Int32) (hd : decode cc pc = .ok (.sipush n, 3)) (hv : (Int16.ofInt n).toInt32 = v) (k : Ev d y cc nL ret (pc + 3) ls (vi v :: st) μ r μ') : Ev d y cc nL ret pc ls (st) μ r μ' := by
  intro l R N sh ρ cT D A p e s m args below meth c H locs cells slots al hR hC hB hX hW hA hS hls hst hL
  exact lv_sipush hX.1 hX.2.1 hd hv (k l R N sh ρ cT D A p e s m args below meth c H locs cells slots al hR hC hB hX hW hA hS hls (SV.cons trivial hst) hL)

theorem Ev_lconst {d : Nat} {y : MethodName} {cc : ByteArray} {nL : Nat} {ret : Option FieldType} {pc : Nat} {ls : List (Option V)} {st : List V} {μ μ' : Mem} {r : Option V} {n : Fin 2} (v : Int64) (hd : decode cc pc = .ok (.lconst n, 1)) (hv : Int64.ofNat (n : Nat) = v) (k : Ev d y cc nL ret (pc + 1) ls (vl v :: st) μ r μ') : Ev d y cc nL ret pc ls (st) μ r μ' := by
  intro l R N sh ρ cT D A p e s m args below meth c H locs cells slots al hR hC hB hX hW hA hS hls hst hL
  exact lv_lconst hX.1 hX.2.1 hd hv (k l R N sh ρ cT D A p e s m args below meth c H locs cells slots al hR hC hB hX hW hA hS hls (SV.cons trivial hst) hL)

theorem Ev_ldc {d : Nat} {y : MethodName} {cc : ByteArray} {nL : Nat} {ret : Option FieldType} {pc : Nat} {ls : List (Option V)} {st : List V} {μ μ' : Mem} {r : Option V} {i : Nat} (v : Int32) (hd : decode cc pc = .ok (.ldc i, 2)) (hc : Cond.constant y.cls i v ∈ tb) (k : Ev d y cc nL ret (pc + 2) ls (vi v :: st) μ r μ') : Ev d y cc nL ret pc ls st μ r μ' := by
  intro l R N sh ρ cT D A p e s m args below meth c H locs cells slots al hR hC hB hX hW hA hS hls hst hL
  exact lv_ldc hX.1 hX.2.1 hX.2.2.2.2.1 (hX.2.2.2.2.2.1 _ hc) hd (k l R N sh ρ cT D A p e s m args below meth c H locs cells slots al hR hC hB hX hW hA hS hls (SV.cons trivial hst) hL)

theorem Ev_ldcw {d : Nat} {y : MethodName} {cc : ByteArray} {nL : Nat} {ret : Option FieldType} {pc : Nat} {ls : List (Option V)} {st : List V} {μ μ' : Mem} {r : Option V} {i : Nat} (v : Int32) (hd : decode cc pc = .ok (.ldc_w i, 3)) (hc : Cond.constant y.cls i v ∈ tb) (k : Ev d y cc nL ret (pc + 3) ls (vi v :: st) μ r μ') : Ev d y cc nL ret pc ls st μ r μ' := by
  intro l R N sh ρ cT D A p e s m args below meth c H locs cells slots al hR hC hB hX hW hA hS hls hst hL
  exact lv_ldcw hX.1 hX.2.1 hX.2.2.2.2.1 (hX.2.2.2.2.2.1 _ hc) hd (k l R N sh ρ cT D A p e s m args below meth c H locs cells slots al hR hC hB hX hW hA hS hls (SV.cons trivial hst) hL)

theorem Ev_ldc2 {d : Nat} {y : MethodName} {cc : ByteArray} {nL : Nat} {ret : Option FieldType} {pc : Nat} {ls : List (Option V)} {st : List V} {μ μ' : Mem} {r : Option V} {i : Nat} (v : Int64) (hd : decode cc pc = .ok (.ldc2_w i, 3)) (hc : Cond.constantLong y.cls i v ∈ tb) (k : Ev d y cc nL ret (pc + 3) ls (vl v :: st) μ r μ') : Ev d y cc nL ret pc ls st μ r μ' := by
  intro l R N sh ρ cT D A p e s m args below meth c H locs cells slots al hR hC hB hX hW hA hS hls hst hL
  exact lv_ldc2 hX.1 hX.2.1 hX.2.2.2.2.1 (hX.2.2.2.2.2.1 _ hc) hd (k l R N sh ρ cT D A p e s m args below meth c H locs cells slots al hR hC hB hX hW hA hS hls (SV.cons trivial hst) hL)

theorem Ev_iload_n {d : Nat} {y : MethodName} {cc : ByteArray} {nL : Nat} {ret : Option FieldType} {pc : Nat} {ls : List (Option V)} {st : List V} {μ μ' : Mem} {r : Option V} {j : Fin 4} {x : Int32} (hd : decode cc pc = .ok (.iload_n j, 1)) (hi : ls.getD (j : Nat) none = some (vi x)) (k : Ev d y cc nL ret (pc + 1) ls (vi x :: st) μ r μ') : Ev d y cc nL ret pc ls st μ r μ' := by
  intro l R N sh ρ cT D A p e s m args below meth c H locs cells slots al hR hC hB hX hW hA hS hls hst hL
  exact lv_iload_n hX.1 hX.2.1 hd rfl (hL.at hi) (k l R N sh ρ cT D A p e s m args below meth c H locs cells slots al hR hC hB hX hW hA hS hls (SV.cons trivial hst) hL)

theorem Ev_iload {d : Nat} {y : MethodName} {cc : ByteArray} {nL : Nat} {ret : Option FieldType} {pc : Nat} {ls : List (Option V)} {st : List V} {μ μ' : Mem} {r : Option V} {j : Nat} {x : Int32} (hd : decode cc pc = .ok (.iload j, 2)) (hi : ls.getD j none = some (vi x)) (k : Ev d y cc nL ret (pc + 2) ls (vi x :: st) μ r μ') : Ev d y cc nL ret pc ls st μ r μ' := by
  intro l R N sh ρ cT D A p e s m args below meth c H locs cells slots al hR hC hB hX hW hA hS hls hst hL
  exact lv_iload hX.1 hX.2.1 hd (hL.at hi) (k l R N sh ρ cT D A p e s m args below meth c H locs cells slots al hR hC hB hX hW hA hS hls (SV.cons trivial hst) hL)

theorem Ev_lload_n {d : Nat} {y : MethodName} {cc : ByteArray} {nL : Nat} {ret : Option FieldType} {pc : Nat} {ls : List (Option V)} {st : List V} {μ μ' : Mem} {r : Option V} {j : Fin 4} {x : Int64} (hd : decode cc pc = .ok (.lload_n j, 1)) (hi : ls.getD (j : Nat) none = some (vl x)) (k : Ev d y cc nL ret (pc + 1) ls (vl x :: st) μ r μ') : Ev d y cc nL ret pc ls st μ r μ' := by
  intro l R N sh ρ cT D A p e s m args below meth c H locs cells slots al hR hC hB hX hW hA hS hls hst hL
  exact lv_lload_n hX.1 hX.2.1 hd rfl (hL.at hi) (k l R N sh ρ cT D A p e s m args below meth c H locs cells slots al hR hC hB hX hW hA hS hls (SV.cons trivial hst) hL)

theorem Ev_lload {d : Nat} {y : MethodName} {cc : ByteArray} {nL : Nat} {ret : Option FieldType} {pc : Nat} {ls : List (Option V)} {st : List V} {μ μ' : Mem} {r : Option V} {j : Nat} {x : Int64} (hd : decode cc pc = .ok (.lload j, 2)) (hi : ls.getD j none = some (vl x)) (k : Ev d y cc nL ret (pc + 2) ls (vl x :: st) μ r μ') : Ev d y cc nL ret pc ls st μ r μ' := by
  intro l R N sh ρ cT D A p e s m args below meth c H locs cells slots al hR hC hB hX hW hA hS hls hst hL
  exact lv_lload hX.1 hX.2.1 hd (hL.at hi) (k l R N sh ρ cT D A p e s m args below meth c H locs cells slots al hR hC hB hX hW hA hS hls (SV.cons trivial hst) hL)

theorem Ev_aload_n {d : Nat} {y : MethodName} {cc : ByteArray} {nL : Nat} {ret : Option FieldType} {pc : Nat} {ls : List (Option V)} {st : List V} {μ μ' : Mem} {r : Option V} {j : Fin 4} {t n a : Nat} (hd : decode cc pc = .ok (.aload_n j, 1)) (hi : ls.getD (j : Nat) none = some (vr t n a)) (k : Ev d y cc nL ret (pc + 1) ls (vr t n a :: st) μ r μ') : Ev d y cc nL ret pc ls st μ r μ' := by
  intro l R N sh ρ cT D A p e s m args below meth c H locs cells slots al hR hC hB hX hW hA hS hls hst hL
  exact lv_aload_n hX.1 hX.2.1 hd rfl (hL.at hi) (k l R N sh ρ cT D A p e s m args below meth c H locs cells slots al hR hC hB hX hW hA hS hls (SV.cons (hls.at hi) hst) hL)

theorem Ev_aload {d : Nat} {y : MethodName} {cc : ByteArray} {nL : Nat} {ret : Option FieldType} {pc : Nat} {ls : List (Option V)} {st : List V} {μ μ' : Mem} {r : Option V} {j : Nat} {t n a : Nat} (hd : decode cc pc = .ok (.aload j, 2)) (hi : ls.getD j none = some (vr t n a)) (k : Ev d y cc nL ret (pc + 2) ls (vr t n a :: st) μ r μ') : Ev d y cc nL ret pc ls st μ r μ' := by
  intro l R N sh ρ cT D A p e s m args below meth c H locs cells slots al hR hC hB hX hW hA hS hls hst hL
  exact lv_aload hX.1 hX.2.1 hd (hL.at hi) (k l R N sh ρ cT D A p e s m args below meth c H locs cells slots al hR hC hB hX hW hA hS hls (SV.cons (hls.at hi) hst) hL)

theorem Ev_istore_n {d : Nat} {y : MethodName} {cc : ByteArray} {nL : Nat} {ret : Option FieldType} {pc : Nat} {ls : List (Option V)} {st : List V} {μ μ' : Mem} {r : Option V} {j : Fin 4} {x : Int32} (hd : decode cc pc = .ok (.istore_n j, 1)) (hj : (j : Nat) < ls.length) (hp : ∀ x, (j : Nat) ≠ 0 → ls.getD ((j : Nat) - 1) none ≠ some (vl x)) (k : Ev d y cc nL ret (pc + 1) (ls.set (j : Nat) (some (vi x))) st μ r μ') : Ev d y cc nL ret pc ls (vi x :: st) μ r μ' := by
  intro l R N sh ρ cT D A p e s m args below meth c H locs cells slots al hR hC hB hX hW hA hS hls hst hL
  exact lv_istore_n hX.1 hX.2.1 hd rfl hL.2 (hL.1 ▸ hj) rfl (fun al' hl' => k l R N sh ρ cT D A p e s m args below meth c H locs cells slots al' hR hC hB hX hW hA hS (hls.set hst.hd) hst.tl (hL.st1 hp hl'))

theorem Ev_istore {d : Nat} {y : MethodName} {cc : ByteArray} {nL : Nat} {ret : Option FieldType} {pc : Nat} {ls : List (Option V)} {st : List V} {μ μ' : Mem} {r : Option V} {j : Nat} {x : Int32} (hd : decode cc pc = .ok (.istore j, 2)) (hj : j < ls.length) (hp : ∀ x, j ≠ 0 → ls.getD (j - 1) none ≠ some (vl x)) (k : Ev d y cc nL ret (pc + 2) (ls.set j (some (vi x))) st μ r μ') : Ev d y cc nL ret pc ls (vi x :: st) μ r μ' := by
  intro l R N sh ρ cT D A p e s m args below meth c H locs cells slots al hR hC hB hX hW hA hS hls hst hL
  exact lv_istore hX.1 hX.2.1 hd hL.2 (hL.1 ▸ hj) rfl (fun al' hl' => k l R N sh ρ cT D A p e s m args below meth c H locs cells slots al' hR hC hB hX hW hA hS (hls.set hst.hd) hst.tl (hL.st1 hp hl'))

theorem Ev_astore_n {d : Nat} {y : MethodName} {cc : ByteArray} {nL : Nat} {ret : Option FieldType} {pc : Nat} {ls : List (Option V)} {st : List V} {μ μ' : Mem} {r : Option V} {j : Fin 4} {t n a : Nat} (hd : decode cc pc = .ok (.astore_n j, 1)) (hj : (j : Nat) < ls.length) (hp : ∀ x, (j : Nat) ≠ 0 → ls.getD ((j : Nat) - 1) none ≠ some (vl x)) (k : Ev d y cc nL ret (pc + 1) (ls.set (j : Nat) (some (vr t n a))) st μ r μ') : Ev d y cc nL ret pc ls (vr t n a :: st) μ r μ' := by
  intro l R N sh ρ cT D A p e s m args below meth c H locs cells slots al hR hC hB hX hW hA hS hls hst hL
  exact lv_astore_n hX.1 hX.2.1 hd rfl hL.2 (hL.1 ▸ hj) rfl (fun al' hl' => k l R N sh ρ cT D A p e s m args below meth c H locs cells slots al' hR hC hB hX hW hA hS (hls.set hst.hd) hst.tl (hL.st1 hp hl'))

theorem Ev_astore {d : Nat} {y : MethodName} {cc : ByteArray} {nL : Nat} {ret : Option FieldType} {pc : Nat} {ls : List (Option V)} {st : List V} {μ μ' : Mem} {r : Option V} {j : Nat} {t n a : Nat} (hd : decode cc pc = .ok (.astore j, 2)) (hj : j < ls.length) (hp : ∀ x, j ≠ 0 → ls.getD (j - 1) none ≠ some (vl x)) (k : Ev d y cc nL ret (pc + 2) (ls.set j (some (vr t n a))) st μ r μ') : Ev d y cc nL ret pc ls (vr t n a :: st) μ r μ' := by
  intro l R N sh ρ cT D A p e s m args below meth c H locs cells slots al hR hC hB hX hW hA hS hls hst hL
  exact lv_astore hX.1 hX.2.1 hd hL.2 (hL.1 ▸ hj) rfl (fun al' hl' => k l R N sh ρ cT D A p e s m args below meth c H locs cells slots al' hR hC hB hX hW hA hS (hls.set hst.hd) hst.tl (hL.st1 hp hl'))

theorem LR.st2 {ρ : Nat → Nat} {al al' : Array Slot} {nL : Nat} {ls : List (Option V)} {i : Nat} {x : Int64} (h : LR ρ al nL ls) (hp : ∀ x, i ≠ 0 → ls.getD (i - 1) none ≠ some (vl x)) (h' : lv_has al' nL ((i, Value.long x) :: (lvl ρ ls).filter (fun q => !(q.1 == i) && (!(q.1 == i + 1) && !(q.1 + 1 == i && q.2.category == 2))))) : LR ρ al' nL ((ls.set i (some (vl x))).set (i + 1) none) := by
  refine ⟨by rw [List.length_set, List.length_set]; exact h.1, lv_mono h' ?_⟩
  intro q hq
  obtain ⟨w, h1, h2⟩ := mem_lvl.mp hq
  by_cases e0 : q.1 = i + 1
  · exfalso
    have hi := (List.getElem?_eq_some_iff.mp h1).1
    rw [List.length_set] at hi
    rw [e0, List.getElem?_set_self (by omega)] at h1
    cases h1
  rw [List.getElem?_set_ne (fun z => e0 z.symm)] at h1
  by_cases e : q.1 = i
  · have hi : i < ls.length := by
      have := (List.getElem?_eq_some_iff.mp h1).1
      rw [List.length_set] at this
      omega
    rw [e, List.getElem?_set_self hi] at h1
    cases h1
    have : q = (i, Value.long x) := Prod.ext e h2
    rw [this]
    exact List.mem_cons_self
  · rw [List.getElem?_set_ne (fun z => e z.symm)] at h1
    refine List.mem_cons_of_mem _ (List.mem_filter.mpr ⟨mem_lvl.mpr ⟨w, h1, h2⟩, ?_⟩)
    have e1 : (q.1 == i) = false := by simpa using e
    have e4 : (q.1 == i + 1) = false := by simpa using e0
    rw [e1, e4]
    by_cases e2 : q.1 + 1 = i
    · have hw : q.2.category ≠ 2 := by
        rw [h2]
        match w, h1 with
        | .inl x, _ => exact fun z => by cases z
        | .inr (.inr x), _ => exact fun z => by cases z
        | .inr (.inl x), h1 =>
          exfalso
          refine hp x (by omega) ?_
          rw [List.getD_eq_getElem?_getD, show i - 1 = q.1 by omega, h1]
          rfl
      have e3 : (q.2.category == 2) = false := by simpa using hw
      rw [e3]
      simp
    · have e3 : (q.1 + 1 == i) = false := by simpa using e2
      rw [e3]
      rfl

theorem Ev_lstore_n {d : Nat} {y : MethodName} {cc : ByteArray} {nL : Nat} {ret : Option FieldType} {pc : Nat} {ls : List (Option V)} {st : List V} {μ μ' : Mem} {r : Option V} {j : Fin 4} {x : Int64} (hd : decode cc pc = .ok (.lstore_n j, 1)) (hj : (j : Nat) + 1 < ls.length) (hp : ∀ x, (j : Nat) ≠ 0 → ls.getD ((j : Nat) - 1) none ≠ some (vl x)) (k : Ev d y cc nL ret (pc + 1) ((ls.set (j : Nat) (some (vl x))).set ((j : Nat) + 1) none) st μ r μ') : Ev d y cc nL ret pc ls (vl x :: st) μ r μ' := by
  intro l R N sh ρ cT D A p e s m args below meth c H locs cells slots al hR hC hB hX hW hA hS hls hst hL
  exact lv_lstore_n hX.1 hX.2.1 hd rfl hL.2 (hL.1 ▸ hj) rfl (fun al' hl' => k l R N sh ρ cT D A p e s m args below meth c H locs cells slots al' hR hC hB hX hW hA hS ((hls.set hst.hd).setN) hst.tl (hL.st2 hp hl'))

theorem Ev_lstore {d : Nat} {y : MethodName} {cc : ByteArray} {nL : Nat} {ret : Option FieldType} {pc : Nat} {ls : List (Option V)} {st : List V} {μ μ' : Mem} {r : Option V} {j : Nat} {x : Int64} (hd : decode cc pc = .ok (.lstore j, 2)) (hj : j + 1 < ls.length) (hp : ∀ x, j ≠ 0 → ls.getD (j - 1) none ≠ some (vl x)) (k : Ev d y cc nL ret (pc + 2) ((ls.set j (some (vl x))).set (j + 1) none) st μ r μ') : Ev d y cc nL ret pc ls (vl x :: st) μ r μ' := by
  intro l R N sh ρ cT D A p e s m args below meth c H locs cells slots al hR hC hB hX hW hA hS hls hst hL
  exact lv_lstore hX.1 hX.2.1 hd hL.2 (hL.1 ▸ hj) rfl (fun al' hl' => k l R N sh ρ cT D A p e s m args below meth c H locs cells slots al' hR hC hB hX hW hA hS ((hls.set hst.hd).setN) hst.tl (hL.st2 hp hl'))

theorem Ev_iinc {d : Nat} {y : MethodName} {cc : ByteArray} {nL : Nat} {ret : Option FieldType} {pc : Nat} {ls : List (Option V)} {st : List V} {μ μ' : Mem} {r : Option V} {j : Nat} {n : Int} {x : Int32} (v : Int32) (hd : decode cc pc = .ok (.iinc j n, 3)) (hi : ls.getD j none = some (vi x)) (hv : x + Int32.ofInt n = v) (hp : ∀ x, j ≠ 0 → ls.getD (j - 1) none ≠ some (vl x)) (k : Ev d y cc nL ret (pc + 3) (ls.set j (some (vi v))) st μ r μ') : Ev d y cc nL ret pc ls st μ r μ' := by
  intro l R N sh ρ cT D A p e s m args below meth c H locs cells slots al hR hC hB hX hW hA hS hls hst hL
  have hj : j < ls.length := by
    rcases Nat.lt_or_ge j ls.length with q | q
    · exact q
    · rw [List.getD_eq_getElem?_getD, List.getElem?_eq_none q] at hi
      cases hi
  have hm : (j, Value.int x) ∈ lvl ρ ls := mem_lvl.mpr ⟨vi x, by rw [List.getD_eq_getElem?_getD, List.getElem?_eq_getElem hj] at hi; rw [List.getElem?_eq_getElem hj]; exact congrArg some hi, rfl⟩
  obtain ⟨kk, hkk⟩ := List.getElem?_of_mem hm
  exact lv_iinc (k := kk) hX.1 hX.2.1 hd hL.2 hkk hv (hL.1 ▸ hj) rfl (fun al' hl' => k l R N sh ρ cT D A p e s m args below meth c H locs cells slots al' hR hC hB hX hW hA hS (hls.set trivial) hst (hL.st1 hp hl'))

theorem Ev_dup {d : Nat} {y : MethodName} {cc : ByteArray} {nL : Nat} {ret : Option FieldType} {pc : Nat} {ls : List (Option V)} {st : List V} {μ μ' : Mem} {r : Option V} {v : V} (hd : decode cc pc = .ok (.dup, 1)) (hv : ∀ x, v ≠ vl x) (k : Ev d y cc nL ret (pc + 1) ls (v :: v :: st) μ r μ') : Ev d y cc nL ret pc ls (v :: st) μ r μ' := by
  intro l R N sh ρ cT D A p e s m args below meth c H locs cells slots al hR hC hB hX hW hA hS hls hst hL
  refine lv_dup hX.1 hX.2.1 hd ?_ (k l R N sh ρ cT D A p e s m args below meth c H locs cells slots al hR hC hB hX hW hA hS hls (SV.cons hst.hd hst) hL)
  match v, hv with
  | .inl x, _ => rfl
  | .inr (.inr x), _ => rfl
  | .inr (.inl x), hv => exact absurd rfl (hv x)

theorem Ev_pop {d : Nat} {y : MethodName} {cc : ByteArray} {nL : Nat} {ret : Option FieldType} {pc : Nat} {ls : List (Option V)} {st : List V} {μ μ' : Mem} {r : Option V} {v : V} (hd : decode cc pc = .ok (.pop, 1)) (hv : ∀ x, v ≠ vl x) (k : Ev d y cc nL ret (pc + 1) ls st μ r μ') : Ev d y cc nL ret pc ls (v :: st) μ r μ' := by
  intro l R N sh ρ cT D A p e s m args below meth c H locs cells slots al hR hC hB hX hW hA hS hls hst hL
  refine lv_pop hX.1 hX.2.1 hd ?_ (k l R N sh ρ cT D A p e s m args below meth c H locs cells slots al hR hC hB hX hW hA hS hls hst.tl hL)
  match v, hv with
  | .inl x, _ => rfl
  | .inr (.inr x), _ => rfl
  | .inr (.inl x), hv => exact absurd rfl (hv x)

theorem Ev_dup2 {d : Nat} {y : MethodName} {cc : ByteArray} {nL : Nat} {ret : Option FieldType} {pc : Nat} {ls : List (Option V)} {st : List V} {μ μ' : Mem} {r : Option V} {x : Int32} {t n a : Nat} (hd : decode cc pc = .ok (.dup2, 1)) (k : Ev d y cc nL ret (pc + 1) ls (vi x :: vr t n a :: vi x :: vr t n a :: st) μ r μ') : Ev d y cc nL ret pc ls (vi x :: vr t n a :: st) μ r μ' := by
  intro l R N sh ρ cT D A p e s m args below meth c H locs cells slots al hR hC hB hX hW hA hS hls hst hL
  exact lv_dup2_11 hX.1 hX.2.1 hd rfl rfl (k l R N sh ρ cT D A p e s m args below meth c H locs cells slots al hR hC hB hX hW hA hS hls (SV.cons trivial (SV.cons hst.tl.hd hst)) hL)

theorem Ev_if_eq {d : Nat} {y : MethodName} {cc : ByteArray} {nL : Nat} {ret : Option FieldType} {pc : Nat} {ls : List (Option V)} {st : List V} {μ μ' : Mem} {r : Option V} {x : Int32} {off : Int} (tgt : Nat) (hd : decode cc pc = .ok (.ifCond .eq off, 3)) (ht : (pc : Int) + off = (tgt : Int)) (kt : (x = 0) → Ev d y cc nL ret tgt ls st μ r μ') (kf : ¬ (x = 0) → Ev d y cc nL ret (pc + 3) ls st μ r μ') : Ev d y cc nL ret pc ls (vi x :: st) μ r μ' := by
  intro l R N sh ρ cT D A p e s m args below meth c H locs cells slots al hR hC hB hX hW hA hS hls hst hL
  exact lv_if_eq hX.1 hX.2.1 hd ht (fun q => kt q l R N sh ρ cT D A p e s m args below meth c H locs cells slots al hR hC hB hX hW hA hS hls hst.tl hL) (fun q => kf q l R N sh ρ cT D A p e s m args below meth c H locs cells slots al hR hC hB hX hW hA hS hls hst.tl hL)

theorem Ev_if_ne {d : Nat} {y : MethodName} {cc : ByteArray} {nL : Nat} {ret : Option FieldType} {pc : Nat} {ls : List (Option V)} {st : List V} {μ μ' : Mem} {r : Option V} {x : Int32} {off : Int} (tgt : Nat) (hd : decode cc pc = .ok (.ifCond .ne off, 3)) (ht : (pc : Int) + off = (tgt : Int)) (kt : (x ≠ 0) → Ev d y cc nL ret tgt ls st μ r μ') (kf : (x = 0) → Ev d y cc nL ret (pc + 3) ls st μ r μ') : Ev d y cc nL ret pc ls (vi x :: st) μ r μ' := by
  intro l R N sh ρ cT D A p e s m args below meth c H locs cells slots al hR hC hB hX hW hA hS hls hst hL
  exact lv_if_ne hX.1 hX.2.1 hd ht (fun q => kt q l R N sh ρ cT D A p e s m args below meth c H locs cells slots al hR hC hB hX hW hA hS hls hst.tl hL) (fun q => kf q l R N sh ρ cT D A p e s m args below meth c H locs cells slots al hR hC hB hX hW hA hS hls hst.tl hL)

theorem Ev_if_lt {d : Nat} {y : MethodName} {cc : ByteArray} {nL : Nat} {ret : Option FieldType} {pc : Nat} {ls : List (Option V)} {st : List V} {μ μ' : Mem} {r : Option V} {x : Int32} {off : Int} (tgt : Nat) (hd : decode cc pc = .ok (.ifCond .lt off, 3)) (ht : (pc : Int) + off = (tgt : Int)) (kt : (x < 0) → Ev d y cc nL ret tgt ls st μ r μ') (kf : ¬ (x < 0) → Ev d y cc nL ret (pc + 3) ls st μ r μ') : Ev d y cc nL ret pc ls (vi x :: st) μ r μ' := by
  intro l R N sh ρ cT D A p e s m args below meth c H locs cells slots al hR hC hB hX hW hA hS hls hst hL
  exact lv_if_lt hX.1 hX.2.1 hd ht (fun q => kt q l R N sh ρ cT D A p e s m args below meth c H locs cells slots al hR hC hB hX hW hA hS hls hst.tl hL) (fun q => kf q l R N sh ρ cT D A p e s m args below meth c H locs cells slots al hR hC hB hX hW hA hS hls hst.tl hL)

theorem Ev_if_ge {d : Nat} {y : MethodName} {cc : ByteArray} {nL : Nat} {ret : Option FieldType} {pc : Nat} {ls : List (Option V)} {st : List V} {μ μ' : Mem} {r : Option V} {x : Int32} {off : Int} (tgt : Nat) (hd : decode cc pc = .ok (.ifCond .ge off, 3)) (ht : (pc : Int) + off = (tgt : Int)) (kt : (0 ≤ x) → Ev d y cc nL ret tgt ls st μ r μ') (kf : ¬ (0 ≤ x) → Ev d y cc nL ret (pc + 3) ls st μ r μ') : Ev d y cc nL ret pc ls (vi x :: st) μ r μ' := by
  intro l R N sh ρ cT D A p e s m args below meth c H locs cells slots al hR hC hB hX hW hA hS hls hst hL
  exact lv_if_ge hX.1 hX.2.1 hd ht (fun q => kt q l R N sh ρ cT D A p e s m args below meth c H locs cells slots al hR hC hB hX hW hA hS hls hst.tl hL) (fun q => kf q l R N sh ρ cT D A p e s m args below meth c H locs cells slots al hR hC hB hX hW hA hS hls hst.tl hL)

theorem Ev_if_gt {d : Nat} {y : MethodName} {cc : ByteArray} {nL : Nat} {ret : Option FieldType} {pc : Nat} {ls : List (Option V)} {st : List V} {μ μ' : Mem} {r : Option V} {x : Int32} {off : Int} (tgt : Nat) (hd : decode cc pc = .ok (.ifCond .gt off, 3)) (ht : (pc : Int) + off = (tgt : Int)) (kt : (0 < x) → Ev d y cc nL ret tgt ls st μ r μ') (kf : ¬ (0 < x) → Ev d y cc nL ret (pc + 3) ls st μ r μ') : Ev d y cc nL ret pc ls (vi x :: st) μ r μ' := by
  intro l R N sh ρ cT D A p e s m args below meth c H locs cells slots al hR hC hB hX hW hA hS hls hst hL
  exact lv_if_gt hX.1 hX.2.1 hd ht (fun q => kt q l R N sh ρ cT D A p e s m args below meth c H locs cells slots al hR hC hB hX hW hA hS hls hst.tl hL) (fun q => kf q l R N sh ρ cT D A p e s m args below meth c H locs cells slots al hR hC hB hX hW hA hS hls hst.tl hL)

theorem Ev_if_le {d : Nat} {y : MethodName} {cc : ByteArray} {nL : Nat} {ret : Option FieldType} {pc : Nat} {ls : List (Option V)} {st : List V} {μ μ' : Mem} {r : Option V} {x : Int32} {off : Int} (tgt : Nat) (hd : decode cc pc = .ok (.ifCond .le off, 3)) (ht : (pc : Int) + off = (tgt : Int)) (kt : (x ≤ 0) → Ev d y cc nL ret tgt ls st μ r μ') (kf : ¬ (x ≤ 0) → Ev d y cc nL ret (pc + 3) ls st μ r μ') : Ev d y cc nL ret pc ls (vi x :: st) μ r μ' := by
  intro l R N sh ρ cT D A p e s m args below meth c H locs cells slots al hR hC hB hX hW hA hS hls hst hL
  exact lv_if_le hX.1 hX.2.1 hd ht (fun q => kt q l R N sh ρ cT D A p e s m args below meth c H locs cells slots al hR hC hB hX hW hA hS hls hst.tl hL) (fun q => kf q l R N sh ρ cT D A p e s m args below meth c H locs cells slots al hR hC hB hX hW hA hS hls hst.tl hL)

theorem Ev_icmp_eq {d : Nat} {y : MethodName} {cc : ByteArray} {nL : Nat} {ret : Option FieldType} {pc : Nat} {ls : List (Option V)} {st : List V} {μ μ' : Mem} {r : Option V} {x z : Int32} {off : Int} (tgt : Nat) (hd : decode cc pc = .ok (.if_icmp .eq off, 3)) (ht : (pc : Int) + off = (tgt : Int)) (kt : (x = z) → Ev d y cc nL ret tgt ls st μ r μ') (kf : ¬ (x = z) → Ev d y cc nL ret (pc + 3) ls st μ r μ') : Ev d y cc nL ret pc ls (vi z :: vi x :: st) μ r μ' := by
  intro l R N sh ρ cT D A p e s m args below meth c H locs cells slots al hR hC hB hX hW hA hS hls hst hL
  exact lv_icmp_eq hX.1 hX.2.1 hd ht (fun q => kt q l R N sh ρ cT D A p e s m args below meth c H locs cells slots al hR hC hB hX hW hA hS hls hst.tl.tl hL) (fun q => kf q l R N sh ρ cT D A p e s m args below meth c H locs cells slots al hR hC hB hX hW hA hS hls hst.tl.tl hL)

theorem Ev_icmp_ne {d : Nat} {y : MethodName} {cc : ByteArray} {nL : Nat} {ret : Option FieldType} {pc : Nat} {ls : List (Option V)} {st : List V} {μ μ' : Mem} {r : Option V} {x z : Int32} {off : Int} (tgt : Nat) (hd : decode cc pc = .ok (.if_icmp .ne off, 3)) (ht : (pc : Int) + off = (tgt : Int)) (kt : (x ≠ z) → Ev d y cc nL ret tgt ls st μ r μ') (kf : (x = z) → Ev d y cc nL ret (pc + 3) ls st μ r μ') : Ev d y cc nL ret pc ls (vi z :: vi x :: st) μ r μ' := by
  intro l R N sh ρ cT D A p e s m args below meth c H locs cells slots al hR hC hB hX hW hA hS hls hst hL
  exact lv_icmp_ne hX.1 hX.2.1 hd ht (fun q => kt q l R N sh ρ cT D A p e s m args below meth c H locs cells slots al hR hC hB hX hW hA hS hls hst.tl.tl hL) (fun q => kf q l R N sh ρ cT D A p e s m args below meth c H locs cells slots al hR hC hB hX hW hA hS hls hst.tl.tl hL)

theorem Ev_icmp_lt {d : Nat} {y : MethodName} {cc : ByteArray} {nL : Nat} {ret : Option FieldType} {pc : Nat} {ls : List (Option V)} {st : List V} {μ μ' : Mem} {r : Option V} {x z : Int32} {off : Int} (tgt : Nat) (hd : decode cc pc = .ok (.if_icmp .lt off, 3)) (ht : (pc : Int) + off = (tgt : Int)) (kt : (x < z) → Ev d y cc nL ret tgt ls st μ r μ') (kf : ¬ (x < z) → Ev d y cc nL ret (pc + 3) ls st μ r μ') : Ev d y cc nL ret pc ls (vi z :: vi x :: st) μ r μ' := by
  intro l R N sh ρ cT D A p e s m args below meth c H locs cells slots al hR hC hB hX hW hA hS hls hst hL
  exact lv_icmp_lt hX.1 hX.2.1 hd ht (fun q => kt q l R N sh ρ cT D A p e s m args below meth c H locs cells slots al hR hC hB hX hW hA hS hls hst.tl.tl hL) (fun q => kf q l R N sh ρ cT D A p e s m args below meth c H locs cells slots al hR hC hB hX hW hA hS hls hst.tl.tl hL)

theorem Ev_icmp_ge {d : Nat} {y : MethodName} {cc : ByteArray} {nL : Nat} {ret : Option FieldType} {pc : Nat} {ls : List (Option V)} {st : List V} {μ μ' : Mem} {r : Option V} {x z : Int32} {off : Int} (tgt : Nat) (hd : decode cc pc = .ok (.if_icmp .ge off, 3)) (ht : (pc : Int) + off = (tgt : Int)) (kt : (z ≤ x) → Ev d y cc nL ret tgt ls st μ r μ') (kf : ¬ (z ≤ x) → Ev d y cc nL ret (pc + 3) ls st μ r μ') : Ev d y cc nL ret pc ls (vi z :: vi x :: st) μ r μ' := by
  intro l R N sh ρ cT D A p e s m args below meth c H locs cells slots al hR hC hB hX hW hA hS hls hst hL
  exact lv_icmp_ge hX.1 hX.2.1 hd ht (fun q => kt q l R N sh ρ cT D A p e s m args below meth c H locs cells slots al hR hC hB hX hW hA hS hls hst.tl.tl hL) (fun q => kf q l R N sh ρ cT D A p e s m args below meth c H locs cells slots al hR hC hB hX hW hA hS hls hst.tl.tl hL)

theorem Ev_icmp_gt {d : Nat} {y : MethodName} {cc : ByteArray} {nL : Nat} {ret : Option FieldType} {pc : Nat} {ls : List (Option V)} {st : List V} {μ μ' : Mem} {r : Option V} {x z : Int32} {off : Int} (tgt : Nat) (hd : decode cc pc = .ok (.if_icmp .gt off, 3)) (ht : (pc : Int) + off = (tgt : Int)) (kt : (z < x) → Ev d y cc nL ret tgt ls st μ r μ') (kf : ¬ (z < x) → Ev d y cc nL ret (pc + 3) ls st μ r μ') : Ev d y cc nL ret pc ls (vi z :: vi x :: st) μ r μ' := by
  intro l R N sh ρ cT D A p e s m args below meth c H locs cells slots al hR hC hB hX hW hA hS hls hst hL
  exact lv_icmp_gt hX.1 hX.2.1 hd ht (fun q => kt q l R N sh ρ cT D A p e s m args below meth c H locs cells slots al hR hC hB hX hW hA hS hls hst.tl.tl hL) (fun q => kf q l R N sh ρ cT D A p e s m args below meth c H locs cells slots al hR hC hB hX hW hA hS hls hst.tl.tl hL)

theorem Ev_icmp_le {d : Nat} {y : MethodName} {cc : ByteArray} {nL : Nat} {ret : Option FieldType} {pc : Nat} {ls : List (Option V)} {st : List V} {μ μ' : Mem} {r : Option V} {x z : Int32} {off : Int} (tgt : Nat) (hd : decode cc pc = .ok (.if_icmp .le off, 3)) (ht : (pc : Int) + off = (tgt : Int)) (kt : (x ≤ z) → Ev d y cc nL ret tgt ls st μ r μ') (kf : ¬ (x ≤ z) → Ev d y cc nL ret (pc + 3) ls st μ r μ') : Ev d y cc nL ret pc ls (vi z :: vi x :: st) μ r μ' := by
  intro l R N sh ρ cT D A p e s m args below meth c H locs cells slots al hR hC hB hX hW hA hS hls hst hL
  exact lv_icmp_le hX.1 hX.2.1 hd ht (fun q => kt q l R N sh ρ cT D A p e s m args below meth c H locs cells slots al hR hC hB hX hW hA hS hls hst.tl.tl hL) (fun q => kf q l R N sh ρ cT D A p e s m args below meth c H locs cells slots al hR hC hB hX hW hA hS hls hst.tl.tl hL)

theorem Ev_goto {d : Nat} {y : MethodName} {cc : ByteArray} {nL : Nat} {ret : Option FieldType} {pc : Nat} {ls : List (Option V)} {st : List V} {μ μ' : Mem} {r : Option V} {off : Int} (tgt : Nat) (hd : decode cc pc = .ok (.goto off, 3)) (ht : (pc : Int) + off = (tgt : Int)) (k : Ev d y cc nL ret tgt ls st μ r μ') : Ev d y cc nL ret pc ls st μ r μ' := by
  intro l R N sh ρ cT D A p e s m args below meth c H locs cells slots al hR hC hB hX hW hA hS hls hst hL
  exact lv_goto hX.1 hX.2.1 hd ht (k l R N sh ρ cT D A p e s m args below meth c H locs cells slots al hR hC hB hX hW hA hS hls hst hL)

theorem Ev_tabIn {d : Nat} {y : MethodName} {cc : ByteArray} {nL : Nat} {ret : Option FieldType} {pc : Nat} {ls : List (Option V)} {st : List V} {μ μ' : Mem} {r : Option V} {dflt lo hi : Int} {offs : Array Int} {len : Nat} {x : Int32} {off : Int} (tgt : Nat) (hd : decode cc pc = .ok (.tableswitch dflt lo hi offs, len)) (h1 : ¬ x.toInt < lo) (h2 : ¬ hi < x.toInt) (ho : offs[(x.toInt - lo).toNat]? = some off) (ht : (pc : Int) + off = (tgt : Int)) (k : Ev d y cc nL ret tgt ls st μ r μ') : Ev d y cc nL ret pc ls (vi x :: st) μ r μ' := by
  intro l R N sh ρ cT D A p e s m args below meth c H locs cells slots al hR hC hB hX hW hA hS hls hst hL
  exact lv_tableIn hX.1 hX.2.1 hd h1 h2 ho ht (k l R N sh ρ cT D A p e s m args below meth c H locs cells slots al hR hC hB hX hW hA hS hls hst.tl hL)

theorem Ev_tabOut {d : Nat} {y : MethodName} {cc : ByteArray} {nL : Nat} {ret : Option FieldType} {pc : Nat} {ls : List (Option V)} {st : List V} {μ μ' : Mem} {r : Option V} {dflt lo hi : Int} {offs : Array Int} {len : Nat} {x : Int32} (tgt : Nat) (hd : decode cc pc = .ok (.tableswitch dflt lo hi offs, len)) (h : x.toInt < lo ∨ hi < x.toInt) (ht : (pc : Int) + dflt = (tgt : Int)) (k : Ev d y cc nL ret tgt ls st μ r μ') : Ev d y cc nL ret pc ls (vi x :: st) μ r μ' := by
  intro l R N sh ρ cT D A p e s m args below meth c H locs cells slots al hR hC hB hX hW hA hS hls hst hL
  exact lv_tableOut hX.1 hX.2.1 hd h ht (k l R N sh ρ cT D A p e s m args below meth c H locs cells slots al hR hC hB hX hW hA hS hls hst.tl hL)

theorem Ev_lcmp {d : Nat} {y : MethodName} {cc : ByteArray} {nL : Nat} {ret : Option FieldType} {pc : Nat} {ls : List (Option V)} {st : List V} {μ μ' : Mem} {r : Option V} {x z : Int64} (hd : decode cc pc = .ok (.lcmp, 1)) (k : Ev d y cc nL ret (pc + 1) ls (vi (lg_cmp x z) :: st) μ r μ') : Ev d y cc nL ret pc ls (vl z :: vl x :: st) μ r μ' := by
  intro l R N sh ρ cT D A p e s m args below meth c H locs cells slots al hR hC hB hX hW hA hS hls hst hL
  exact W.lcmp hX.1 hX.2.1 hd (k l R N sh ρ cT D A p e s m args below meth c H locs cells slots al hR hC hB hX hW hA hS hls (SV.cons trivial hst.tl.tl) hL)

theorem Ev_iret {d : Nat} {y : MethodName} {cc : ByteArray} {nL : Nat} {ret : Option FieldType} {pc : Nat} {ls : List (Option V)} {st : List V} {μ μ' : Mem} {r : Option V} {x : Int32} {ty : FieldType} (hr : ret = some ty) (hd : decode cc pc = .ok (.ireturn, 1)) (hn : narrow ty (.int x) = .int x) : Ev d y cc nL ret pc ls [vi x] μ (some (vi x)) μ := by
  intro l R N sh ρ cT D A p e s m args below meth c H locs cells slots al hR hC hB hX hW hA hS hls hst hL
  exact W.zret hX.1 hX.2.1 (hX.2.2.2.1.trans hr) hn (fun t ht hw => ⟨rfl, ⟨by rw [ht]; exact hW.1, va_K.moved hw.alike hW.2.1, hW.2.2⟩, hS.F ht, fun v hv => by cases hv; trivial⟩) hS.2.2 hd hX.2.2.2.2.2.2

theorem Ev_lret {d : Nat} {y : MethodName} {cc : ByteArray} {nL : Nat} {ret : Option FieldType} {pc : Nat} {ls : List (Option V)} {st : List V} {μ μ' : Mem} {r : Option V} {x : Int64} (hr : ret = some .long) (hd : decode cc pc = .ok (.lreturn, 1)) : Ev d y cc nL ret pc ls [vl x] μ (some (vl x)) μ := by
  intro l R N sh ρ cT D A p e s m args below meth c H locs cells slots al hR hC hB hX hW hA hS hls hst hL
  exact W.lret hX.1 hX.2.1 (hX.2.2.2.1.trans hr) (fun t ht hw => ⟨rfl, ⟨by rw [ht]; exact hW.1, va_K.moved hw.alike hW.2.1, hW.2.2⟩, hS.F ht, fun v hv => by cases hv; trivial⟩) hS.2.2 hd hX.2.2.2.2.2.2

theorem Ev_vret {d : Nat} {y : MethodName} {cc : ByteArray} {nL : Nat} {ret : Option FieldType} {pc : Nat} {ls : List (Option V)} {st : List V} {μ μ' : Mem} {r : Option V} (hr : ret = none) (hd : decode cc pc = .ok (.return_, 1)) : Ev d y cc nL ret pc ls [] μ none μ := by
  intro l R N sh ρ cT D A p e s m args below meth c H locs cells slots al hR hC hB hX hW hA hS hls hst hL
  exact W.vret hX.1 hX.2.1 (hX.2.2.2.1.trans hr) (fun t ht hw => ⟨rfl, ⟨by rw [ht]; exact hW.1, va_K.moved hw.alike hW.2.1, hW.2.2⟩, hS.F ht, fun v hv => by cases hv⟩) hS.2.2 hd hX.2.2.2.2.2.2

theorem Ev_aret {d : Nat} {y : MethodName} {cc : ByteArray} {nL : Nat} {ret : Option FieldType} {pc : Nat} {ls : List (Option V)} {st : List V} {μ μ' : Mem} {r : Option V} {t n a : Nat} {C : String} (hr : ret = some (.object C)) (hd : decode cc pc = .ok (.areturn, 1)) : Ev d y cc nL ret pc ls [vr t n a] μ (some (vr t n a)) μ := by
  intro l R N sh ρ cT D A p e s m args below meth c H locs cells slots al hR hC hB hX hW hA hS hls hst hL
  exact W.aret (v := toV ρ (vr t n a)) hX.1 hX.2.1 (hX.2.2.2.1.trans hr) (Or.inl ⟨_, rfl⟩) (Or.inr ⟨_, rfl⟩) (fun t ht hw => ⟨rfl, ⟨by rw [ht]; exact hW.1, va_K.moved hw.alike hW.2.1, hW.2.2⟩, hS.F ht, fun v hv => by cases hv; exact hst.hd⟩) hS.2.2 hd hX.2.2.2.2.2.2
