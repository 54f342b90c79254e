theorem d_MD_add_0 : decode c_MD_add 0 = .ok (.aload_n 0, 1) := by decide +kernel
theorem d_MD_add_1 : decode c_MD_add 1 = .ok (.dup, 1) := by decide +kernel
theorem d_MD_add_2 : decode c_MD_add 2 = .ok (.getfield 63, 3) := by decide +kernel
theorem d_MD_add_5 : decode c_MD_add 5 = .ok (.iconst 1, 1) := by decide +kernel
theorem d_MD_add_6 : decode c_MD_add 6 = .ok (.iadd, 1) := by decide +kernel
theorem d_MD_add_7 : decode c_MD_add 7 = .ok (.putfield 63, 3) := by decide +kernel
theorem d_MD_add_10 : decode c_MD_add 10 = .ok (.aload_n 0, 1) := by decide +kernel
theorem d_MD_add_11 : decode c_MD_add 11 = .ok (.getfield 13, 3) := by decide +kernel
theorem d_MD_add_14 : decode c_MD_add 14 = .ok (.iconst 4, 1) := by decide +kernel
theorem d_MD_add_15 : decode c_MD_add 15 = .ok (.aload_n 0, 1) := by decide +kernel
theorem d_MD_add_16 : decode c_MD_add 16 = .ok (.getfield 63, 3) := by decide +kernel
theorem d_MD_add_19 : decode c_MD_add 19 = .ok (.imul, 1) := by decide +kernel
theorem d_MD_add_20 : decode c_MD_add 20 = .ok (.iload_n 1, 1) := by decide +kernel
theorem d_MD_add_21 : decode c_MD_add 21 = .ok (.iastore, 1) := by decide +kernel
theorem d_MD_add_22 : decode c_MD_add 22 = .ok (.aload_n 0, 1) := by decide +kernel
theorem d_MD_add_23 : decode c_MD_add 23 = .ok (.getfield 13, 3) := by decide +kernel
theorem d_MD_add_26 : decode c_MD_add 26 = .ok (.iconst 4, 1) := by decide +kernel
theorem d_MD_add_27 : decode c_MD_add 27 = .ok (.aload_n 0, 1) := by decide +kernel
theorem d_MD_add_28 : decode c_MD_add 28 = .ok (.getfield 63, 3) := by decide +kernel
theorem d_MD_add_31 : decode c_MD_add 31 = .ok (.imul, 1) := by decide +kernel
theorem d_MD_add_32 : decode c_MD_add 32 = .ok (.iconst 1, 1) := by decide +kernel
theorem d_MD_add_33 : decode c_MD_add 33 = .ok (.iadd, 1) := by decide +kernel
theorem d_MD_add_34 : decode c_MD_add 34 = .ok (.iload_n 2, 1) := by decide +kernel
theorem d_MD_add_35 : decode c_MD_add 35 = .ok (.iastore, 1) := by decide +kernel
theorem d_MD_add_36 : decode c_MD_add 36 = .ok (.aload_n 0, 1) := by decide +kernel
theorem d_MD_add_37 : decode c_MD_add 37 = .ok (.getfield 13, 3) := by decide +kernel
theorem d_MD_add_40 : decode c_MD_add 40 = .ok (.iconst 4, 1) := by decide +kernel
theorem d_MD_add_41 : decode c_MD_add 41 = .ok (.aload_n 0, 1) := by decide +kernel
theorem d_MD_add_42 : decode c_MD_add 42 = .ok (.getfield 63, 3) := by decide +kernel
theorem d_MD_add_45 : decode c_MD_add 45 = .ok (.imul, 1) := by decide +kernel
theorem d_MD_add_46 : decode c_MD_add 46 = .ok (.iconst 2, 1) := by decide +kernel
theorem d_MD_add_47 : decode c_MD_add 47 = .ok (.iadd, 1) := by decide +kernel
theorem d_MD_add_48 : decode c_MD_add 48 = .ok (.iload_n 3, 1) := by decide +kernel
theorem d_MD_add_49 : decode c_MD_add 49 = .ok (.iastore, 1) := by decide +kernel
theorem d_MD_add_50 : decode c_MD_add 50 = .ok (.aload_n 0, 1) := by decide +kernel
theorem d_MD_add_51 : decode c_MD_add 51 = .ok (.getfield 13, 3) := by decide +kernel
theorem d_MD_add_54 : decode c_MD_add 54 = .ok (.iconst 4, 1) := by decide +kernel
theorem d_MD_add_55 : decode c_MD_add 55 = .ok (.aload_n 0, 1) := by decide +kernel
theorem d_MD_add_56 : decode c_MD_add 56 = .ok (.getfield 63, 3) := by decide +kernel
theorem d_MD_add_59 : decode c_MD_add 59 = .ok (.imul, 1) := by decide +kernel
theorem d_MD_add_60 : decode c_MD_add 60 = .ok (.iconst 3, 1) := by decide +kernel
theorem d_MD_add_61 : decode c_MD_add 61 = .ok (.iadd, 1) := by decide +kernel
theorem d_MD_add_62 : decode c_MD_add 62 = .ok (.iload 4, 2) := by decide +kernel
theorem d_MD_add_64 : decode c_MD_add 64 = .ok (.iastore, 1) := by decide +kernel
theorem d_MD_add_65 : decode c_MD_add 65 = .ok (.aload_n 0, 1) := by decide +kernel
theorem d_MD_add_66 : decode c_MD_add 66 = .ok (.getfield 63, 3) := by decide +kernel
theorem d_MD_add_69 : decode c_MD_add 69 = .ok (.ireturn, 1) := by decide +kernel
theorem d_MD_plant_0 : decode c_MD_plant 0 = .ok (.bipush 40, 2) := by decide +kernel
theorem d_MD_plant_2 : decode c_MD_plant 2 = .ok (.iload_n 2, 1) := by decide +kernel
theorem d_MD_plant_3 : decode c_MD_plant 3 = .ok (.imul, 1) := by decide +kernel
theorem d_MD_plant_4 : decode c_MD_plant 4 = .ok (.iload_n 1, 1) := by decide +kernel
theorem d_MD_plant_5 : decode c_MD_plant 5 = .ok (.iadd, 1) := by decide +kernel
theorem d_MD_plant_6 : decode c_MD_plant 6 = .ok (.istore 4, 2) := by decide +kernel
theorem d_MD_plant_8 : decode c_MD_plant 8 = .ok (.aload_n 0, 1) := by decide +kernel
theorem d_MD_plant_9 : decode c_MD_plant 9 = .ok (.getfield 20, 3) := by decide +kernel
theorem d_MD_plant_12 : decode c_MD_plant 12 = .ok (.iload 4, 2) := by decide +kernel
theorem d_MD_plant_14 : decode c_MD_plant 14 = .ok (.iload_n 3, 1) := by decide +kernel
theorem d_MD_plant_15 : decode c_MD_plant 15 = .ok (.iastore, 1) := by decide +kernel
theorem d_MD_plant_16 : decode c_MD_plant 16 = .ok (.aload_n 0, 1) := by decide +kernel
theorem d_MD_plant_17 : decode c_MD_plant 17 = .ok (.getfield 23, 3) := by decide +kernel
theorem d_MD_plant_20 : decode c_MD_plant 20 = .ok (.iload 4, 2) := by decide +kernel
theorem d_MD_plant_22 : decode c_MD_plant 22 = .ok (.iconst 0, 1) := by decide +kernel
theorem d_MD_plant_23 : decode c_MD_plant 23 = .ok (.iastore, 1) := by decide +kernel
theorem d_MD_plant_24 : decode c_MD_plant 24 = .ok (.aload_n 0, 1) := by decide +kernel
theorem d_MD_plant_25 : decode c_MD_plant 25 = .ok (.getfield 26, 3) := by decide +kernel
theorem d_MD_plant_28 : decode c_MD_plant 28 = .ok (.iload 4, 2) := by decide +kernel
theorem d_MD_plant_30 : decode c_MD_plant 30 = .ok (.iconst 1, 1) := by decide +kernel
theorem d_MD_plant_31 : decode c_MD_plant 31 = .ok (.iastore, 1) := by decide +kernel
theorem d_MD_plant_32 : decode c_MD_plant 32 = .ok (.aload_n 0, 1) := by decide +kernel
theorem d_MD_plant_33 : decode c_MD_plant 33 = .ok (.dup, 1) := by decide +kernel
theorem d_MD_plant_34 : decode c_MD_plant 34 = .ok (.getfield 98, 3) := by decide +kernel
theorem d_MD_plant_37 : decode c_MD_plant 37 = .ok (.iconst 1, 1) := by decide +kernel
theorem d_MD_plant_38 : decode c_MD_plant 38 = .ok (.iadd, 1) := by decide +kernel
theorem d_MD_plant_39 : decode c_MD_plant 39 = .ok (.putfield 98, 3) := by decide +kernel
theorem d_MD_plant_42 : decode c_MD_plant 42 = .ok (.return_, 1) := by decide +kernel
theorem d_MD_clear_0 : decode c_MD_clear 0 = .ok (.aload_n 0, 1) := by decide +kernel
theorem d_MD_clear_1 : decode c_MD_clear 1 = .ok (.iconst 0, 1) := by decide +kernel
theorem d_MD_clear_2 : decode c_MD_clear 2 = .ok (.putfield 56, 3) := by decide +kernel
theorem d_MD_clear_5 : decode c_MD_clear 5 = .ok (.aload_n 0, 1) := by decide +kernel
theorem d_MD_clear_6 : decode c_MD_clear 6 = .ok (.getfield 98, 3) := by decide +kernel
theorem d_MD_clear_9 : decode c_MD_clear 9 = .ok (.istore_n 1, 1) := by decide +kernel
theorem d_MD_clear_10 : decode c_MD_clear 10 = .ok (.aload_n 0, 1) := by decide +kernel
theorem d_MD_clear_11 : decode c_MD_clear 11 = .ok (.invokevirtual 121, 3) := by decide +kernel
theorem d_MD_clear_14 : decode c_MD_clear 14 = .ok (.iload_n 1, 1) := by decide +kernel
theorem d_MD_clear_15 : decode c_MD_clear 15 = .ok (.ireturn, 1) := by decide +kernel
theorem d_MD_wipe_0 : decode c_MD_wipe 0 = .ok (.iconst 0, 1) := by decide +kernel
theorem d_MD_wipe_1 : decode c_MD_wipe 1 = .ok (.istore_n 1, 1) := by decide +kernel
theorem d_MD_wipe_2 : decode c_MD_wipe 2 = .ok (.iload_n 1, 1) := by decide +kernel
theorem d_MD_wipe_3 : decode c_MD_wipe 3 = .ok (.sipush 1600, 3) := by decide +kernel
theorem d_MD_wipe_6 : decode c_MD_wipe 6 = .ok (.if_icmp .ge 16, 3) := by decide +kernel
theorem d_MD_wipe_9 : decode c_MD_wipe 9 = .ok (.aload_n 0, 1) := by decide +kernel
theorem d_MD_wipe_10 : decode c_MD_wipe 10 = .ok (.getfield 20, 3) := by decide +kernel
theorem d_MD_wipe_13 : decode c_MD_wipe 13 = .ok (.iload_n 1, 1) := by decide +kernel
theorem d_MD_wipe_14 : decode c_MD_wipe 14 = .ok (.iconst 0, 1) := by decide +kernel
theorem d_MD_wipe_15 : decode c_MD_wipe 15 = .ok (.iastore, 1) := by decide +kernel
theorem d_MD_wipe_16 : decode c_MD_wipe 16 = .ok (.iinc 1 1, 3) := by decide +kernel
theorem d_MD_wipe_19 : decode c_MD_wipe 19 = .ok (.goto (-17), 3) := by decide +kernel
theorem d_MD_wipe_22 : decode c_MD_wipe 22 = .ok (.aload_n 0, 1) := by decide +kernel
theorem d_MD_wipe_23 : decode c_MD_wipe 23 = .ok (.iconst 0, 1) := by decide +kernel
theorem d_MD_wipe_24 : decode c_MD_wipe 24 = .ok (.putfield 98, 3) := by decide +kernel
theorem d_MD_wipe_27 : decode c_MD_wipe 27 = .ok (.aload_n 0, 1) := by decide +kernel
theorem d_MD_wipe_28 : decode c_MD_wipe 28 = .ok (.iconst 0, 1) := by decide +kernel
theorem d_MD_wipe_29 : decode c_MD_wipe 29 = .ok (.putfield 101, 3) := by decide +kernel
theorem d_MD_wipe_32 : decode c_MD_wipe 32 = .ok (.return_, 1) := by decide +kernel
theorem d_MD_reset_0 : decode c_MD_reset 0 = .ok (.aload_n 0, 1) := by decide +kernel
theorem d_MD_reset_1 : decode c_MD_reset 1 = .ok (.iconst 0, 1) := by decide +kernel
theorem d_MD_reset_2 : decode c_MD_reset 2 = .ok (.putfield 56, 3) := by decide +kernel
theorem d_MD_reset_5 : decode c_MD_reset 5 = .ok (.aload_n 0, 1) := by decide +kernel
theorem d_MD_reset_6 : decode c_MD_reset 6 = .ok (.invokevirtual 121, 3) := by decide +kernel
theorem d_MD_reset_9 : decode c_MD_reset 9 = .ok (.aload_n 0, 1) := by decide +kernel
theorem d_MD_reset_10 : decode c_MD_reset 10 = .ok (.iconst 0, 1) := by decide +kernel
theorem d_MD_reset_11 : decode c_MD_reset 11 = .ok (.putfield 63, 3) := by decide +kernel
theorem d_MD_reset_14 : decode c_MD_reset 14 = .ok (.iconst 0, 1) := by decide +kernel
theorem d_MD_reset_15 : decode c_MD_reset 15 = .ok (.istore_n 1, 1) := by decide +kernel
theorem d_MD_reset_16 : decode c_MD_reset 16 = .ok (.iload_n 1, 1) := by decide +kernel
theorem d_MD_reset_17 : decode c_MD_reset 17 = .ok (.bipush 100, 2) := by decide +kernel
theorem d_MD_reset_19 : decode c_MD_reset 19 = .ok (.if_icmp .ge 16, 3) := by decide +kernel
theorem d_MD_reset_22 : decode c_MD_reset 22 = .ok (.aload_n 0, 1) := by decide +kernel
theorem d_MD_reset_23 : decode c_MD_reset 23 = .ok (.getfield 7, 3) := by decide +kernel
theorem d_MD_reset_26 : decode c_MD_reset 26 = .ok (.iload_n 1, 1) := by decide +kernel
theorem d_MD_reset_27 : decode c_MD_reset 27 = .ok (.iconst 0, 1) := by decide +kernel
theorem d_MD_reset_28 : decode c_MD_reset 28 = .ok (.iastore, 1) := by decide +kernel
theorem d_MD_reset_29 : decode c_MD_reset 29 = .ok (.iinc 1 1, 3) := by decide +kernel
theorem d_MD_reset_32 : decode c_MD_reset 32 = .ok (.goto (-16), 3) := by decide +kernel
theorem d_MD_reset_35 : decode c_MD_reset 35 = .ok (.aload_n 0, 1) := by decide +kernel
theorem d_MD_reset_36 : decode c_MD_reset 36 = .ok (.iconst 2, 1) := by decide +kernel
theorem d_MD_reset_37 : decode c_MD_reset 37 = .ok (.putfield 16, 3) := by decide +kernel
theorem d_MD_reset_40 : decode c_MD_reset 40 = .ok (.return_, 1) := by decide +kernel
theorem d_MD_put_0 : decode c_MD_put 0 = .ok (.aload_n 0, 1) := by decide +kernel
theorem d_MD_put_1 : decode c_MD_put 1 = .ok (.getfield 23, 3) := by decide +kernel
theorem d_MD_put_4 : decode c_MD_put 4 = .ok (.iload_n 1, 1) := by decide +kernel
theorem d_MD_put_5 : decode c_MD_put 5 = .ok (.iconst 0, 1) := by decide +kernel
theorem d_MD_put_6 : decode c_MD_put 6 = .ok (.iastore, 1) := by decide +kernel
theorem d_MD_put_7 : decode c_MD_put 7 = .ok (.iconst 0, 1) := by decide +kernel
theorem d_MD_put_8 : decode c_MD_put 8 = .ok (.istore_n 3, 1) := by decide +kernel
theorem d_MD_put_9 : decode c_MD_put 9 = .ok (.iload_n 3, 1) := by decide +kernel
theorem d_MD_put_10 : decode c_MD_put 10 = .ok (.iconst 4, 1) := by decide +kernel
theorem d_MD_put_11 : decode c_MD_put 11 = .ok (.if_icmp .ge 39, 3) := by decide +kernel
theorem d_MD_put_14 : decode c_MD_put 14 = .ok (.aload_n 0, 1) := by decide +kernel
theorem d_MD_put_15 : decode c_MD_put 15 = .ok (.getfield 23, 3) := by decide +kernel
theorem d_MD_put_18 : decode c_MD_put 18 = .ok (.iload_n 1, 1) := by decide +kernel
theorem d_MD_put_19 : decode c_MD_put 19 = .ok (.dup2, 1) := by decide +kernel
theorem d_MD_put_20 : decode c_MD_put 20 = .ok (.iaload, 1) := by decide +kernel
theorem d_MD_put_21 : decode c_MD_put 21 = .ok (.aload_n 0, 1) := by decide +kernel
theorem d_MD_put_22 : decode c_MD_put 22 = .ok (.aload_n 0, 1) := by decide +kernel
theorem d_MD_put_23 : decode c_MD_put 23 = .ok (.getfield 20, 3) := by decide +kernel
theorem d_MD_put_26 : decode c_MD_put 26 = .ok (.iload_n 1, 1) := by decide +kernel
theorem d_MD_put_27 : decode c_MD_put 27 = .ok (.iload_n 2, 1) := by decide +kernel
theorem d_MD_put_28 : decode c_MD_put 28 = .ok (.iload_n 3, 1) := by decide +kernel
theorem d_MD_put_29 : decode c_MD_put 29 = .ok (.invokevirtual 77, 3) := by decide +kernel
theorem d_MD_put_32 : decode c_MD_put 32 = .ok (.ifCond .le 9, 3) := by decide +kernel
theorem d_MD_put_35 : decode c_MD_put 35 = .ok (.iconst 1, 1) := by decide +kernel
theorem d_MD_put_36 : decode c_MD_put 36 = .ok (.iload_n 3, 1) := by decide +kernel
theorem d_MD_put_37 : decode c_MD_put 37 = .ok (.ishl, 1) := by decide +kernel
theorem d_MD_put_38 : decode c_MD_put 38 = .ok (.goto 4, 3) := by decide +kernel
theorem d_MD_put_41 : decode c_MD_put 41 = .ok (.iconst 0, 1) := by decide +kernel
theorem d_MD_put_42 : decode c_MD_put 42 = .ok (.iadd, 1) := by decide +kernel
theorem d_MD_put_43 : decode c_MD_put 43 = .ok (.iastore, 1) := by decide +kernel
theorem d_MD_put_44 : decode c_MD_put 44 = .ok (.iinc 3 1, 3) := by decide +kernel
theorem d_MD_put_47 : decode c_MD_put 47 = .ok (.goto (-38), 3) := by decide +kernel
theorem d_MD_put_50 : decode c_MD_put 50 = .ok (.aload_n 0, 1) := by decide +kernel
theorem d_MD_put_51 : decode c_MD_put 51 = .ok (.getfield 20, 3) := by decide +kernel
theorem d_MD_put_54 : decode c_MD_put 54 = .ok (.iload_n 1, 1) := by decide +kernel
theorem d_MD_put_55 : decode c_MD_put 55 = .ok (.iload_n 2, 1) := by decide +kernel
theorem d_MD_put_56 : decode c_MD_put 56 = .ok (.iastore, 1) := by decide +kernel
theorem d_MD_put_57 : decode c_MD_put 57 = .ok (.aload_n 0, 1) := by decide +kernel
theorem d_MD_put_58 : decode c_MD_put 58 = .ok (.getfield 26, 3) := by decide +kernel
theorem d_MD_put_61 : decode c_MD_put 61 = .ok (.iload_n 1, 1) := by decide +kernel
theorem d_MD_put_62 : decode c_MD_put 62 = .ok (.iconst 0, 1) := by decide +kernel
theorem d_MD_put_63 : decode c_MD_put 63 = .ok (.iastore, 1) := by decide +kernel
theorem d_MD_put_64 : decode c_MD_put 64 = .ok (.aload_n 0, 1) := by decide +kernel
theorem d_MD_put_65 : decode c_MD_put 65 = .ok (.dup, 1) := by decide +kernel
theorem d_MD_put_66 : decode c_MD_put 66 = .ok (.getfield 98, 3) := by decide +kernel
theorem d_MD_put_69 : decode c_MD_put 69 = .ok (.iconst 1, 1) := by decide +kernel
theorem d_MD_put_70 : decode c_MD_put 70 = .ok (.iadd, 1) := by decide +kernel
theorem d_MD_put_71 : decode c_MD_put 71 = .ok (.putfield 98, 3) := by decide +kernel
theorem d_MD_put_74 : decode c_MD_put 74 = .ok (.aload_n 0, 1) := by decide +kernel
theorem d_MD_put_75 : decode c_MD_put 75 = .ok (.iconst 1, 1) := by decide +kernel
theorem d_MD_put_76 : decode c_MD_put 76 = .ok (.putfield 101, 3) := by decide +kernel
theorem d_MD_put_79 : decode c_MD_put 79 = .ok (.return_, 1) := by decide +kernel
set_option maxHeartbeats 4000000 in
set_option maxRecDepth 100000 in
theorem lp_k_MD_put_9 {p : Program} {l : Launch} {e : Env} {s : State} {m : MethodId} {args : Array Value} {below : List Frame} {meth : Method} {c : Code} {D : va_G} {cI cJ : ClassId} {Q : State → Prop} {A : Nat → Prop} (w0 : Nat) (w1 : Nat) (w2 : Nat) (w3 : Nat) (w4 : Nat) (w5 : Nat) (w6 : Nat) (w7 : Nat) (w8 : Nat) (w9 : Nat) (w10 : Nat) (w11 : Nat) (w12 : Nat) (w13 : Nat) (w14 : Nat) (yt : Int32) (te : Int32) (nt : Int32) (wb : Int32) (rc : Int32) (fp : Int32) (ft : Int32) (th : Int32) (sg : Nat → Int32) (gl : Nat → Int32) (fi : Nat → Int32) (ip : Nat → Int32) (se : Nat → Int32) (pp : Nat) (t : Nat) (hp : pp < 1600) (ht : t ≤ 60) (hfi : okFi fi) (hgl : okGl gl)  (hx : p.tables.exec = Jvm.exec) (hb : c.code = c_MD_put) (hml : c.maxLocals = 4) (hown : s.vm.findClass R_MD = some m.cls) (hw : ∀ w ∈ gw, w.before args s = true) (hE : En D cI cJ s) (hX : Sx A s s.heap) (hA : ∀ q : Nat, s.heap.size ≤ q → A q)
    (kx0 : ∀ (i9 : Nat → Int32), (i9 = puI sg gl fi ip pp t 4) → ∀ (H : Heap) (locs : List Loc) (ls : Array Slot), va_P D vwCl [(w0, .inr (5, [.ref w1, .ref w2, .int yt, .int te, .ref w3, .ref w4, .ref w5, .int nt, .int wb, .ref w6, .ref w7, .ref w8, .int rc, .ref w9, .ref w10, .ref w11, .ref w12, .ref w13, .ref w14, .int fp, .int ft, .int th])), (w1, .inl (cI, 100, .inl sg)), (w2, .inl (cI, 244, .inl gl)), (w3, .inl (cI, 1600, .inl fi)), (w4, .inl (cI, 1600, .inl i9)), (w5, .inl (cI, 1600, .inl se))] H → va_D A [(w0, .inr (5, [.ref w1, .ref w2, .int yt, .int te, .ref w3, .ref w4, .ref w5, .int nt, .int wb, .ref w6, .ref w7, .ref w8, .int rc, .ref w9, .ref w10, .ref w11, .ref w12, .ref w13, .ref w14, .int fp, .int ft, .int th])), (w1, .inl (cI, 100, .inl sg)), (w2, .inl (cI, 244, .inl gl)), (w3, .inl (cI, 1600, .inl fi)), (w4, .inl (cI, 1600, .inl i9)), (w5, .inl (cI, 1600, .inl se))] → va_S A s.heap H locs → lv_has ls 4 [(0, .ref w0), (1, .int (nI pp)), (2, .int (nI t))] → W p l e ({ frames := 4, cells := 0, slots := 0, locals := 92 } : Room) s m args below meth c H locs 0 0 Q (F0 m 50 ls [])) :
    ∀ (fu : Nat) (k : Nat) (i9 : Nat → Int32), 4 - k < fu → (k ≤ 4) → (i9 = puI sg gl fi ip pp t k) → ∀ (H : Heap) (locs : List Loc) (ls : Array Slot), va_P D vwCl [(w0, .inr (5, [.ref w1, .ref w2, .int yt, .int te, .ref w3, .ref w4, .ref w5, .int nt, .int wb, .ref w6, .ref w7, .ref w8, .int rc, .ref w9, .ref w10, .ref w11, .ref w12, .ref w13, .ref w14, .int fp, .int ft, .int th])), (w1, .inl (cI, 100, .inl sg)), (w2, .inl (cI, 244, .inl gl)), (w3, .inl (cI, 1600, .inl fi)), (w4, .inl (cI, 1600, .inl i9)), (w5, .inl (cI, 1600, .inl se))] H → va_D A [(w0, .inr (5, [.ref w1, .ref w2, .int yt, .int te, .ref w3, .ref w4, .ref w5, .int nt, .int wb, .ref w6, .ref w7, .ref w8, .int rc, .ref w9, .ref w10, .ref w11, .ref w12, .ref w13, .ref w14, .int fp, .int ft, .int th])), (w1, .inl (cI, 100, .inl sg)), (w2, .inl (cI, 244, .inl gl)), (w3, .inl (cI, 1600, .inl fi)), (w4, .inl (cI, 1600, .inl i9)), (w5, .inl (cI, 1600, .inl se))] → va_S A s.heap H locs → lv_has ls 4 [(0, .ref w0), (1, .int (nI pp)), (2, .int (nI t)), (3, .int (nI k))] → W p l e ({ frames := 4, cells := 0, slots := 0, locals := 92 } : Room) s m args below meth c H locs 0 0 Q (F0 m 9 ls []) := by
  intro fu
  induction fu with
  | zero =>
    intro k i9 h0
    exact absurd h0 (Nat.not_lt_zero _)
  | succ fu ih =>
    intro k i9 hmu hk hi9 H locs ls hP hD hS hl
    refine lv_iload_n hx hb d_MD_put_9 rfl (lv_at hl 3 rfl) ?_
    refine lv_iconst (v := nI 4) hx hb d_MD_put_10 (by decide +kernel) ?_
    refine jn_icmp_ge (tgt := 50) (a := k) (b := 4) hx hb d_MD_put_11 (by decide) (by omega) (by omega) (fun c_11 => ?_) (fun c_11 => ?_)
    · skip
      exact kx0 i9 (by rw [hi9, show k = 4 by omega]) _ _ _ (hP.sub [0, 1, 2, 3, 4, 5] rfl) (hD.sub [0, 1, 2, 3, 4, 5] (by decide) rfl) hS (lv_sub hl [0, 1, 2] rfl)
    · skip
      refine lv_aload_n hx hb d_MD_put_14 rfl (lv_at hl 0 rfl) ?_
      refine va_get (D := D) (ci := 5) (v := .ref w4) (C := R_MD) (T := T_MD) (N := 22) hx hb hw in_MD hown hE.1 hP 0 rfl rfl 5 (by decide) (hw _ kw_766) (fun _ h9 => h9) rfl d_MD_put_15 ?_
      refine lv_iload_n hx hb d_MD_put_18 rfl (lv_at hl 1 rfl) ?_
      refine lv_dup2_11 hx hb d_MD_put_19 rfl rfl ?_
      refine jn_iald (k := pp) hx hb hE.1 hP 4 0 rfl rfl (by omega) (by omega) d_MD_put_20 ?_
      refine lv_aload_n hx hb d_MD_put_21 rfl (lv_at hl 0 rfl) ?_
      refine lv_aload_n hx hb d_MD_put_22 rfl (lv_at hl 0 rfl) ?_
      refine va_get (D := D) (ci := 5) (v := .ref w3) (C := R_MD) (T := T_MD) (N := 22) hx hb hw in_MD hown hE.1 hP 0 rfl rfl 4 (by decide) (hw _ kw_765) (fun _ h9 => h9) rfl d_MD_put_23 ?_
      refine lv_iload_n hx hb d_MD_put_26 rfl (lv_at hl 1 rfl) ?_
      refine lv_iload_n hx hb d_MD_put_27 rfl (lv_at hl 2 rfl) ?_
      refine lv_iload_n hx hb d_MD_put_28 rfl (lv_at hl 3 rfl) ?_
      refine vp_callSi (va_Run.run (va_runV (As := [.ref w3, .int (nI pp), .int (nI t), .int (nI k)]) (rest := [.int (i9 pp), .int (nI pp), .ref w4]) ⟨hx, hb, hml, hown, hw⟩ (k_MD_held l D cI cJ w0 w1 w2 w3 w4 w5 w6 w7 w8 w9 w10 w11 w12 w13 w14 yt te nt wb rc fp ft th sg gl w3 fi pp t k hp ht hfi hgl (by omega)) (cwV 4 hw (gV kw_894 kw_896 kw_27 kw_45 kw_897) rfl rfl rfl (by decide +kernel) ⟨Nat.le_of_ble_eq_true rfl, Nat.le_of_ble_eq_true rfl⟩) (pre_Vp (wc := [(w0, .inr (5, [.ref w1, .ref w2, .int yt, .int te, .ref w3, .ref w4, .ref w5, .int nt, .int wb, .ref w6, .ref w7, .ref w8, .int rc, .ref w9, .ref w10, .ref w11, .ref w12, .ref w13, .ref w14, .int fp, .int ft, .int th])), (w1, .inl (cI, 100, .inl sg)), (w2, .inl (cI, 244, .inl gl)), (w3, .inl (cI, 1600, .inl fi))]) (q0 := 0) hE hX hP hS [0, 1, 2, 3] rfl rfl rfl) rfl rfl hl.1 rfl (lv_room (Nat.le_of_ble_eq_true rfl)) d_MD_put_29 ⟨Nat.le_of_ble_eq_true rfl, Nat.le_of_ble_eq_true rfl⟩)) (fun r_1 hr_1 => ?_)
      obtain rfl : heV sg gl fi pp t k = r_1 := hr_1.symm
      refine lv_if_le (tgt := 41) hx hb d_MD_put_32 (by decide) (fun c_32 => ?_) (fun c_32 => ?_)
      · skip
        refine lv_iconst (v := nI 0) hx hb d_MD_put_41 (by decide +kernel) ?_
        refine lv_iadd hx hb d_MD_put_42 ?_
        refine jn_iast (k := pp) hx hb hE.1 hP hD hS 4 0 rfl rfl (by omega) (by omega) d_MD_put_43 (fun H locs hP hD hS => ?_)
        have hP : va_P D vwCl [(w0, .inr (5, [.ref w1, .ref w2, .int yt, .int te, .ref w3, .ref w4, .ref w5, .int nt, .int wb, .ref w6, .ref w7, .ref w8, .int rc, .ref w9, .ref w10, .ref w11, .ref w12, .ref w13, .ref w14, .int fp, .int ft, .int th])), (w1, .inl (cI, 100, .inl sg)), (w2, .inl (cI, 244, .inl gl)), (w3, .inl (cI, 1600, .inl fi)), (w4, .inl (cI, 1600, .inl (upd i9 pp ((i9 pp) + (nI 0))))), (w5, .inl (cI, 1600, .inl se))] H := hP
        have hD : va_D A [(w0, .inr (5, [.ref w1, .ref w2, .int yt, .int te, .ref w3, .ref w4, .ref w5, .int nt, .int wb, .ref w6, .ref w7, .ref w8, .int rc, .ref w9, .ref w10, .ref w11, .ref w12, .ref w13, .ref w14, .int fp, .int ft, .int th])), (w1, .inl (cI, 100, .inl sg)), (w2, .inl (cI, 244, .inl gl)), (w3, .inl (cI, 1600, .inl fi)), (w4, .inl (cI, 1600, .inl (upd i9 pp ((i9 pp) + (nI 0))))), (w5, .inl (cI, 1600, .inl se))] := hD
        refine lv_iinc (v := nI (k + 1)) (lv' := [(3, .int (nI (k + 1))), (0, .ref w0), (1, .int (nI pp)), (2, .int (nI t))]) hx hb d_MD_put_44 hl (k := 3) rfl (jn_inc k 1) (by decide) rfl (fun ls hl => ?_)
        refine lv_goto (tgt := 9) hx hb d_MD_put_47 (by decide) ?_
        exact ih (k + 1) (upd i9 pp ((i9 pp) + (nI 0))) (by omega) (by omega) (by rw [puI, ← hi9, if_pos c_32]) _ _ _ (hP.sub [0, 1, 2, 3, 4, 5] rfl) (hD.sub [0, 1, 2, 3, 4, 5] (by decide) rfl) hS (lv_sub hl [1, 2, 3, 0] rfl)
      · skip
        refine lv_iconst (v := nI 1) hx hb d_MD_put_35 (by decide +kernel) ?_
        refine lv_iload_n hx hb d_MD_put_36 rfl (lv_at hl 3 rfl) ?_
        refine lv_ishl hx hb d_MD_put_37 ?_
        refine lv_goto (tgt := 42) hx hb d_MD_put_38 (by decide) ?_
        refine lv_iadd hx hb d_MD_put_42 ?_
        refine jn_iast (k := pp) hx hb hE.1 hP hD hS 4 0 rfl rfl (by omega) (by omega) d_MD_put_43 (fun H locs hP hD hS => ?_)
        have hP : va_P D vwCl [(w0, .inr (5, [.ref w1, .ref w2, .int yt, .int te, .ref w3, .ref w4, .ref w5, .int nt, .int wb, .ref w6, .ref w7, .ref w8, .int rc, .ref w9, .ref w10, .ref w11, .ref w12, .ref w13, .ref w14, .int fp, .int ft, .int th])), (w1, .inl (cI, 100, .inl sg)), (w2, .inl (cI, 244, .inl gl)), (w3, .inl (cI, 1600, .inl fi)), (w4, .inl (cI, 1600, .inl (upd i9 pp ((i9 pp) + ((nI 1) <<< ((nI k) &&& 31)))))), (w5, .inl (cI, 1600, .inl se))] H := hP
        have hD : va_D A [(w0, .inr (5, [.ref w1, .ref w2, .int yt, .int te, .ref w3, .ref w4, .ref w5, .int nt, .int wb, .ref w6, .ref w7, .ref w8, .int rc, .ref w9, .ref w10, .ref w11, .ref w12, .ref w13, .ref w14, .int fp, .int ft, .int th])), (w1, .inl (cI, 100, .inl sg)), (w2, .inl (cI, 244, .inl gl)), (w3, .inl (cI, 1600, .inl fi)), (w4, .inl (cI, 1600, .inl (upd i9 pp ((i9 pp) + ((nI 1) <<< ((nI k) &&& 31)))))), (w5, .inl (cI, 1600, .inl se))] := hD
        refine lv_iinc (v := nI (k + 1)) (lv' := [(3, .int (nI (k + 1))), (0, .ref w0), (1, .int (nI pp)), (2, .int (nI t))]) hx hb d_MD_put_44 hl (k := 3) rfl (jn_inc k 1) (by decide) rfl (fun ls hl => ?_)
        refine lv_goto (tgt := 9) hx hb d_MD_put_47 (by decide) ?_
        exact ih (k + 1) (upd i9 pp ((i9 pp) + ((nI 1) <<< ((nI k) &&& 31)))) (by omega) (by omega) (by rw [puI, ← hi9, if_neg c_32]) _ _ _ (hP.sub [0, 1, 2, 3, 4, 5] rfl) (hD.sub [0, 1, 2, 3, 4, 5] (by decide) rfl) hS (lv_sub hl [1, 2, 3, 0] rfl)
set_option maxHeartbeats 4000000 in
set_option maxRecDepth 100000 in
/-- put -/
theorem k_MD_put (l : Launch) (D : va_G) (cI cJ : ClassId) (w0 : Nat) (w1 : Nat) (w2 : Nat) (w3 : Nat) (w4 : Nat) (w5 : Nat) (w6 : Nat) (w7 : Nat) (w8 : Nat) (w9 : Nat) (w10 : Nat) (w11 : Nat) (w12 : Nat) (w13 : Nat) (w14 : Nat) (yt : Int32) (te : Int32) (nt : Int32) (wb : Int32) (rc : Int32) (fp : Int32) (ft : Int32) (th : Int32) (sg : Nat → Int32) (gl : Nat → Int32) (fi : Nat → Int32) (ip : Nat → Int32) (se : Nat → Int32) (pp : Nat) (t : Nat) (sz : Nat) (hp : pp < 1600) (ht : t ≤ 60) (hfi : okFi fi) (hgl : okGl gl) : Met l y_MD_put ws_MD_put ({ frames := 4, cells := 0, slots := 0, locals := 92 } : Room) (va_Pc [.ref w0, .int (nI pp), .int (nI t)] (Pw D cI cJ [(w0, .inr (5, [.ref w1, .ref w2, .int yt, .int te, .ref w3, .ref w4, .ref w5, .int nt, .int wb, .ref w6, .ref w7, .ref w8, .int rc, .ref w9, .ref w10, .ref w11, .ref w12, .ref w13, .ref w14, .int fp, .int ft, .int th])), (w1, .inl (cI, 100, .inl sg)), (w2, .inl (cI, 244, .inl gl)), (w3, .inl (cI, 1600, .inl fi)), (w4, .inl (cI, 1600, .inl ip)), (w5, .inl (cI, 1600, .inl se))] sz)) (va_Qv (fun (u9 : Nat → Int32) => u9 = puI sg gl fi ip pp t 4) (fun u9 t9 => Bw D (va_A [(w0, .inr (5, [.ref w1, .ref w2, .int yt, .int te, .ref w3, .ref w4, .ref w5, .int nt, .int wb, .ref w6, .ref w7, .ref w8, .int rc, .ref w9, .ref w10, .ref w11, .ref w12, .ref w13, .ref w14, .int fp, .int ft, .int th])), (w1, .inl (cI, 100, .inl sg)), (w2, .inl (cI, 244, .inl gl)), (w3, .inl (cI, 1600, .inl fi)), (w4, .inl (cI, 1600, .inl ip)), (w5, .inl (cI, 1600, .inl se))] sz) [(w0, .inr (5, [.ref w1, .ref w2, .int yt, .int te, .ref w3, .ref w4, .ref w5, .int (nt + nI 1), .int (nI 1), .ref w6, .ref w7, .ref w8, .int rc, .ref w9, .ref w10, .ref w11, .ref w12, .ref w13, .ref w14, .int fp, .int ft, .int th])), (w1, .inl (cI, 100, .inl sg)), (w2, .inl (cI, 244, .inl gl)), (w3, .inl (cI, 1600, .inl (upd fi pp (nI t)))), (w4, .inl (cI, 1600, .inl u9)), (w5, .inl (cI, 1600, .inl (upd se pp (nI 0))))] t9) (va_A [(w0, .inr (5, [.ref w1, .ref w2, .int yt, .int te, .ref w3, .ref w4, .ref w5, .int nt, .int wb, .ref w6, .ref w7, .ref w8, .int rc, .ref w9, .ref w10, .ref w11, .ref w12, .ref w13, .ref w14, .int fp, .int ft, .int th])), (w1, .inl (cI, 100, .inl sg)), (w2, .inl (cI, 244, .inl gl)), (w3, .inl (cI, 1600, .inl fi)), (w4, .inl (cI, 1600, .inl ip)), (w5, .inl (cI, 1600, .inl se))] sz)) 0 0 (va_A [(w0, .inr (5, [.ref w1, .ref w2, .int yt, .int te, .ref w3, .ref w4, .ref w5, .int nt, .int wb, .ref w6, .ref w7, .ref w8, .int rc, .ref w9, .ref w10, .ref w11, .ref w12, .ref w13, .ref w14, .int fp, .int ft, .int th])), (w1, .inl (cI, 100, .inl sg)), (w2, .inl (cI, 244, .inl gl)), (w3, .inl (cI, 1600, .inl fi)), (w4, .inl (cI, 1600, .inl ip)), (w5, .inl (cI, 1600, .inl se))] sz) := by
  refine Met.ofW (cc := c_MD_put) (maxL := 4) (ret := none) (by decide) rfl ?_
  intro p e s m args below meth c s₁ B hml hv
  obtain ⟨rfl, hsz, hE, hP, hD0, hX⟩ := hv
  have hx := B.exec
  have hb := B.bytes
  have hr := B.returns
  have hw : ∀ w ∈ gw, w.before _ s = true := fun w h => atoms_spec (ws := ws_MD_put) B.pre w (List.mem_cons_of_mem _ h)
  have hown : s.vm.findClass R_MD = some m.cls := findClass_of_methodNamed B.named
  have hlocks := B.notSynchronized
  subst hsz
  have hD := hD0.self (sz := s.heap.size)
  generalize hAe : va_A [(w0, .inr (5, [.ref w1, .ref w2, .int yt, .int te, .ref w3, .ref w4, .ref w5, .int nt, .int wb, .ref w6, .ref w7, .ref w8, .int rc, .ref w9, .ref w10, .ref w11, .ref w12, .ref w13, .ref w14, .int fp, .int ft, .int th])), (w1, .inl (cI, 100, .inl sg)), (w2, .inl (cI, 244, .inl gl)), (w3, .inl (cI, 1600, .inl fi)), (w4, .inl (cI, 1600, .inl ip)), (w5, .inl (cI, 1600, .inl se))] s.heap.size = A at hD hX ⊢
  have hA : ∀ q : Nat, s.heap.size ≤ q → A q := fun q h => by rw [← hAe]; exact Or.inr h
  have hS : va_S A s.heap s.heap [] := va_S.rf
  have hP : va_P D vwCl [(w0, .inr (5, [.ref w1, .ref w2, .int yt, .int te, .ref w3, .ref w4, .ref w5, .int nt, .int wb, .ref w6, .ref w7, .ref w8, .int rc, .ref w9, .ref w10, .ref w11, .ref w12, .ref w13, .ref w14, .int fp, .int ft, .int th])), (w1, .inl (cI, 100, .inl sg)), (w2, .inl (cI, 244, .inl gl)), (w3, .inl (cI, 1600, .inl fi)), (w4, .inl (cI, 1600, .inl ip)), (w5, .inl (cI, 1600, .inl se))] s.heap := hP
  have hl := lv_entry ([.ref w0, .int (nI pp), .int (nI t)]) (n := 4) (Nat.le_of_ble_eq_true rfl)
  rw [lg_entry_eq]
  generalize (lg_sl ([.ref w0, .int (nI pp), .int (nI t)]) ++ List.replicate (4 - (lg_sl ([.ref w0, .int (nI pp), .int (nI t)])).length) Slot.unset).toArray = ls at hl ⊢
  have hl : lv_has ls 4 [(0, .ref w0), (1, .int (nI pp)), (2, .int (nI t))] := hl
  refine lv_aload_n hx hb d_MD_put_0 rfl (lv_at hl 0 rfl) ?_
  refine va_get (D := D) (ci := 5) (v := .ref w4) (C := R_MD) (T := T_MD) (N := 22) hx hb hw in_MD hown hE.1 hP 0 rfl rfl 5 (by decide) (hw _ kw_766) (fun _ h9 => h9) rfl d_MD_put_1 ?_
  refine lv_iload_n hx hb d_MD_put_4 rfl (lv_at hl 1 rfl) ?_
  refine lv_iconst (v := nI 0) hx hb d_MD_put_5 (by decide +kernel) ?_
  refine jn_iast (k := pp) hx hb hE.1 hP hD hS 4 0 rfl rfl (by omega) (by omega) d_MD_put_6 (fun H locs hP hD hS => ?_)
  have hP : va_P D vwCl [(w0, .inr (5, [.ref w1, .ref w2, .int yt, .int te, .ref w3, .ref w4, .ref w5, .int nt, .int wb, .ref w6, .ref w7, .ref w8, .int rc, .ref w9, .ref w10, .ref w11, .ref w12, .ref w13, .ref w14, .int fp, .int ft, .int th])), (w1, .inl (cI, 100, .inl sg)), (w2, .inl (cI, 244, .inl gl)), (w3, .inl (cI, 1600, .inl fi)), (w4, .inl (cI, 1600, .inl (upd ip pp (nI 0)))), (w5, .inl (cI, 1600, .inl se))] H := hP
  have hD : va_D A [(w0, .inr (5, [.ref w1, .ref w2, .int yt, .int te, .ref w3, .ref w4, .ref w5, .int nt, .int wb, .ref w6, .ref w7, .ref w8, .int rc, .ref w9, .ref w10, .ref w11, .ref w12, .ref w13, .ref w14, .int fp, .int ft, .int th])), (w1, .inl (cI, 100, .inl sg)), (w2, .inl (cI, 244, .inl gl)), (w3, .inl (cI, 1600, .inl fi)), (w4, .inl (cI, 1600, .inl (upd ip pp (nI 0)))), (w5, .inl (cI, 1600, .inl se))] := hD
  refine lv_iconst (v := nI 0) hx hb d_MD_put_7 (by decide +kernel) ?_
  refine lv_istore_n (lv' := [(3, .int (nI 0)), (0, .ref w0), (1, .int (nI pp)), (2, .int (nI t))]) hx hb d_MD_put_8 rfl hl (by decide) rfl (fun ls hl => ?_)
  refine lp_k_MD_put_9 w0 w1 w2 w3 w4 w5 w6 w7 w8 w9 w10 w11 w12 w13 w14 yt te nt wb rc fp ft th sg gl fi ip se pp t hp ht hfi hgl hx hb hml hown hw hE hX hA (fun i9 hi9 H locs ls hP hD hS hl => ?_) ((4 - 0) + 1) 0 (upd ip pp (nI 0)) (Nat.lt_succ_self _) (Nat.zero_le _) rfl _ _ _ (hP.sub [0, 1, 2, 3, 4, 5] rfl) (hD.sub [0, 1, 2, 3, 4, 5] (by decide) rfl) hS (lv_sub hl [1, 2, 3, 0] rfl)
  refine lv_aload_n hx hb d_MD_put_50 rfl (lv_at hl 0 rfl) ?_
  refine va_get (D := D) (ci := 5) (v := .ref w3) (C := R_MD) (T := T_MD) (N := 22) hx hb hw in_MD hown hE.1 hP 0 rfl rfl 4 (by decide) (hw _ kw_765) (fun _ h9 => h9) rfl d_MD_put_51 ?_
  refine lv_iload_n hx hb d_MD_put_54 rfl (lv_at hl 1 rfl) ?_
  refine lv_iload_n hx hb d_MD_put_55 rfl (lv_at hl 2 rfl) ?_
  refine jn_iast (k := pp) hx hb hE.1 hP hD hS 3 0 rfl rfl (by omega) (by omega) d_MD_put_56 (fun H locs hP hD hS => ?_)
  have hP : va_P D vwCl [(w0, .inr (5, [.ref w1, .ref w2, .int yt, .int te, .ref w3, .ref w4, .ref w5, .int nt, .int wb, .ref w6, .ref w7, .ref w8, .int rc, .ref w9, .ref w10, .ref w11, .ref w12, .ref w13, .ref w14, .int fp, .int ft, .int th])), (w1, .inl (cI, 100, .inl sg)), (w2, .inl (cI, 244, .inl gl)), (w3, .inl (cI, 1600, .inl (upd fi pp (nI t)))), (w4, .inl (cI, 1600, .inl i9)), (w5, .inl (cI, 1600, .inl se))] H := hP
  have hD : va_D A [(w0, .inr (5, [.ref w1, .ref w2, .int yt, .int te, .ref w3, .ref w4, .ref w5, .int nt, .int wb, .ref w6, .ref w7, .ref w8, .int rc, .ref w9, .ref w10, .ref w11, .ref w12, .ref w13, .ref w14, .int fp, .int ft, .int th])), (w1, .inl (cI, 100, .inl sg)), (w2, .inl (cI, 244, .inl gl)), (w3, .inl (cI, 1600, .inl (upd fi pp (nI t)))), (w4, .inl (cI, 1600, .inl i9)), (w5, .inl (cI, 1600, .inl se))] := hD
  refine lv_aload_n hx hb d_MD_put_57 rfl (lv_at hl 0 rfl) ?_
  refine va_get (D := D) (ci := 5) (v := .ref w5) (C := R_MD) (T := T_MD) (N := 22) hx hb hw in_MD hown hE.1 hP 0 rfl rfl 6 (by decide) (hw _ kw_767) (fun _ h9 => h9) rfl d_MD_put_58 ?_
  refine lv_iload_n hx hb d_MD_put_61 rfl (lv_at hl 1 rfl) ?_
  refine lv_iconst (v := nI 0) hx hb d_MD_put_62 (by decide +kernel) ?_
  refine jn_iast (k := pp) hx hb hE.1 hP hD hS 5 0 rfl rfl (by omega) (by omega) d_MD_put_63 (fun H locs hP hD hS => ?_)
  have hP : va_P D vwCl [(w0, .inr (5, [.ref w1, .ref w2, .int yt, .int te, .ref w3, .ref w4, .ref w5, .int nt, .int wb, .ref w6, .ref w7, .ref w8, .int rc, .ref w9, .ref w10, .ref w11, .ref w12, .ref w13, .ref w14, .int fp, .int ft, .int th])), (w1, .inl (cI, 100, .inl sg)), (w2, .inl (cI, 244, .inl gl)), (w3, .inl (cI, 1600, .inl (upd fi pp (nI t)))), (w4, .inl (cI, 1600, .inl i9)), (w5, .inl (cI, 1600, .inl (upd se pp (nI 0))))] H := hP
  have hD : va_D A [(w0, .inr (5, [.ref w1, .ref w2, .int yt, .int te, .ref w3, .ref w4, .ref w5, .int nt, .int wb, .ref w6, .ref w7, .ref w8, .int rc, .ref w9, .ref w10, .ref w11, .ref w12, .ref w13, .ref w14, .int fp, .int ft, .int th])), (w1, .inl (cI, 100, .inl sg)), (w2, .inl (cI, 244, .inl gl)), (w3, .inl (cI, 1600, .inl (upd fi pp (nI t)))), (w4, .inl (cI, 1600, .inl i9)), (w5, .inl (cI, 1600, .inl (upd se pp (nI 0))))] := hD
  refine lv_aload_n hx hb d_MD_put_64 rfl (lv_at hl 0 rfl) ?_
  refine lv_dup hx hb d_MD_put_65 rfl ?_
  refine va_get (D := D) (ci := 5) (v := .int nt) (C := R_MD) (T := T_MD) (N := 22) hx hb hw in_MD hown hE.1 hP 0 rfl rfl 7 (by decide) (hw _ kw_768) (fun _ h9 => h9) rfl d_MD_put_66 ?_
  refine lv_iconst (v := nI 1) hx hb d_MD_put_69 (by decide +kernel) ?_
  refine lv_iadd hx hb d_MD_put_70 ?_
  refine va_put (D := D) (ci := 5) (v := .int (nt + (nI 1))) (ty := .int) (C := R_MD) (T := T_MD) (N := 22) hx hb hw in_MD ty_MD ty_MD_ok nm_MD_ok hown hE.1 hP hD hS 0 rfl rfl 7 (by decide) (hw _ kw_768) (fun _ h9 => h9) rfl (by decide +kernel) rfl rfl (Nat.le_of_ble_eq_true rfl) d_MD_put_71 (fun H locs hP hD hS => ?_)
  have hP : va_P D vwCl [(w0, .inr (5, [.ref w1, .ref w2, .int yt, .int te, .ref w3, .ref w4, .ref w5, .int (nt + (nI 1)), .int wb, .ref w6, .ref w7, .ref w8, .int rc, .ref w9, .ref w10, .ref w11, .ref w12, .ref w13, .ref w14, .int fp, .int ft, .int th])), (w1, .inl (cI, 100, .inl sg)), (w2, .inl (cI, 244, .inl gl)), (w3, .inl (cI, 1600, .inl (upd fi pp (nI t)))), (w4, .inl (cI, 1600, .inl i9)), (w5, .inl (cI, 1600, .inl (upd se pp (nI 0))))] H := hP
  have hD : va_D A [(w0, .inr (5, [.ref w1, .ref w2, .int yt, .int te, .ref w3, .ref w4, .ref w5, .int (nt + (nI 1)), .int wb, .ref w6, .ref w7, .ref w8, .int rc, .ref w9, .ref w10, .ref w11, .ref w12, .ref w13, .ref w14, .int fp, .int ft, .int th])), (w1, .inl (cI, 100, .inl sg)), (w2, .inl (cI, 244, .inl gl)), (w3, .inl (cI, 1600, .inl (upd fi pp (nI t)))), (w4, .inl (cI, 1600, .inl i9)), (w5, .inl (cI, 1600, .inl (upd se pp (nI 0))))] := hD
  refine lv_aload_n hx hb d_MD_put_74 rfl (lv_at hl 0 rfl) ?_
  refine lv_iconst (v := nI 1) hx hb d_MD_put_75 (by decide +kernel) ?_
  refine va_put (D := D) (ci := 5) (v := .int (nI 1)) (ty := .boolean) (C := R_MD) (T := T_MD) (N := 22) hx hb hw in_MD ty_MD ty_MD_ok nm_MD_ok hown hE.1 hP hD hS 0 rfl rfl 8 (by decide) (hw _ kw_769) (fun _ h9 => h9) rfl (by decide +kernel) (by decide +kernel) (by decide +kernel) (Nat.le_of_ble_eq_true rfl) d_MD_put_76 (fun H locs hP hD hS => ?_)
  have hP : va_P D vwCl [(w0, .inr (5, [.ref w1, .ref w2, .int yt, .int te, .ref w3, .ref w4, .ref w5, .int (nt + (nI 1)), .int (nI 1), .ref w6, .ref w7, .ref w8, .int rc, .ref w9, .ref w10, .ref w11, .ref w12, .ref w13, .ref w14, .int fp, .int ft, .int th])), (w1, .inl (cI, 100, .inl sg)), (w2, .inl (cI, 244, .inl gl)), (w3, .inl (cI, 1600, .inl (upd fi pp (nI t)))), (w4, .inl (cI, 1600, .inl i9)), (w5, .inl (cI, 1600, .inl (upd se pp (nI 0))))] H := hP
  have hD : va_D A [(w0, .inr (5, [.ref w1, .ref w2, .int yt, .int te, .ref w3, .ref w4, .ref w5, .int (nt + (nI 1)), .int (nI 1), .ref w6, .ref w7, .ref w8, .int rc, .ref w9, .ref w10, .ref w11, .ref w12, .ref w13, .ref w14, .int fp, .int ft, .int th])), (w1, .inl (cI, 100, .inl sg)), (w2, .inl (cI, 244, .inl gl)), (w3, .inl (cI, 1600, .inl (upd fi pp (nI t)))), (w4, .inl (cI, 1600, .inl i9)), (w5, .inl (cI, 1600, .inl (upd se pp (nI 0))))] := hD
  have hP9 := hP.sub (ws' := [(w0, .inr (5, [.ref w1, .ref w2, .int yt, .int te, .ref w3, .ref w4, .ref w5, .int (nt + (nI 1)), .int (nI 1), .ref w6, .ref w7, .ref w8, .int rc, .ref w9, .ref w10, .ref w11, .ref w12, .ref w13, .ref w14, .int fp, .int ft, .int th])), (w1, .inl (cI, 100, .inl sg)), (w2, .inl (cI, 244, .inl gl)), (w3, .inl (cI, 1600, .inl (upd fi pp (nI t)))), (w4, .inl (cI, 1600, .inl i9)), (w5, .inl (cI, 1600, .inl (upd se pp (nI 0))))]) [0, 1, 2, 3, 4, 5] rfl
  have hD9 := hD.sub (ws' := [(w0, .inr (5, [.ref w1, .ref w2, .int yt, .int te, .ref w3, .ref w4, .ref w5, .int (nt + (nI 1)), .int (nI 1), .ref w6, .ref w7, .ref w8, .int rc, .ref w9, .ref w10, .ref w11, .ref w12, .ref w13, .ref w14, .int fp, .int ft, .int th])), (w1, .inl (cI, 100, .inl sg)), (w2, .inl (cI, 244, .inl gl)), (w3, .inl (cI, 1600, .inl (upd fi pp (nI t)))), (w4, .inl (cI, 1600, .inl i9)), (w5, .inl (cI, 1600, .inl (upd se pp (nI 0))))]) [0, 1, 2, 3, 4, 5] (by decide) rfl
  exact W.vret hx hb hr (fun t9 ht hW => ⟨⟨i9, rfl, hi9, ⟨by rw [ht]; exact hP9, hD9⟩⟩, hS.F ht⟩) hS.2.2 d_MD_put_79
set_option maxHeartbeats 4000000 in
set_option maxRecDepth 100000 in
/-- plant -/
theorem k_MD_plant (l : Launch) (D : va_G) (cI cJ : ClassId) (w0 : Nat) (w1 : Nat) (w2 : Nat) (w3 : Nat) (w4 : Nat) (w5 : Nat) (w6 : Nat) (w7 : Nat) (w8 : Nat) (w9 : Nat) (w10 : Nat) (w11 : Nat) (w12 : Nat) (w13 : Nat) (w14 : Nat) (yt : Int32) (te : Int32) (nt : Int32) (wb : Int32) (rc : Int32) (fp : Int32) (ft : Int32) (th : Int32) (fi : Nat → Int32) (ip : Nat → Int32) (se : Nat → Int32) (a : Nat) (b : Nat) (x : Int32) (sz : Nat) (hab : 40 * b + a < 1600) : Met l y_MD_plant ws_MD_plant ({ frames := 0, cells := 0, slots := 0, locals := 0 } : Room) (va_Pc [.ref w0, .int (nI a), .int (nI b), .int x] (Pw D cI cJ [(w0, .inr (5, [.ref w1, .ref w2, .int yt, .int te, .ref w3, .ref w4, .ref w5, .int nt, .int wb, .ref w6, .ref w7, .ref w8, .int rc, .ref w9, .ref w10, .ref w11, .ref w12, .ref w13, .ref w14, .int fp, .int ft, .int th])), (w3, .inl (cI, 1600, .inl fi)), (w4, .inl (cI, 1600, .inl ip)), (w5, .inl (cI, 1600, .inl se))] sz)) (va_Qv (fun (_u : Unit) => True) (fun _u t9 => Bw D (va_A [(w0, .inr (5, [.ref w1, .ref w2, .int yt, .int te, .ref w3, .ref w4, .ref w5, .int nt, .int wb, .ref w6, .ref w7, .ref w8, .int rc, .ref w9, .ref w10, .ref w11, .ref w12, .ref w13, .ref w14, .int fp, .int ft, .int th])), (w3, .inl (cI, 1600, .inl fi)), (w4, .inl (cI, 1600, .inl ip)), (w5, .inl (cI, 1600, .inl se))] sz) [(w0, .inr (5, [.ref w1, .ref w2, .int yt, .int te, .ref w3, .ref w4, .ref w5, .int (nt + nI 1), .int wb, .ref w6, .ref w7, .ref w8, .int rc, .ref w9, .ref w10, .ref w11, .ref w12, .ref w13, .ref w14, .int fp, .int ft, .int th])), (w3, .inl (cI, 1600, .inl (upd fi (40 * b + a) x))), (w4, .inl (cI, 1600, .inl (upd ip (40 * b + a) (nI 0)))), (w5, .inl (cI, 1600, .inl (upd se (40 * b + a) (nI 1))))] t9) (va_A [(w0, .inr (5, [.ref w1, .ref w2, .int yt, .int te, .ref w3, .ref w4, .ref w5, .int nt, .int wb, .ref w6, .ref w7, .ref w8, .int rc, .ref w9, .ref w10, .ref w11, .ref w12, .ref w13, .ref w14, .int fp, .int ft, .int th])), (w3, .inl (cI, 1600, .inl fi)), (w4, .inl (cI, 1600, .inl ip)), (w5, .inl (cI, 1600, .inl se))] sz)) 0 0 (va_A [(w0, .inr (5, [.ref w1, .ref w2, .int yt, .int te, .ref w3, .ref w4, .ref w5, .int nt, .int wb, .ref w6, .ref w7, .ref w8, .int rc, .ref w9, .ref w10, .ref w11, .ref w12, .ref w13, .ref w14, .int fp, .int ft, .int th])), (w3, .inl (cI, 1600, .inl fi)), (w4, .inl (cI, 1600, .inl ip)), (w5, .inl (cI, 1600, .inl se))] sz) := by
  refine Met.ofW (cc := c_MD_plant) (maxL := 5) (ret := none) (by decide) rfl ?_
  intro p e s m args below meth c s₁ B hml hv
  obtain ⟨rfl, hsz, hE, hP, hD0, hX⟩ := hv
  have hx := B.exec
  have hb := B.bytes
  have hr := B.returns
  have hw : ∀ w ∈ gw, w.before _ s = true := fun w h => atoms_spec (ws := ws_MD_plant) B.pre w (List.mem_cons_of_mem _ h)
  have hown : s.vm.findClass R_MD = some m.cls := findClass_of_methodNamed B.named
  have hlocks := B.notSynchronized
  subst hsz
  have hD := hD0.self (sz := s.heap.size)
  generalize hAe : va_A [(w0, .inr (5, [.ref w1, .ref w2, .int yt, .int te, .ref w3, .ref w4, .ref w5, .int nt, .int wb, .ref w6, .ref w7, .ref w8, .int rc, .ref w9, .ref w10, .ref w11, .ref w12, .ref w13, .ref w14, .int fp, .int ft, .int th])), (w3, .inl (cI, 1600, .inl fi)), (w4, .inl (cI, 1600, .inl ip)), (w5, .inl (cI, 1600, .inl se))] s.heap.size = A at hD hX ⊢
  have hA : ∀ q : Nat, s.heap.size ≤ q → A q := fun q h => by rw [← hAe]; exact Or.inr h
  have hS : va_S A s.heap s.heap [] := va_S.rf
  have hP : va_P D vwCl [(w0, .inr (5, [.ref w1, .ref w2, .int yt, .int te, .ref w3, .ref w4, .ref w5, .int nt, .int wb, .ref w6, .ref w7, .ref w8, .int rc, .ref w9, .ref w10, .ref w11, .ref w12, .ref w13, .ref w14, .int fp, .int ft, .int th])), (w3, .inl (cI, 1600, .inl fi)), (w4, .inl (cI, 1600, .inl ip)), (w5, .inl (cI, 1600, .inl se))] s.heap := hP
  have hl := lv_entry ([.ref w0, .int (nI a), .int (nI b), .int x]) (n := 5) (Nat.le_of_ble_eq_true rfl)
  rw [lg_entry_eq]
  generalize (lg_sl ([.ref w0, .int (nI a), .int (nI b), .int x]) ++ List.replicate (5 - (lg_sl ([.ref w0, .int (nI a), .int (nI b), .int x])).length) Slot.unset).toArray = ls at hl ⊢
  have hl : lv_has ls 5 [(0, .ref w0), (1, .int (nI a)), (2, .int (nI b)), (3, .int x)] := hl
  refine lv_bipush (v := nI 40) hx hb d_MD_plant_0 (by decide +kernel) ?_
  refine lv_iload_n hx hb d_MD_plant_2 rfl (lv_at hl 2 rfl) ?_
  refine jn_imul (a := 40) (b := b) hx hb d_MD_plant_3 ?_
  refine lv_iload_n hx hb d_MD_plant_4 rfl (lv_at hl 1 rfl) ?_
  refine jn_iadd (a := (40 * b)) (b := a) hx hb d_MD_plant_5 ?_
  refine lv_istore (lv' := [(4, .int (nI ((40 * b) + a))), (0, .ref w0), (1, .int (nI a)), (2, .int (nI b)), (3, .int x)]) hx hb d_MD_plant_6 hl (by decide) rfl (fun ls hl => ?_)
  refine lv_aload_n hx hb d_MD_plant_8 rfl (lv_at hl 1 rfl) ?_
  refine va_get (D := D) (ci := 5) (v := .ref w3) (C := R_MD) (T := T_MD) (N := 22) hx hb hw in_MD hown hE.1 hP 0 rfl rfl 4 (by decide) (hw _ kw_765) (fun _ h9 => h9) rfl d_MD_plant_9 ?_
  refine lv_iload hx hb d_MD_plant_12 (lv_at hl 0 rfl) ?_
  refine lv_iload_n hx hb d_MD_plant_14 rfl (lv_at hl 4 rfl) ?_
  refine jn_iast (k := ((40 * b) + a)) hx hb hE.1 hP hD hS 1 0 rfl rfl (by omega) (by omega) d_MD_plant_15 (fun H locs hP hD hS => ?_)
  have hP : va_P D vwCl [(w0, .inr (5, [.ref w1, .ref w2, .int yt, .int te, .ref w3, .ref w4, .ref w5, .int nt, .int wb, .ref w6, .ref w7, .ref w8, .int rc, .ref w9, .ref w10, .ref w11, .ref w12, .ref w13, .ref w14, .int fp, .int ft, .int th])), (w3, .inl (cI, 1600, .inl (upd fi ((40 * b) + a) x))), (w4, .inl (cI, 1600, .inl ip)), (w5, .inl (cI, 1600, .inl se))] H := hP
  have hD : va_D A [(w0, .inr (5, [.ref w1, .ref w2, .int yt, .int te, .ref w3, .ref w4, .ref w5, .int nt, .int wb, .ref w6, .ref w7, .ref w8, .int rc, .ref w9, .ref w10, .ref w11, .ref w12, .ref w13, .ref w14, .int fp, .int ft, .int th])), (w3, .inl (cI, 1600, .inl (upd fi ((40 * b) + a) x))), (w4, .inl (cI, 1600, .inl ip)), (w5, .inl (cI, 1600, .inl se))] := hD
  refine lv_aload_n hx hb d_MD_plant_16 rfl (lv_at hl 1 rfl) ?_
  refine va_get (D := D) (ci := 5) (v := .ref w4) (C := R_MD) (T := T_MD) (N := 22) hx hb hw in_MD hown hE.1 hP 0 rfl rfl 5 (by decide) (hw _ kw_766) (fun _ h9 => h9) rfl d_MD_plant_17 ?_
  refine lv_iload hx hb d_MD_plant_20 (lv_at hl 0 rfl) ?_
  refine lv_iconst (v := nI 0) hx hb d_MD_plant_22 (by decide +kernel) ?_
  refine jn_iast (k := ((40 * b) + a)) hx hb hE.1 hP hD hS 2 0 rfl rfl (by omega) (by omega) d_MD_plant_23 (fun H locs hP hD hS => ?_)
  have hP : va_P D vwCl [(w0, .inr (5, [.ref w1, .ref w2, .int yt, .int te, .ref w3, .ref w4, .ref w5, .int nt, .int wb, .ref w6, .ref w7, .ref w8, .int rc, .ref w9, .ref w10, .ref w11, .ref w12, .ref w13, .ref w14, .int fp, .int ft, .int th])), (w3, .inl (cI, 1600, .inl (upd fi ((40 * b) + a) x))), (w4, .inl (cI, 1600, .inl (upd ip ((40 * b) + a) (nI 0)))), (w5, .inl (cI, 1600, .inl se))] H := hP
  have hD : va_D A [(w0, .inr (5, [.ref w1, .ref w2, .int yt, .int te, .ref w3, .ref w4, .ref w5, .int nt, .int wb, .ref w6, .ref w7, .ref w8, .int rc, .ref w9, .ref w10, .ref w11, .ref w12, .ref w13, .ref w14, .int fp, .int ft, .int th])), (w3, .inl (cI, 1600, .inl (upd fi ((40 * b) + a) x))), (w4, .inl (cI, 1600, .inl (upd ip ((40 * b) + a) (nI 0)))), (w5, .inl (cI, 1600, .inl se))] := hD
  refine lv_aload_n hx hb d_MD_plant_24 rfl (lv_at hl 1 rfl) ?_
  refine va_get (D := D) (ci := 5) (v := .ref w5) (C := R_MD) (T := T_MD) (N := 22) hx hb hw in_MD hown hE.1 hP 0 rfl rfl 6 (by decide) (hw _ kw_767) (fun _ h9 => h9) rfl d_MD_plant_25 ?_
  refine lv_iload hx hb d_MD_plant_28 (lv_at hl 0 rfl) ?_
  refine lv_iconst (v := nI 1) hx hb d_MD_plant_30 (by decide +kernel) ?_
  refine jn_iast (k := ((40 * b) + a)) hx hb hE.1 hP hD hS 3 0 rfl rfl (by omega) (by omega) d_MD_plant_31 (fun H locs hP hD hS => ?_)
  have hP : va_P D vwCl [(w0, .inr (5, [.ref w1, .ref w2, .int yt, .int te, .ref w3, .ref w4, .ref w5, .int nt, .int wb, .ref w6, .ref w7, .ref w8, .int rc, .ref w9, .ref w10, .ref w11, .ref w12, .ref w13, .ref w14, .int fp, .int ft, .int th])), (w3, .inl (cI, 1600, .inl (upd fi ((40 * b) + a) x))), (w4, .inl (cI, 1600, .inl (upd ip ((40 * b) + a) (nI 0)))), (w5, .inl (cI, 1600, .inl (upd se ((40 * b) + a) (nI 1))))] H := hP
  have hD : va_D A [(w0, .inr (5, [.ref w1, .ref w2, .int yt, .int te, .ref w3, .ref w4, .ref w5, .int nt, .int wb, .ref w6, .ref w7, .ref w8, .int rc, .ref w9, .ref w10, .ref w11, .ref w12, .ref w13, .ref w14, .int fp, .int ft, .int th])), (w3, .inl (cI, 1600, .inl (upd fi ((40 * b) + a) x))), (w4, .inl (cI, 1600, .inl (upd ip ((40 * b) + a) (nI 0)))), (w5, .inl (cI, 1600, .inl (upd se ((40 * b) + a) (nI 1))))] := hD
  refine lv_aload_n hx hb d_MD_plant_32 rfl (lv_at hl 1 rfl) ?_
  refine lv_dup hx hb d_MD_plant_33 rfl ?_
  refine va_get (D := D) (ci := 5) (v := .int nt) (C := R_MD) (T := T_MD) (N := 22) hx hb hw in_MD hown hE.1 hP 0 rfl rfl 7 (by decide) (hw _ kw_768) (fun _ h9 => h9) rfl d_MD_plant_34 ?_
  refine lv_iconst (v := nI 1) hx hb d_MD_plant_37 (by decide +kernel) ?_
  refine lv_iadd hx hb d_MD_plant_38 ?_
  refine va_put (D := D) (ci := 5) (v := .int (nt + (nI 1))) (ty := .int) (C := R_MD) (T := T_MD) (N := 22) hx hb hw in_MD ty_MD ty_MD_ok nm_MD_ok hown hE.1 hP hD hS 0 rfl rfl 7 (by decide) (hw _ kw_768) (fun _ h9 => h9) rfl (by decide +kernel) rfl rfl (Nat.le_of_ble_eq_true rfl) d_MD_plant_39 (fun H locs hP hD hS => ?_)
  have hP : va_P D vwCl [(w0, .inr (5, [.ref w1, .ref w2, .int yt, .int te, .ref w3, .ref w4, .ref w5, .int (nt + (nI 1)), .int wb, .ref w6, .ref w7, .ref w8, .int rc, .ref w9, .ref w10, .ref w11, .ref w12, .ref w13, .ref w14, .int fp, .int ft, .int th])), (w3, .inl (cI, 1600, .inl (upd fi ((40 * b) + a) x))), (w4, .inl (cI, 1600, .inl (upd ip ((40 * b) + a) (nI 0)))), (w5, .inl (cI, 1600, .inl (upd se ((40 * b) + a) (nI 1))))] H := hP
  have hD : va_D A [(w0, .inr (5, [.ref w1, .ref w2, .int yt, .int te, .ref w3, .ref w4, .ref w5, .int (nt + (nI 1)), .int wb, .ref w6, .ref w7, .ref w8, .int rc, .ref w9, .ref w10, .ref w11, .ref w12, .ref w13, .ref w14, .int fp, .int ft, .int th])), (w3, .inl (cI, 1600, .inl (upd fi ((40 * b) + a) x))), (w4, .inl (cI, 1600, .inl (upd ip ((40 * b) + a) (nI 0)))), (w5, .inl (cI, 1600, .inl (upd se ((40 * b) + a) (nI 1))))] := hD
  have hP9 := hP.sub (ws' := [(w0, .inr (5, [.ref w1, .ref w2, .int yt, .int te, .ref w3, .ref w4, .ref w5, .int (nt + (nI 1)), .int wb, .ref w6, .ref w7, .ref w8, .int rc, .ref w9, .ref w10, .ref w11, .ref w12, .ref w13, .ref w14, .int fp, .int ft, .int th])), (w3, .inl (cI, 1600, .inl (upd fi ((40 * b) + a) x))), (w4, .inl (cI, 1600, .inl (upd ip ((40 * b) + a) (nI 0)))), (w5, .inl (cI, 1600, .inl (upd se ((40 * b) + a) (nI 1))))]) [0, 1, 2, 3] rfl
  have hD9 := hD.sub (ws' := [(w0, .inr (5, [.ref w1, .ref w2, .int yt, .int te, .ref w3, .ref w4, .ref w5, .int (nt + (nI 1)), .int wb, .ref w6, .ref w7, .ref w8, .int rc, .ref w9, .ref w10, .ref w11, .ref w12, .ref w13, .ref w14, .int fp, .int ft, .int th])), (w3, .inl (cI, 1600, .inl (upd fi ((40 * b) + a) x))), (w4, .inl (cI, 1600, .inl (upd ip ((40 * b) + a) (nI 0)))), (w5, .inl (cI, 1600, .inl (upd se ((40 * b) + a) (nI 1))))]) [0, 1, 2, 3] (by decide) rfl
  exact W.vret hx hb hr (fun t9 ht hW => ⟨⟨(), rfl, trivial, ⟨by rw [ht]; exact hP9, hD9⟩⟩, hS.F ht⟩) hS.2.2 d_MD_plant_42
set_option maxHeartbeats 4000000 in
set_option maxRecDepth 100000 in
theorem lp_k_MD_wipe_2 {p : Program} {l : Launch} {e : Env} {s : State} {m : MethodId} {args : Array Value} {below : List Frame} {meth : Method} {c : Code} {D : va_G} {cI cJ : ClassId} {Q : State → Prop} {A : Nat → Prop} (w0 : Nat) (w1 : Nat) (w2 : Nat) (w3 : Nat) (w4 : Nat) (w5 : Nat) (w6 : Nat) (w7 : Nat) (w8 : Nat) (w9 : Nat) (w10 : Nat) (w11 : Nat) (w12 : Nat) (w13 : Nat) (w14 : Nat) (yt : Int32) (te : Int32) (nt : Int32) (wb : Int32) (rc : Int32) (fp : Int32) (ft : Int32) (th : Int32) (fi : Nat → Int32)   (hx : p.tables.exec = Jvm.exec) (hb : c.code = c_MD_wipe) (hml : c.maxLocals = 2) (hown : s.vm.findClass R_MD = some m.cls) (hw : ∀ w ∈ gw, w.before args s = true) (hE : En D cI cJ s) (hX : Sx A s s.heap) (hA : ∀ q : Nat, s.heap.size ≤ q → A q)
    (kx0 : ∀ (H : Heap) (locs : List Loc) (ls : Array Slot), va_P D vwCl [(w0, .inr (5, [.ref w1, .ref w2, .int yt, .int te, .ref w3, .ref w4, .ref w5, .int nt, .int wb, .ref w6, .ref w7, .ref w8, .int rc, .ref w9, .ref w10, .ref w11, .ref w12, .ref w13, .ref w14, .int fp, .int ft, .int th])), (w3, .inl (cI, 1600, .inl (flI fi (nI 0) 1600)))] H → va_D A [(w0, .inr (5, [.ref w1, .ref w2, .int yt, .int te, .ref w3, .ref w4, .ref w5, .int nt, .int wb, .ref w6, .ref w7, .ref w8, .int rc, .ref w9, .ref w10, .ref w11, .ref w12, .ref w13, .ref w14, .int fp, .int ft, .int th])), (w3, .inl (cI, 1600, .inl (flI fi (nI 0) 1600)))] → va_S A s.heap H locs → lv_has ls 2 [(0, .ref w0)] → W p l e ({ frames := 0, cells := 0, slots := 0, locals := 0 } : Room) s m args below meth c H locs 0 0 Q (F0 m 22 ls [])) :
    ∀ (fu : Nat) (i : Nat), 1600 - i < fu → (i ≤ 1600) → ∀ (H : Heap) (locs : List Loc) (ls : Array Slot), va_P D vwCl [(w0, .inr (5, [.ref w1, .ref w2, .int yt, .int te, .ref w3, .ref w4, .ref w5, .int nt, .int wb, .ref w6, .ref w7, .ref w8, .int rc, .ref w9, .ref w10, .ref w11, .ref w12, .ref w13, .ref w14, .int fp, .int ft, .int th])), (w3, .inl (cI, 1600, .inl (flI fi (nI 0) i)))] H → va_D A [(w0, .inr (5, [.ref w1, .ref w2, .int yt, .int te, .ref w3, .ref w4, .ref w5, .int nt, .int wb, .ref w6, .ref w7, .ref w8, .int rc, .ref w9, .ref w10, .ref w11, .ref w12, .ref w13, .ref w14, .int fp, .int ft, .int th])), (w3, .inl (cI, 1600, .inl (flI fi (nI 0) i)))] → va_S A s.heap H locs → lv_has ls 2 [(0, .ref w0), (1, .int (nI i))] → W p l e ({ frames := 0, cells := 0, slots := 0, locals := 0 } : Room) s m args below meth c H locs 0 0 Q (F0 m 2 ls []) := by
  intro fu
  induction fu with
  | zero =>
    intro i h0
    exact absurd h0 (Nat.not_lt_zero _)
  | succ fu ih =>
    intro i hmu hi H locs ls hP hD hS hl
    refine lv_iload_n hx hb d_MD_wipe_2 rfl (lv_at hl 1 rfl) ?_
    refine lv_sipush (v := nI 1600) hx hb d_MD_wipe_3 (by decide +kernel) ?_
    refine jn_icmp_ge (tgt := 22) (a := i) (b := 1600) hx hb d_MD_wipe_6 (by decide) (by omega) (by omega) (fun c_6 => ?_) (fun c_6 => ?_)
    · skip
      obtain rfl : i = 1600 := by omega
      exact kx0   _ _ _ (hP.sub [0, 1] rfl) (hD.sub [0, 1] (by decide) rfl) hS (lv_sub hl [0] rfl)
    · skip
      refine lv_aload_n hx hb d_MD_wipe_9 rfl (lv_at hl 0 rfl) ?_
      refine va_get (D := D) (ci := 5) (v := .ref w3) (C := R_MD) (T := T_MD) (N := 22) hx hb hw in_MD hown hE.1 hP 0 rfl rfl 4 (by decide) (hw _ kw_765) (fun _ h9 => h9) rfl d_MD_wipe_10 ?_
      refine lv_iload_n hx hb d_MD_wipe_13 rfl (lv_at hl 1 rfl) ?_
      refine lv_iconst (v := nI 0) hx hb d_MD_wipe_14 (by decide +kernel) ?_
      refine jn_iast (k := i) hx hb hE.1 hP hD hS 1 0 rfl rfl (by omega) (by omega) d_MD_wipe_15 (fun H locs hP hD hS => ?_)
      have hP : va_P D vwCl [(w0, .inr (5, [.ref w1, .ref w2, .int yt, .int te, .ref w3, .ref w4, .ref w5, .int nt, .int wb, .ref w6, .ref w7, .ref w8, .int rc, .ref w9, .ref w10, .ref w11, .ref w12, .ref w13, .ref w14, .int fp, .int ft, .int th])), (w3, .inl (cI, 1600, .inl (upd (flI fi (nI 0) i) i (nI 0))))] H := hP
      have hD : va_D A [(w0, .inr (5, [.ref w1, .ref w2, .int yt, .int te, .ref w3, .ref w4, .ref w5, .int nt, .int wb, .ref w6, .ref w7, .ref w8, .int rc, .ref w9, .ref w10, .ref w11, .ref w12, .ref w13, .ref w14, .int fp, .int ft, .int th])), (w3, .inl (cI, 1600, .inl (upd (flI fi (nI 0) i) i (nI 0))))] := hD
      refine lv_iinc (v := nI (i + 1)) (lv' := [(1, .int (nI (i + 1))), (0, .ref w0)]) hx hb d_MD_wipe_16 hl (k := 1) rfl (jn_inc i 1) (by decide) rfl (fun ls hl => ?_)
      refine lv_goto (tgt := 2) hx hb d_MD_wipe_19 (by decide) ?_
      rw [flI_succ] at hP hD
      exact ih (i + 1) (by omega) (by omega) _ _ _ (hP.sub [0, 1] rfl) (hD.sub [0, 1] (by decide) rfl) hS (lv_sub hl [1, 0] rfl)
set_option maxHeartbeats 4000000 in
set_option maxRecDepth 100000 in
/-- wipe -/
theorem k_MD_wipe (l : Launch) (D : va_G) (cI cJ : ClassId) (w0 : Nat) (w1 : Nat) (w2 : Nat) (w3 : Nat) (w4 : Nat) (w5 : Nat) (w6 : Nat) (w7 : Nat) (w8 : Nat) (w9 : Nat) (w10 : Nat) (w11 : Nat) (w12 : Nat) (w13 : Nat) (w14 : Nat) (yt : Int32) (te : Int32) (nt : Int32) (wb : Int32) (rc : Int32) (fp : Int32) (ft : Int32) (th : Int32) (fi : Nat → Int32) (sz : Nat)  : Met l y_MD_wipe ws_MD_wipe ({ frames := 0, cells := 0, slots := 0, locals := 0 } : Room) (va_Pc [.ref w0] (Pw D cI cJ [(w0, .inr (5, [.ref w1, .ref w2, .int yt, .int te, .ref w3, .ref w4, .ref w5, .int nt, .int wb, .ref w6, .ref w7, .ref w8, .int rc, .ref w9, .ref w10, .ref w11, .ref w12, .ref w13, .ref w14, .int fp, .int ft, .int th])), (w3, .inl (cI, 1600, .inl fi))] sz)) (va_Qv (fun (_u : Unit) => True) (fun _u t9 => Bw D (va_A [(w0, .inr (5, [.ref w1, .ref w2, .int yt, .int te, .ref w3, .ref w4, .ref w5, .int nt, .int wb, .ref w6, .ref w7, .ref w8, .int rc, .ref w9, .ref w10, .ref w11, .ref w12, .ref w13, .ref w14, .int fp, .int ft, .int th])), (w3, .inl (cI, 1600, .inl fi))] sz) [(w0, .inr (5, [.ref w1, .ref w2, .int yt, .int te, .ref w3, .ref w4, .ref w5, .int (nI 0), .int (nI 0), .ref w6, .ref w7, .ref w8, .int rc, .ref w9, .ref w10, .ref w11, .ref w12, .ref w13, .ref w14, .int fp, .int ft, .int th])), (w3, .inl (cI, 1600, .inl (flI fi (nI 0) 1600)))] t9) (va_A [(w0, .inr (5, [.ref w1, .ref w2, .int yt, .int te, .ref w3, .ref w4, .ref w5, .int nt, .int wb, .ref w6, .ref w7, .ref w8, .int rc, .ref w9, .ref w10, .ref w11, .ref w12, .ref w13, .ref w14, .int fp, .int ft, .int th])), (w3, .inl (cI, 1600, .inl fi))] sz)) 0 0 (va_A [(w0, .inr (5, [.ref w1, .ref w2, .int yt, .int te, .ref w3, .ref w4, .ref w5, .int nt, .int wb, .ref w6, .ref w7, .ref w8, .int rc, .ref w9, .ref w10, .ref w11, .ref w12, .ref w13, .ref w14, .int fp, .int ft, .int th])), (w3, .inl (cI, 1600, .inl fi))] sz) := by
  refine Met.ofW (cc := c_MD_wipe) (maxL := 2) (ret := none) (by decide) rfl ?_
  intro p e s m args below meth c s₁ B hml hv
  obtain ⟨rfl, hsz, hE, hP, hD0, hX⟩ := hv
  have hx := B.exec
  have hb := B.bytes
  have hr := B.returns
  have hw : ∀ w ∈ gw, w.before _ s = true := fun w h => atoms_spec (ws := ws_MD_wipe) B.pre w (List.mem_cons_of_mem _ h)
  have hown : s.vm.findClass R_MD = some m.cls := findClass_of_methodNamed B.named
  have hlocks := B.notSynchronized
  subst hsz
  have hD := hD0.self (sz := s.heap.size)
  generalize hAe : va_A [(w0, .inr (5, [.ref w1, .ref w2, .int yt, .int te, .ref w3, .ref w4, .ref w5, .int nt, .int wb, .ref w6, .ref w7, .ref w8, .int rc, .ref w9, .ref w10, .ref w11, .ref w12, .ref w13, .ref w14, .int fp, .int ft, .int th])), (w3, .inl (cI, 1600, .inl fi))] s.heap.size = A at hD hX ⊢
  have hA : ∀ q : Nat, s.heap.size ≤ q → A q := fun q h => by rw [← hAe]; exact Or.inr h
  have hS : va_S A s.heap s.heap [] := va_S.rf
  have hP : va_P D vwCl [(w0, .inr (5, [.ref w1, .ref w2, .int yt, .int te, .ref w3, .ref w4, .ref w5, .int nt, .int wb, .ref w6, .ref w7, .ref w8, .int rc, .ref w9, .ref w10, .ref w11, .ref w12, .ref w13, .ref w14, .int fp, .int ft, .int th])), (w3, .inl (cI, 1600, .inl fi))] s.heap := hP
  have hl := lv_entry ([.ref w0]) (n := 2) (Nat.le_of_ble_eq_true rfl)
  rw [lg_entry_eq]
  generalize (lg_sl ([.ref w0]) ++ List.replicate (2 - (lg_sl ([.ref w0])).length) Slot.unset).toArray = ls at hl ⊢
  have hl : lv_has ls 2 [(0, .ref w0)] := hl
  refine lv_iconst (v := nI 0) hx hb d_MD_wipe_0 (by decide +kernel) ?_
  refine lv_istore_n (lv' := [(1, .int (nI 0)), (0, .ref w0)]) hx hb d_MD_wipe_1 rfl hl (by decide) rfl (fun ls hl => ?_)
  rw [← flI_zero fi (nI 0)] at hP hD
  refine lp_k_MD_wipe_2 w0 w1 w2 w3 w4 w5 w6 w7 w8 w9 w10 w11 w12 w13 w14 yt te nt wb rc fp ft th fi hx hb hml hown hw hE hX hA (fun H locs ls hP hD hS hl => ?_) ((1600 - 0) + 1) 0 (Nat.lt_succ_self _) (Nat.zero_le _) _ _ _ (hP.sub [0, 1] rfl) (hD.sub [0, 1] (by decide) rfl) hS (lv_sub hl [1, 0] rfl)
  refine lv_aload_n hx hb d_MD_wipe_22 rfl (lv_at hl 0 rfl) ?_
  refine lv_iconst (v := nI 0) hx hb d_MD_wipe_23 (by decide +kernel) ?_
  refine va_put (D := D) (ci := 5) (v := .int (nI 0)) (ty := .int) (C := R_MD) (T := T_MD) (N := 22) hx hb hw in_MD ty_MD ty_MD_ok nm_MD_ok hown hE.1 hP hD hS 0 rfl rfl 7 (by decide) (hw _ kw_768) (fun _ h9 => h9) rfl (by decide +kernel) rfl rfl (Nat.le_of_ble_eq_true rfl) d_MD_wipe_24 (fun H locs hP hD hS => ?_)
  have hP : va_P D vwCl [(w0, .inr (5, [.ref w1, .ref w2, .int yt, .int te, .ref w3, .ref w4, .ref w5, .int (nI 0), .int wb, .ref w6, .ref w7, .ref w8, .int rc, .ref w9, .ref w10, .ref w11, .ref w12, .ref w13, .ref w14, .int fp, .int ft, .int th])), (w3, .inl (cI, 1600, .inl (flI fi (nI 0) 1600)))] H := hP
  have hD : va_D A [(w0, .inr (5, [.ref w1, .ref w2, .int yt, .int te, .ref w3, .ref w4, .ref w5, .int (nI 0), .int wb, .ref w6, .ref w7, .ref w8, .int rc, .ref w9, .ref w10, .ref w11, .ref w12, .ref w13, .ref w14, .int fp, .int ft, .int th])), (w3, .inl (cI, 1600, .inl (flI fi (nI 0) 1600)))] := hD
  refine lv_aload_n hx hb d_MD_wipe_27 rfl (lv_at hl 0 rfl) ?_
  refine lv_iconst (v := nI 0) hx hb d_MD_wipe_28 (by decide +kernel) ?_
  refine va_put (D := D) (ci := 5) (v := .int (nI 0)) (ty := .boolean) (C := R_MD) (T := T_MD) (N := 22) hx hb hw in_MD ty_MD ty_MD_ok nm_MD_ok hown hE.1 hP hD hS 0 rfl rfl 8 (by decide) (hw _ kw_769) (fun _ h9 => h9) rfl (by decide +kernel) (by decide +kernel) (by decide +kernel) (Nat.le_of_ble_eq_true rfl) d_MD_wipe_29 (fun H locs hP hD hS => ?_)
  have hP : va_P D vwCl [(w0, .inr (5, [.ref w1, .ref w2, .int yt, .int te, .ref w3, .ref w4, .ref w5, .int (nI 0), .int (nI 0), .ref w6, .ref w7, .ref w8, .int rc, .ref w9, .ref w10, .ref w11, .ref w12, .ref w13, .ref w14, .int fp, .int ft, .int th])), (w3, .inl (cI, 1600, .inl (flI fi (nI 0) 1600)))] H := hP
  have hD : va_D A [(w0, .inr (5, [.ref w1, .ref w2, .int yt, .int te, .ref w3, .ref w4, .ref w5, .int (nI 0), .int (nI 0), .ref w6, .ref w7, .ref w8, .int rc, .ref w9, .ref w10, .ref w11, .ref w12, .ref w13, .ref w14, .int fp, .int ft, .int th])), (w3, .inl (cI, 1600, .inl (flI fi (nI 0) 1600)))] := hD
  have hP9 := hP.sub (ws' := [(w0, .inr (5, [.ref w1, .ref w2, .int yt, .int te, .ref w3, .ref w4, .ref w5, .int (nI 0), .int (nI 0), .ref w6, .ref w7, .ref w8, .int rc, .ref w9, .ref w10, .ref w11, .ref w12, .ref w13, .ref w14, .int fp, .int ft, .int th])), (w3, .inl (cI, 1600, .inl (flI fi (nI 0) 1600)))]) [0, 1] rfl
  have hD9 := hD.sub (ws' := [(w0, .inr (5, [.ref w1, .ref w2, .int yt, .int te, .ref w3, .ref w4, .ref w5, .int (nI 0), .int (nI 0), .ref w6, .ref w7, .ref w8, .int rc, .ref w9, .ref w10, .ref w11, .ref w12, .ref w13, .ref w14, .int fp, .int ft, .int th])), (w3, .inl (cI, 1600, .inl (flI fi (nI 0) 1600)))]) [0, 1] (by decide) rfl
  exact W.vret hx hb hr (fun t9 ht hW => ⟨⟨(), rfl, trivial, ⟨by rw [ht]; exact hP9, hD9⟩⟩, hS.F ht⟩) hS.2.2 d_MD_wipe_32
def agS (gl : Nat → Int32) (t : Nat) (a b c d : Int32) : Nat → Int32 := upd (upd (upd (upd gl (4 * t) a) (4 * t + 1) b) (4 * t + 2) c) (4 * t + 3) d
set_option maxHeartbeats 4000000 in
set_option maxRecDepth 100000 in
/-- add -/
theorem k_MD_add (l : Launch) (D : va_G) (cI cJ : ClassId) (w0 : Nat) (w1 : Nat) (w2 : Nat) (w3 : Nat) (w4 : Nat) (w5 : Nat) (w6 : Nat) (w7 : Nat) (w8 : Nat) (w9 : Nat) (w10 : Nat) (w11 : Nat) (w12 : Nat) (w13 : Nat) (w14 : Nat) (y : Nat) (te : Int32) (nt : Int32) (wb : Int32) (rc : Int32) (fp : Int32) (ft : Int32) (th : Int32) (gl : Nat → Int32) (x : Int32) (z : Int32) (v : Int32) (w : Int32) (sz : Nat) (hy : y < 60) : Met l y_MD_add ws_MD_add ({ frames := 0, cells := 0, slots := 0, locals := 0 } : Room) (va_Pc [.ref w0, .int x, .int z, .int v, .int w] (Pw D cI cJ [(w0, .inr (5, [.ref w1, .ref w2, .int (nI y), .int te, .ref w3, .ref w4, .ref w5, .int nt, .int wb, .ref w6, .ref w7, .ref w8, .int rc, .ref w9, .ref w10, .ref w11, .ref w12, .ref w13, .ref w14, .int fp, .int ft, .int th])), (w2, .inl (cI, 244, .inl gl))] sz)) (va_Qi (fun (r : Int32) (_u : Unit) => r = nI (y + 1)) (fun _u t9 => Bw D (va_A [(w0, .inr (5, [.ref w1, .ref w2, .int (nI y), .int te, .ref w3, .ref w4, .ref w5, .int nt, .int wb, .ref w6, .ref w7, .ref w8, .int rc, .ref w9, .ref w10, .ref w11, .ref w12, .ref w13, .ref w14, .int fp, .int ft, .int th])), (w2, .inl (cI, 244, .inl gl))] sz) [(w0, .inr (5, [.ref w1, .ref w2, .int (nI (y + 1)), .int te, .ref w3, .ref w4, .ref w5, .int nt, .int wb, .ref w6, .ref w7, .ref w8, .int rc, .ref w9, .ref w10, .ref w11, .ref w12, .ref w13, .ref w14, .int fp, .int ft, .int th])), (w2, .inl (cI, 244, .inl (agS gl (y + 1) x z v w)))] t9) (va_A [(w0, .inr (5, [.ref w1, .ref w2, .int (nI y), .int te, .ref w3, .ref w4, .ref w5, .int nt, .int wb, .ref w6, .ref w7, .ref w8, .int rc, .ref w9, .ref w10, .ref w11, .ref w12, .ref w13, .ref w14, .int fp, .int ft, .int th])), (w2, .inl (cI, 244, .inl gl))] sz)) 0 0 (va_A [(w0, .inr (5, [.ref w1, .ref w2, .int (nI y), .int te, .ref w3, .ref w4, .ref w5, .int nt, .int wb, .ref w6, .ref w7, .ref w8, .int rc, .ref w9, .ref w10, .ref w11, .ref w12, .ref w13, .ref w14, .int fp, .int ft, .int th])), (w2, .inl (cI, 244, .inl gl))] sz) := by
  refine Met.ofW (cc := c_MD_add) (maxL := 5) (ret := (some .int)) (by decide) rfl ?_
  intro p e s m args below meth c s₁ B hml hv
  obtain ⟨rfl, hsz, hE, hP, hD0, hX⟩ := hv
  have hx := B.exec
  have hb := B.bytes
  have hr := B.returns
  have hw : ∀ w ∈ gw, w.before _ s = true := fun w h => atoms_spec (ws := ws_MD_add) B.pre w (List.mem_cons_of_mem _ h)
  have hown : s.vm.findClass R_MD = some m.cls := findClass_of_methodNamed B.named
  have hlocks := B.notSynchronized
  subst hsz
  have hD := hD0.self (sz := s.heap.size)
  generalize hAe : va_A [(w0, .inr (5, [.ref w1, .ref w2, .int (nI y), .int te, .ref w3, .ref w4, .ref w5, .int nt, .int wb, .ref w6, .ref w7, .ref w8, .int rc, .ref w9, .ref w10, .ref w11, .ref w12, .ref w13, .ref w14, .int fp, .int ft, .int th])), (w2, .inl (cI, 244, .inl gl))] s.heap.size = A at hD hX ⊢
  have hA : ∀ q : Nat, s.heap.size ≤ q → A q := fun q h => by rw [← hAe]; exact Or.inr h
  have hS : va_S A s.heap s.heap [] := va_S.rf
  have hP : va_P D vwCl [(w0, .inr (5, [.ref w1, .ref w2, .int (nI y), .int te, .ref w3, .ref w4, .ref w5, .int nt, .int wb, .ref w6, .ref w7, .ref w8, .int rc, .ref w9, .ref w10, .ref w11, .ref w12, .ref w13, .ref w14, .int fp, .int ft, .int th])), (w2, .inl (cI, 244, .inl gl))] s.heap := hP
  have hl := lv_entry ([.ref w0, .int x, .int z, .int v, .int w]) (n := 5) (Nat.le_of_ble_eq_true rfl)
  rw [lg_entry_eq]
  generalize (lg_sl ([.ref w0, .int x, .int z, .int v, .int w]) ++ List.replicate (5 - (lg_sl ([.ref w0, .int x, .int z, .int v, .int w])).length) Slot.unset).toArray = ls at hl ⊢
  have hl : lv_has ls 5 [(0, .ref w0), (1, .int x), (2, .int z), (3, .int v), (4, .int w)] := hl
  refine lv_aload_n hx hb d_MD_add_0 rfl (lv_at hl 0 rfl) ?_
  refine lv_dup hx hb d_MD_add_1 rfl ?_
  refine va_get (D := D) (ci := 5) (v := .int (nI y)) (C := R_MD) (T := T_MD) (N := 22) hx hb hw in_MD hown hE.1 hP 0 rfl rfl 2 (by decide) (hw _ kw_763) (fun _ h9 => h9) rfl d_MD_add_2 ?_
  refine lv_iconst (v := nI 1) hx hb d_MD_add_5 (by decide +kernel) ?_
  refine jn_iadd (a := y) (b := 1) hx hb d_MD_add_6 ?_
  refine va_put (D := D) (ci := 5) (v := .int (nI (y + 1))) (ty := .int) (C := R_MD) (T := T_MD) (N := 22) hx hb hw in_MD ty_MD ty_MD_ok nm_MD_ok hown hE.1 hP hD hS 0 rfl rfl 2 (by decide) (hw _ kw_763) (fun _ h9 => h9) rfl (by decide +kernel) rfl rfl (Nat.le_of_ble_eq_true rfl) d_MD_add_7 (fun H locs hP hD hS => ?_)
  have hP : va_P D vwCl [(w0, .inr (5, [.ref w1, .ref w2, .int (nI (y + 1)), .int te, .ref w3, .ref w4, .ref w5, .int nt, .int wb, .ref w6, .ref w7, .ref w8, .int rc, .ref w9, .ref w10, .ref w11, .ref w12, .ref w13, .ref w14, .int fp, .int ft, .int th])), (w2, .inl (cI, 244, .inl gl))] H := hP
  have hD : va_D A [(w0, .inr (5, [.ref w1, .ref w2, .int (nI (y + 1)), .int te, .ref w3, .ref w4, .ref w5, .int nt, .int wb, .ref w6, .ref w7, .ref w8, .int rc, .ref w9, .ref w10, .ref w11, .ref w12, .ref w13, .ref w14, .int fp, .int ft, .int th])), (w2, .inl (cI, 244, .inl gl))] := hD
  refine lv_aload_n hx hb d_MD_add_10 rfl (lv_at hl 0 rfl) ?_
  refine va_get (D := D) (ci := 5) (v := .ref w2) (C := R_MD) (T := T_MD) (N := 22) hx hb hw in_MD hown hE.1 hP 0 rfl rfl 1 (by decide) (hw _ kw_762) (fun _ h9 => h9) rfl d_MD_add_11 ?_
  refine lv_iconst (v := nI 4) hx hb d_MD_add_14 (by decide +kernel) ?_
  refine lv_aload_n hx hb d_MD_add_15 rfl (lv_at hl 0 rfl) ?_
  refine va_get (D := D) (ci := 5) (v := .int (nI (y + 1))) (C := R_MD) (T := T_MD) (N := 22) hx hb hw in_MD hown hE.1 hP 0 rfl rfl 2 (by decide) (hw _ kw_763) (fun _ h9 => h9) rfl d_MD_add_16 ?_
  refine jn_imul (a := 4) (b := (y + 1)) hx hb d_MD_add_19 ?_
  refine lv_iload_n hx hb d_MD_add_20 rfl (lv_at hl 1 rfl) ?_
  refine jn_iast (k := (4 * (y + 1))) hx hb hE.1 hP hD hS 1 0 rfl rfl (by omega) (by omega) d_MD_add_21 (fun H locs hP hD hS => ?_)
  have hP : va_P D vwCl [(w0, .inr (5, [.ref w1, .ref w2, .int (nI (y + 1)), .int te, .ref w3, .ref w4, .ref w5, .int nt, .int wb, .ref w6, .ref w7, .ref w8, .int rc, .ref w9, .ref w10, .ref w11, .ref w12, .ref w13, .ref w14, .int fp, .int ft, .int th])), (w2, .inl (cI, 244, .inl (upd gl (4 * (y + 1)) x)))] H := hP
  have hD : va_D A [(w0, .inr (5, [.ref w1, .ref w2, .int (nI (y + 1)), .int te, .ref w3, .ref w4, .ref w5, .int nt, .int wb, .ref w6, .ref w7, .ref w8, .int rc, .ref w9, .ref w10, .ref w11, .ref w12, .ref w13, .ref w14, .int fp, .int ft, .int th])), (w2, .inl (cI, 244, .inl (upd gl (4 * (y + 1)) x)))] := hD
  refine lv_aload_n hx hb d_MD_add_22 rfl (lv_at hl 0 rfl) ?_
  refine va_get (D := D) (ci := 5) (v := .ref w2) (C := R_MD) (T := T_MD) (N := 22) hx hb hw in_MD hown hE.1 hP 0 rfl rfl 1 (by decide) (hw _ kw_762) (fun _ h9 => h9) rfl d_MD_add_23 ?_
  refine lv_iconst (v := nI 4) hx hb d_MD_add_26 (by decide +kernel) ?_
  refine lv_aload_n hx hb d_MD_add_27 rfl (lv_at hl 0 rfl) ?_
  refine va_get (D := D) (ci := 5) (v := .int (nI (y + 1))) (C := R_MD) (T := T_MD) (N := 22) hx hb hw in_MD hown hE.1 hP 0 rfl rfl 2 (by decide) (hw _ kw_763) (fun _ h9 => h9) rfl d_MD_add_28 ?_
  refine jn_imul (a := 4) (b := (y + 1)) hx hb d_MD_add_31 ?_
  refine lv_iconst (v := nI 1) hx hb d_MD_add_32 (by decide +kernel) ?_
  refine jn_iadd (a := (4 * (y + 1))) (b := 1) hx hb d_MD_add_33 ?_
  refine lv_iload_n hx hb d_MD_add_34 rfl (lv_at hl 2 rfl) ?_
  refine jn_iast (k := ((4 * (y + 1)) + 1)) hx hb hE.1 hP hD hS 1 0 rfl rfl (by omega) (by omega) d_MD_add_35 (fun H locs hP hD hS => ?_)
  have hP : va_P D vwCl [(w0, .inr (5, [.ref w1, .ref w2, .int (nI (y + 1)), .int te, .ref w3, .ref w4, .ref w5, .int nt, .int wb, .ref w6, .ref w7, .ref w8, .int rc, .ref w9, .ref w10, .ref w11, .ref w12, .ref w13, .ref w14, .int fp, .int ft, .int th])), (w2, .inl (cI, 244, .inl (upd (upd gl (4 * (y + 1)) x) ((4 * (y + 1)) + 1) z)))] H := hP
  have hD : va_D A [(w0, .inr (5, [.ref w1, .ref w2, .int (nI (y + 1)), .int te, .ref w3, .ref w4, .ref w5, .int nt, .int wb, .ref w6, .ref w7, .ref w8, .int rc, .ref w9, .ref w10, .ref w11, .ref w12, .ref w13, .ref w14, .int fp, .int ft, .int th])), (w2, .inl (cI, 244, .inl (upd (upd gl (4 * (y + 1)) x) ((4 * (y + 1)) + 1) z)))] := hD
  refine lv_aload_n hx hb d_MD_add_36 rfl (lv_at hl 0 rfl) ?_
  refine va_get (D := D) (ci := 5) (v := .ref w2) (C := R_MD) (T := T_MD) (N := 22) hx hb hw in_MD hown hE.1 hP 0 rfl rfl 1 (by decide) (hw _ kw_762) (fun _ h9 => h9) rfl d_MD_add_37 ?_
  refine lv_iconst (v := nI 4) hx hb d_MD_add_40 (by decide +kernel) ?_
  refine lv_aload_n hx hb d_MD_add_41 rfl (lv_at hl 0 rfl) ?_
  refine va_get (D := D) (ci := 5) (v := .int (nI (y + 1))) (C := R_MD) (T := T_MD) (N := 22) hx hb hw in_MD hown hE.1 hP 0 rfl rfl 2 (by decide) (hw _ kw_763) (fun _ h9 => h9) rfl d_MD_add_42 ?_
  refine jn_imul (a := 4) (b := (y + 1)) hx hb d_MD_add_45 ?_
  refine lv_iconst (v := nI 2) hx hb d_MD_add_46 (by decide +kernel) ?_
  refine jn_iadd (a := (4 * (y + 1))) (b := 2) hx hb d_MD_add_47 ?_
  refine lv_iload_n hx hb d_MD_add_48 rfl (lv_at hl 3 rfl) ?_
  refine jn_iast (k := ((4 * (y + 1)) + 2)) hx hb hE.1 hP hD hS 1 0 rfl rfl (by omega) (by omega) d_MD_add_49 (fun H locs hP hD hS => ?_)
  have hP : va_P D vwCl [(w0, .inr (5, [.ref w1, .ref w2, .int (nI (y + 1)), .int te, .ref w3, .ref w4, .ref w5, .int nt, .int wb, .ref w6, .ref w7, .ref w8, .int rc, .ref w9, .ref w10, .ref w11, .ref w12, .ref w13, .ref w14, .int fp, .int ft, .int th])), (w2, .inl (cI, 244, .inl (upd (upd (upd gl (4 * (y + 1)) x) ((4 * (y + 1)) + 1) z) ((4 * (y + 1)) + 2) v)))] H := hP
  have hD : va_D A [(w0, .inr (5, [.ref w1, .ref w2, .int (nI (y + 1)), .int te, .ref w3, .ref w4, .ref w5, .int nt, .int wb, .ref w6, .ref w7, .ref w8, .int rc, .ref w9, .ref w10, .ref w11, .ref w12, .ref w13, .ref w14, .int fp, .int ft, .int th])), (w2, .inl (cI, 244, .inl (upd (upd (upd gl (4 * (y + 1)) x) ((4 * (y + 1)) + 1) z) ((4 * (y + 1)) + 2) v)))] := hD
  refine lv_aload_n hx hb d_MD_add_50 rfl (lv_at hl 0 rfl) ?_
  refine va_get (D := D) (ci := 5) (v := .ref w2) (C := R_MD) (T := T_MD) (N := 22) hx hb hw in_MD hown hE.1 hP 0 rfl rfl 1 (by decide) (hw _ kw_762) (fun _ h9 => h9) rfl d_MD_add_51 ?_
  refine lv_iconst (v := nI 4) hx hb d_MD_add_54 (by decide +kernel) ?_
  refine lv_aload_n hx hb d_MD_add_55 rfl (lv_at hl 0 rfl) ?_
  refine va_get (D := D) (ci := 5) (v := .int (nI (y + 1))) (C := R_MD) (T := T_MD) (N := 22) hx hb hw in_MD hown hE.1 hP 0 rfl rfl 2 (by decide) (hw _ kw_763) (fun _ h9 => h9) rfl d_MD_add_56 ?_
  refine jn_imul (a := 4) (b := (y + 1)) hx hb d_MD_add_59 ?_
  refine lv_iconst (v := nI 3) hx hb d_MD_add_60 (by decide +kernel) ?_
  refine jn_iadd (a := (4 * (y + 1))) (b := 3) hx hb d_MD_add_61 ?_
  refine lv_iload hx hb d_MD_add_62 (lv_at hl 4 rfl) ?_
  refine jn_iast (k := ((4 * (y + 1)) + 3)) hx hb hE.1 hP hD hS 1 0 rfl rfl (by omega) (by omega) d_MD_add_64 (fun H locs hP hD hS => ?_)
  have hP : va_P D vwCl [(w0, .inr (5, [.ref w1, .ref w2, .int (nI (y + 1)), .int te, .ref w3, .ref w4, .ref w5, .int nt, .int wb, .ref w6, .ref w7, .ref w8, .int rc, .ref w9, .ref w10, .ref w11, .ref w12, .ref w13, .ref w14, .int fp, .int ft, .int th])), (w2, .inl (cI, 244, .inl (upd (upd (upd (upd gl (4 * (y + 1)) x) ((4 * (y + 1)) + 1) z) ((4 * (y + 1)) + 2) v) ((4 * (y + 1)) + 3) w)))] H := hP
  have hD : va_D A [(w0, .inr (5, [.ref w1, .ref w2, .int (nI (y + 1)), .int te, .ref w3, .ref w4, .ref w5, .int nt, .int wb, .ref w6, .ref w7, .ref w8, .int rc, .ref w9, .ref w10, .ref w11, .ref w12, .ref w13, .ref w14, .int fp, .int ft, .int th])), (w2, .inl (cI, 244, .inl (upd (upd (upd (upd gl (4 * (y + 1)) x) ((4 * (y + 1)) + 1) z) ((4 * (y + 1)) + 2) v) ((4 * (y + 1)) + 3) w)))] := hD
  refine lv_aload_n hx hb d_MD_add_65 rfl (lv_at hl 0 rfl) ?_
  refine va_get (D := D) (ci := 5) (v := .int (nI (y + 1))) (C := R_MD) (T := T_MD) (N := 22) hx hb hw in_MD hown hE.1 hP 0 rfl rfl 2 (by decide) (hw _ kw_763) (fun _ h9 => h9) rfl d_MD_add_66 ?_
  have hP9 := hP.sub (ws' := [(w0, .inr (5, [.ref w1, .ref w2, .int (nI (y + 1)), .int te, .ref w3, .ref w4, .ref w5, .int nt, .int wb, .ref w6, .ref w7, .ref w8, .int rc, .ref w9, .ref w10, .ref w11, .ref w12, .ref w13, .ref w14, .int fp, .int ft, .int th])), (w2, .inl (cI, 244, .inl (upd (upd (upd (upd gl (4 * (y + 1)) x) ((4 * (y + 1)) + 1) z) ((4 * (y + 1)) + 2) v) ((4 * (y + 1)) + 3) w)))]) [0, 1] rfl
  have hD9 := hD.sub (ws' := [(w0, .inr (5, [.ref w1, .ref w2, .int (nI (y + 1)), .int te, .ref w3, .ref w4, .ref w5, .int nt, .int wb, .ref w6, .ref w7, .ref w8, .int rc, .ref w9, .ref w10, .ref w11, .ref w12, .ref w13, .ref w14, .int fp, .int ft, .int th])), (w2, .inl (cI, 244, .inl (upd (upd (upd (upd gl (4 * (y + 1)) x) ((4 * (y + 1)) + 1) z) ((4 * (y + 1)) + 2) v) ((4 * (y + 1)) + 3) w)))]) [0, 1] (by decide) rfl
  exact W.iret (v := nI (y + 1)) hx hb hr (fun t9 ht hW => ⟨⟨_, (), rfl, rfl, ⟨by rw [ht]; exact hP9, hD9⟩⟩, hS.F ht⟩) hS.2.2 d_MD_add_69
set_option maxHeartbeats 4000000 in
set_option maxRecDepth 100000 in
/-- clear -/
theorem k_MD_clear (l : Launch) (D : va_G) (cI cJ : ClassId) (w0 : Nat) (w1 : Nat) (w2 : Nat) (w3 : Nat) (w4 : Nat) (w5 : Nat) (w6 : Nat) (w7 : Nat) (w8 : Nat) (w9 : Nat) (w10 : Nat) (w11 : Nat) (w12 : Nat) (w13 : Nat) (w14 : Nat) (yt : Int32) (te : Int32) (nt : Int32) (wb : Int32) (rc : Int32) (fp : Int32) (ft : Int32) (th : Int32) (fi : Nat → Int32) (sz : Nat)  : Met l y_MD_clear ws_MD_clear ({ frames := 1, cells := 0, slots := 0, locals := 21 } : Room) (va_Pc [.ref w0] (Pw D cI cJ [(w0, .inr (5, [.ref w1, .ref w2, .int yt, .int te, .ref w3, .ref w4, .ref w5, .int nt, .int wb, .ref w6, .ref w7, .ref w8, .int rc, .ref w9, .ref w10, .ref w11, .ref w12, .ref w13, .ref w14, .int fp, .int ft, .int th])), (w3, .inl (cI, 1600, .inl fi))] sz)) (va_Qi (fun (r : Int32) (_u : Unit) => r = nt) (fun _u t9 => Bw D (va_A [(w0, .inr (5, [.ref w1, .ref w2, .int yt, .int te, .ref w3, .ref w4, .ref w5, .int nt, .int wb, .ref w6, .ref w7, .ref w8, .int rc, .ref w9, .ref w10, .ref w11, .ref w12, .ref w13, .ref w14, .int fp, .int ft, .int th])), (w3, .inl (cI, 1600, .inl fi))] sz) [(w0, .inr (5, [.ref w1, .ref w2, .int yt, .int te, .ref w3, .ref w4, .ref w5, .int (nI 0), .int (nI 0), .ref w6, .ref w7, .ref w8, .int rc, .ref w9, .ref w10, .ref w11, .ref w12, .ref w13, .ref w14, .int fp, .int ft, .int (nI 0)])), (w3, .inl (cI, 1600, .inl (flI fi (nI 0) 1600)))] t9) (va_A [(w0, .inr (5, [.ref w1, .ref w2, .int yt, .int te, .ref w3, .ref w4, .ref w5, .int nt, .int wb, .ref w6, .ref w7, .ref w8, .int rc, .ref w9, .ref w10, .ref w11, .ref w12, .ref w13, .ref w14, .int fp, .int ft, .int th])), (w3, .inl (cI, 1600, .inl fi))] sz)) 0 0 (va_A [(w0, .inr (5, [.ref w1, .ref w2, .int yt, .int te, .ref w3, .ref w4, .ref w5, .int nt, .int wb, .ref w6, .ref w7, .ref w8, .int rc, .ref w9, .ref w10, .ref w11, .ref w12, .ref w13, .ref w14, .int fp, .int ft, .int th])), (w3, .inl (cI, 1600, .inl fi))] sz) := by
  refine Met.ofW (cc := c_MD_clear) (maxL := 2) (ret := (some .int)) (by decide) rfl ?_
  intro p e s m args below meth c s₁ B hml hv
  obtain ⟨rfl, hsz, hE, hP, hD0, hX⟩ := hv
  have hx := B.exec
  have hb := B.bytes
  have hr := B.returns
  have hw : ∀ w ∈ gw, w.before _ s = true := fun w h => atoms_spec (ws := ws_MD_clear) B.pre w (List.mem_cons_of_mem _ h)
  have hown : s.vm.findClass R_MD = some m.cls := findClass_of_methodNamed B.named
  have hlocks := B.notSynchronized
  subst hsz
  have hD := hD0.self (sz := s.heap.size)
  generalize hAe : va_A [(w0, .inr (5, [.ref w1, .ref w2, .int yt, .int te, .ref w3, .ref w4, .ref w5, .int nt, .int wb, .ref w6, .ref w7, .ref w8, .int rc, .ref w9, .ref w10, .ref w11, .ref w12, .ref w13, .ref w14, .int fp, .int ft, .int th])), (w3, .inl (cI, 1600, .inl fi))] s.heap.size = A at hD hX ⊢
  have hA : ∀ q : Nat, s.heap.size ≤ q → A q := fun q h => by rw [← hAe]; exact Or.inr h
  have hS : va_S A s.heap s.heap [] := va_S.rf
  have hP : va_P D vwCl [(w0, .inr (5, [.ref w1, .ref w2, .int yt, .int te, .ref w3, .ref w4, .ref w5, .int nt, .int wb, .ref w6, .ref w7, .ref w8, .int rc, .ref w9, .ref w10, .ref w11, .ref w12, .ref w13, .ref w14, .int fp, .int ft, .int th])), (w3, .inl (cI, 1600, .inl fi))] s.heap := hP
  have hl := lv_entry ([.ref w0]) (n := 2) (Nat.le_of_ble_eq_true rfl)
  rw [lg_entry_eq]
  generalize (lg_sl ([.ref w0]) ++ List.replicate (2 - (lg_sl ([.ref w0])).length) Slot.unset).toArray = ls at hl ⊢
  have hl : lv_has ls 2 [(0, .ref w0)] := hl
  refine lv_aload_n hx hb d_MD_clear_0 rfl (lv_at hl 0 rfl) ?_
  refine lv_iconst (v := nI 0) hx hb d_MD_clear_1 (by decide +kernel) ?_
  refine va_put (D := D) (ci := 5) (v := .int (nI 0)) (ty := .int) (C := R_MD) (T := T_MD) (N := 22) hx hb hw in_MD ty_MD ty_MD_ok nm_MD_ok hown hE.1 hP hD hS 0 rfl rfl 21 (by decide) (hw _ kw_782) (fun _ h9 => h9) rfl (by decide +kernel) rfl rfl (Nat.le_of_ble_eq_true rfl) d_MD_clear_2 (fun H locs hP hD hS => ?_)
  have hP : va_P D vwCl [(w0, .inr (5, [.ref w1, .ref w2, .int yt, .int te, .ref w3, .ref w4, .ref w5, .int nt, .int wb, .ref w6, .ref w7, .ref w8, .int rc, .ref w9, .ref w10, .ref w11, .ref w12, .ref w13, .ref w14, .int fp, .int ft, .int (nI 0)])), (w3, .inl (cI, 1600, .inl fi))] H := hP
  have hD : va_D A [(w0, .inr (5, [.ref w1, .ref w2, .int yt, .int te, .ref w3, .ref w4, .ref w5, .int nt, .int wb, .ref w6, .ref w7, .ref w8, .int rc, .ref w9, .ref w10, .ref w11, .ref w12, .ref w13, .ref w14, .int fp, .int ft, .int (nI 0)])), (w3, .inl (cI, 1600, .inl fi))] := hD
  refine lv_aload_n hx hb d_MD_clear_5 rfl (lv_at hl 0 rfl) ?_
  refine va_get (D := D) (ci := 5) (v := .int nt) (C := R_MD) (T := T_MD) (N := 22) hx hb hw in_MD hown hE.1 hP 0 rfl rfl 7 (by decide) (hw _ kw_768) (fun _ h9 => h9) rfl d_MD_clear_6 ?_
  refine lv_istore_n (lv' := [(1, .int nt), (0, .ref w0)]) hx hb d_MD_clear_9 rfl hl (by decide) rfl (fun ls hl => ?_)
  refine lv_aload_n hx hb d_MD_clear_10 rfl (lv_at hl 1 rfl) ?_
  refine cl_v (wr := []) (va_runV (As := []) (rest := []) ⟨hx, hb, hml, hown, hw⟩ (k_MD_wipe l D cI cJ w0 w1 w2 w3 w4 w5 w6 w7 w8 w9 w10 w11 w12 w13 w14 yt te nt wb rc fp ft (nI 0) fi _) (cwV 0 hw (gV kw_874 kw_876 kw_24 kw_45 kw_877) rfl rfl rfl (by decide +kernel) ⟨Nat.le_of_ble_eq_true rfl, Nat.le_of_ble_eq_true rfl⟩) (pre_Vw (wc := [(w0, .inr (5, [.ref w1, .ref w2, .int yt, .int te, .ref w3, .ref w4, .ref w5, .int nt, .int wb, .ref w6, .ref w7, .ref w8, .int rc, .ref w9, .ref w10, .ref w11, .ref w12, .ref w13, .ref w14, .int fp, .int ft, .int (nI 0)])), (w3, .inl (cI, 1600, .inl fi))]) (q0 := 0) hE hX hA hP hD hS [0, 1] (by decide) rfl rfl rfl rfl) rfl rfl hl.1 rfl (lv_room (Nat.le_of_ble_eq_true rfl)) d_MD_clear_11 ⟨Nat.le_of_ble_eq_true rfl, Nat.le_of_ble_eq_true rfl⟩) hP hD hS hA [0, 1] [] rfl rfl (by decide) (by decide) (fun u_r_1 H locs hr_1 hP hD hS => ?_)
  have hP : va_P D vwCl [(w0, .inr (5, [.ref w1, .ref w2, .int yt, .int te, .ref w3, .ref w4, .ref w5, .int (nI 0), .int (nI 0), .ref w6, .ref w7, .ref w8, .int rc, .ref w9, .ref w10, .ref w11, .ref w12, .ref w13, .ref w14, .int fp, .int ft, .int (nI 0)])), (w3, .inl (cI, 1600, .inl (flI fi (nI 0) 1600)))] H := hP
  have hD : va_D A [(w0, .inr (5, [.ref w1, .ref w2, .int yt, .int te, .ref w3, .ref w4, .ref w5, .int (nI 0), .int (nI 0), .ref w6, .ref w7, .ref w8, .int rc, .ref w9, .ref w10, .ref w11, .ref w12, .ref w13, .ref w14, .int fp, .int ft, .int (nI 0)])), (w3, .inl (cI, 1600, .inl (flI fi (nI 0) 1600)))] := hD
  refine lv_iload_n hx hb d_MD_clear_14 rfl (lv_at hl 0 rfl) ?_
  have hP9 := hP.sub (ws' := [(w0, .inr (5, [.ref w1, .ref w2, .int yt, .int te, .ref w3, .ref w4, .ref w5, .int (nI 0), .int (nI 0), .ref w6, .ref w7, .ref w8, .int rc, .ref w9, .ref w10, .ref w11, .ref w12, .ref w13, .ref w14, .int fp, .int ft, .int (nI 0)])), (w3, .inl (cI, 1600, .inl (flI fi (nI 0) 1600)))]) [0, 1] rfl
  have hD9 := hD.sub (ws' := [(w0, .inr (5, [.ref w1, .ref w2, .int yt, .int te, .ref w3, .ref w4, .ref w5, .int (nI 0), .int (nI 0), .ref w6, .ref w7, .ref w8, .int rc, .ref w9, .ref w10, .ref w11, .ref w12, .ref w13, .ref w14, .int fp, .int ft, .int (nI 0)])), (w3, .inl (cI, 1600, .inl (flI fi (nI 0) 1600)))]) [0, 1] (by decide) rfl
  exact W.iret (v := nt) hx hb hr (fun t9 ht hW => ⟨⟨_, (), rfl, rfl, ⟨by rw [ht]; exact hP9, hD9⟩⟩, hS.F ht⟩) hS.2.2 d_MD_clear_15
set_option maxHeartbeats 4000000 in
set_option maxRecDepth 100000 in
theorem lp_k_MD_reset_16 {p : Program} {l : Launch} {e : Env} {s : State} {m : MethodId} {args : Array Value} {below : List Frame} {meth : Method} {c : Code} {D : va_G} {cI cJ : ClassId} {Q : State → Prop} {A : Nat → Prop} (w0 : Nat) (w1 : Nat) (w2 : Nat) (w3 : Nat) (w4 : Nat) (w5 : Nat) (w6 : Nat) (w7 : Nat) (w8 : Nat) (w9 : Nat) (w10 : Nat) (w11 : Nat) (w12 : Nat) (w13 : Nat) (w14 : Nat) (yt : Int32) (te : Int32) (nt : Int32) (wb : Int32) (rc : Int32) (fp : Int32) (ft : Int32) (th : Int32) (sg : Nat → Int32) (fi : Nat → Int32)   (hx : p.tables.exec = Jvm.exec) (hb : c.code = c_MD_reset) (hml : c.maxLocals = 2) (hown : s.vm.findClass R_MD = some m.cls) (hw : ∀ w ∈ gw, w.before args s = true) (hE : En D cI cJ s) (hX : Sx A s s.heap) (hA : ∀ q : Nat, s.heap.size ≤ q → A q)
    (kx0 : ∀ (H : Heap) (locs : List Loc) (ls : Array Slot), va_P D vwCl [(w0, .inr (5, [.ref w1, .ref w2, .int (nI 0), .int te, .ref w3, .ref w4, .ref w5, .int (nI 0), .int (nI 0), .ref w6, .ref w7, .ref w8, .int rc, .ref w9, .ref w10, .ref w11, .ref w12, .ref w13, .ref w14, .int fp, .int ft, .int (nI 0)])), (w1, .inl (cI, 100, .inl (flI sg (nI 0) 100))), (w3, .inl (cI, 1600, .inl (flI fi (nI 0) 1600)))] H → va_D A [(w0, .inr (5, [.ref w1, .ref w2, .int (nI 0), .int te, .ref w3, .ref w4, .ref w5, .int (nI 0), .int (nI 0), .ref w6, .ref w7, .ref w8, .int rc, .ref w9, .ref w10, .ref w11, .ref w12, .ref w13, .ref w14, .int fp, .int ft, .int (nI 0)])), (w1, .inl (cI, 100, .inl (flI sg (nI 0) 100))), (w3, .inl (cI, 1600, .inl (flI fi (nI 0) 1600)))] → va_S A s.heap H locs → lv_has ls 2 [(0, .ref w0)] → W p l e ({ frames := 1, cells := 0, slots := 0, locals := 21 } : Room) s m args below meth c H locs 0 0 Q (F0 m 35 ls [])) :
    ∀ (fu : Nat) (i : Nat), 100 - i < fu → (i ≤ 100) → ∀ (H : Heap) (locs : List Loc) (ls : Array Slot), va_P D vwCl [(w0, .inr (5, [.ref w1, .ref w2, .int (nI 0), .int te, .ref w3, .ref w4, .ref w5, .int (nI 0), .int (nI 0), .ref w6, .ref w7, .ref w8, .int rc, .ref w9, .ref w10, .ref w11, .ref w12, .ref w13, .ref w14, .int fp, .int ft, .int (nI 0)])), (w1, .inl (cI, 100, .inl (flI sg (nI 0) i))), (w3, .inl (cI, 1600, .inl (flI fi (nI 0) 1600)))] H → va_D A [(w0, .inr (5, [.ref w1, .ref w2, .int (nI 0), .int te, .ref w3, .ref w4, .ref w5, .int (nI 0), .int (nI 0), .ref w6, .ref w7, .ref w8, .int rc, .ref w9, .ref w10, .ref w11, .ref w12, .ref w13, .ref w14, .int fp, .int ft, .int (nI 0)])), (w1, .inl (cI, 100, .inl (flI sg (nI 0) i))), (w3, .inl (cI, 1600, .inl (flI fi (nI 0) 1600)))] → va_S A s.heap H locs → lv_has ls 2 [(0, .ref w0), (1, .int (nI i))] → W p l e ({ frames := 1, cells := 0, slots := 0, locals := 21 } : Room) s m args below meth c H locs 0 0 Q (F0 m 16 ls []) := by
  intro fu
  induction fu with
  | zero =>
    intro i h0
    exact absurd h0 (Nat.not_lt_zero _)
  | succ fu ih =>
    intro i hmu hi H locs ls hP hD hS hl
    refine lv_iload_n hx hb d_MD_reset_16 rfl (lv_at hl 1 rfl) ?_
    refine lv_bipush (v := nI 100) hx hb d_MD_reset_17 (by decide +kernel) ?_
    refine jn_icmp_ge (tgt := 35) (a := i) (b := 100) hx hb d_MD_reset_19 (by decide) (by omega) (by omega) (fun c_19 => ?_) (fun c_19 => ?_)
    · skip
      obtain rfl : i = 100 := by omega
      exact kx0   _ _ _ (hP.sub [0, 1, 2] rfl) (hD.sub [0, 1, 2] (by decide) rfl) hS (lv_sub hl [0] rfl)
    · skip
      refine lv_aload_n hx hb d_MD_reset_22 rfl (lv_at hl 0 rfl) ?_
      refine va_get (D := D) (ci := 5) (v := .ref w1) (C := R_MD) (T := T_MD) (N := 22) hx hb hw in_MD hown hE.1 hP 0 rfl rfl 0 (by decide) (hw _ kw_761) (fun _ h9 => h9) rfl d_MD_reset_23 ?_
      refine lv_iload_n hx hb d_MD_reset_26 rfl (lv_at hl 1 rfl) ?_
      refine lv_iconst (v := nI 0) hx hb d_MD_reset_27 (by decide +kernel) ?_
      refine jn_iast (k := i) hx hb hE.1 hP hD hS 1 0 rfl rfl (by omega) (by omega) d_MD_reset_28 (fun H locs hP hD hS => ?_)
      have hP : va_P D vwCl [(w0, .inr (5, [.ref w1, .ref w2, .int (nI 0), .int te, .ref w3, .ref w4, .ref w5, .int (nI 0), .int (nI 0), .ref w6, .ref w7, .ref w8, .int rc, .ref w9, .ref w10, .ref w11, .ref w12, .ref w13, .ref w14, .int fp, .int ft, .int (nI 0)])), (w1, .inl (cI, 100, .inl (upd (flI sg (nI 0) i) i (nI 0)))), (w3, .inl (cI, 1600, .inl (flI fi (nI 0) 1600)))] H := hP
      have hD : va_D A [(w0, .inr (5, [.ref w1, .ref w2, .int (nI 0), .int te, .ref w3, .ref w4, .ref w5, .int (nI 0), .int (nI 0), .ref w6, .ref w7, .ref w8, .int rc, .ref w9, .ref w10, .ref w11, .ref w12, .ref w13, .ref w14, .int fp, .int ft, .int (nI 0)])), (w1, .inl (cI, 100, .inl (upd (flI sg (nI 0) i) i (nI 0)))), (w3, .inl (cI, 1600, .inl (flI fi (nI 0) 1600)))] := hD
      refine lv_iinc (v := nI (i + 1)) (lv' := [(1, .int (nI (i + 1))), (0, .ref w0)]) hx hb d_MD_reset_29 hl (k := 1) rfl (jn_inc i 1) (by decide) rfl (fun ls hl => ?_)
      refine lv_goto (tgt := 16) hx hb d_MD_reset_32 (by decide) ?_
      rw [flI_succ] at hP hD
      exact ih (i + 1) (by omega) (by omega) _ _ _ (hP.sub [0, 1, 2] rfl) (hD.sub [0, 1, 2] (by decide) rfl) hS (lv_sub hl [1, 0] rfl)
set_option maxHeartbeats 4000000 in
set_option maxRecDepth 100000 in
/-- reset -/
theorem k_MD_reset (l : Launch) (D : va_G) (cI cJ : ClassId) (w0 : Nat) (w1 : Nat) (w2 : Nat) (w3 : Nat) (w4 : Nat) (w5 : Nat) (w6 : Nat) (w7 : Nat) (w8 : Nat) (w9 : Nat) (w10 : Nat) (w11 : Nat) (w12 : Nat) (w13 : Nat) (w14 : Nat) (yt : Int32) (te : Int32) (nt : Int32) (wb : Int32) (rc : Int32) (fp : Int32) (ft : Int32) (th : Int32) (sg : Nat → Int32) (fi : Nat → Int32) (sz : Nat)  : Met l y_MD_reset ws_MD_reset ({ frames := 1, cells := 0, slots := 0, locals := 21 } : Room) (va_Pc [.ref w0] (Pw D cI cJ [(w0, .inr (5, [.ref w1, .ref w2, .int yt, .int te, .ref w3, .ref w4, .ref w5, .int nt, .int wb, .ref w6, .ref w7, .ref w8, .int rc, .ref w9, .ref w10, .ref w11, .ref w12, .ref w13, .ref w14, .int fp, .int ft, .int th])), (w1, .inl (cI, 100, .inl sg)), (w3, .inl (cI, 1600, .inl fi))] sz)) (va_Qv (fun (_u : Unit) => True) (fun _u t9 => Bw D (va_A [(w0, .inr (5, [.ref w1, .ref w2, .int yt, .int te, .ref w3, .ref w4, .ref w5, .int nt, .int wb, .ref w6, .ref w7, .ref w8, .int rc, .ref w9, .ref w10, .ref w11, .ref w12, .ref w13, .ref w14, .int fp, .int ft, .int th])), (w1, .inl (cI, 100, .inl sg)), (w3, .inl (cI, 1600, .inl fi))] sz) [(w0, .inr (5, [.ref w1, .ref w2, .int (nI 0), .int (nI 2), .ref w3, .ref w4, .ref w5, .int (nI 0), .int (nI 0), .ref w6, .ref w7, .ref w8, .int rc, .ref w9, .ref w10, .ref w11, .ref w12, .ref w13, .ref w14, .int fp, .int ft, .int (nI 0)])), (w1, .inl (cI, 100, .inl (flI sg (nI 0) 100))), (w3, .inl (cI, 1600, .inl (flI fi (nI 0) 1600)))] t9) (va_A [(w0, .inr (5, [.ref w1, .ref w2, .int yt, .int te, .ref w3, .ref w4, .ref w5, .int nt, .int wb, .ref w6, .ref w7, .ref w8, .int rc, .ref w9, .ref w10, .ref w11, .ref w12, .ref w13, .ref w14, .int fp, .int ft, .int th])), (w1, .inl (cI, 100, .inl sg)), (w3, .inl (cI, 1600, .inl fi))] sz)) 0 0 (va_A [(w0, .inr (5, [.ref w1, .ref w2, .int yt, .int te, .ref w3, .ref w4, .ref w5, .int nt, .int wb, .ref w6, .ref w7, .ref w8, .int rc, .ref w9, .ref w10, .ref w11, .ref w12, .ref w13, .ref w14, .int fp, .int ft, .int th])), (w1, .inl (cI, 100, .inl sg)), (w3, .inl (cI, 1600, .inl fi))] sz) := by
  refine Met.ofW (cc := c_MD_reset) (maxL := 2) (ret := none) (by decide) rfl ?_
  intro p e s m args below meth c s₁ B hml hv
  obtain ⟨rfl, hsz, hE, hP, hD0, hX⟩ := hv
  have hx := B.exec
  have hb := B.bytes
  have hr := B.returns
  have hw : ∀ w ∈ gw, w.before _ s = true := fun w h => atoms_spec (ws := ws_MD_reset) B.pre w (List.mem_cons_of_mem _ h)
  have hown : s.vm.findClass R_MD = some m.cls := findClass_of_methodNamed B.named
  have hlocks := B.notSynchronized
  subst hsz
  have hD := hD0.self (sz := s.heap.size)
  generalize hAe : va_A [(w0, .inr (5, [.ref w1, .ref w2, .int yt, .int te, .ref w3, .ref w4, .ref w5, .int nt, .int wb, .ref w6, .ref w7, .ref w8, .int rc, .ref w9, .ref w10, .ref w11, .ref w12, .ref w13, .ref w14, .int fp, .int ft, .int th])), (w1, .inl (cI, 100, .inl sg)), (w3, .inl (cI, 1600, .inl fi))] s.heap.size = A at hD hX ⊢
  have hA : ∀ q : Nat, s.heap.size ≤ q → A q := fun q h => by rw [← hAe]; exact Or.inr h
  have hS : va_S A s.heap s.heap [] := va_S.rf
  have hP : va_P D vwCl [(w0, .inr (5, [.ref w1, .ref w2, .int yt, .int te, .ref w3, .ref w4, .ref w5, .int nt, .int wb, .ref w6, .ref w7, .ref w8, .int rc, .ref w9, .ref w10, .ref w11, .ref w12, .ref w13, .ref w14, .int fp, .int ft, .int th])), (w1, .inl (cI, 100, .inl sg)), (w3, .inl (cI, 1600, .inl fi))] s.heap := hP
  have hl := lv_entry ([.ref w0]) (n := 2) (Nat.le_of_ble_eq_true rfl)
  rw [lg_entry_eq]
  generalize (lg_sl ([.ref w0]) ++ List.replicate (2 - (lg_sl ([.ref w0])).length) Slot.unset).toArray = ls at hl ⊢
  have hl : lv_has ls 2 [(0, .ref w0)] := hl
  refine lv_aload_n hx hb d_MD_reset_0 rfl (lv_at hl 0 rfl) ?_
  refine lv_iconst (v := nI 0) hx hb d_MD_reset_1 (by decide +kernel) ?_
  refine va_put (D := D) (ci := 5) (v := .int (nI 0)) (ty := .int) (C := R_MD) (T := T_MD) (N := 22) hx hb hw in_MD ty_MD ty_MD_ok nm_MD_ok hown hE.1 hP hD hS 0 rfl rfl 21 (by decide) (hw _ kw_782) (fun _ h9 => h9) rfl (by decide +kernel) rfl rfl (Nat.le_of_ble_eq_true rfl) d_MD_reset_2 (fun H locs hP hD hS => ?_)
  have hP : va_P D vwCl [(w0, .inr (5, [.ref w1, .ref w2, .int yt, .int te, .ref w3, .ref w4, .ref w5, .int nt, .int wb, .ref w6, .ref w7, .ref w8, .int rc, .ref w9, .ref w10, .ref w11, .ref w12, .ref w13, .ref w14, .int fp, .int ft, .int (nI 0)])), (w1, .inl (cI, 100, .inl sg)), (w3, .inl (cI, 1600, .inl fi))] H := hP
  have hD : va_D A [(w0, .inr (5, [.ref w1, .ref w2, .int yt, .int te, .ref w3, .ref w4, .ref w5, .int nt, .int wb, .ref w6, .ref w7, .ref w8, .int rc, .ref w9, .ref w10, .ref w11, .ref w12, .ref w13, .ref w14, .int fp, .int ft, .int (nI 0)])), (w1, .inl (cI, 100, .inl sg)), (w3, .inl (cI, 1600, .inl fi))] := hD
  refine lv_aload_n hx hb d_MD_reset_5 rfl (lv_at hl 0 rfl) ?_
  refine cl_v (wr := [(w1, .inl (cI, 100, .inl sg))]) (va_runV (As := []) (rest := []) ⟨hx, hb, hml, hown, hw⟩ (k_MD_wipe l D cI cJ w0 w1 w2 w3 w4 w5 w6 w7 w8 w9 w10 w11 w12 w13 w14 yt te nt wb rc fp ft (nI 0) fi _) (cwV 0 hw (gV kw_874 kw_876 kw_24 kw_45 kw_877) rfl rfl rfl (by decide +kernel) ⟨Nat.le_of_ble_eq_true rfl, Nat.le_of_ble_eq_true rfl⟩) (pre_Vw (wc := [(w0, .inr (5, [.ref w1, .ref w2, .int yt, .int te, .ref w3, .ref w4, .ref w5, .int nt, .int wb, .ref w6, .ref w7, .ref w8, .int rc, .ref w9, .ref w10, .ref w11, .ref w12, .ref w13, .ref w14, .int fp, .int ft, .int (nI 0)])), (w3, .inl (cI, 1600, .inl fi))]) (q0 := 0) hE hX hA hP hD hS [0, 2] (by decide) rfl rfl rfl rfl) rfl rfl hl.1 rfl (lv_room (Nat.le_of_ble_eq_true rfl)) d_MD_reset_6 ⟨Nat.le_of_ble_eq_true rfl, Nat.le_of_ble_eq_true rfl⟩) hP hD hS hA [0, 2] [1] rfl rfl (by decide) (by decide) (fun u_r_1 H locs hr_1 hP hD hS => ?_)
  have hP : va_P D vwCl [(w1, .inl (cI, 100, .inl sg)), (w0, .inr (5, [.ref w1, .ref w2, .int yt, .int te, .ref w3, .ref w4, .ref w5, .int (nI 0), .int (nI 0), .ref w6, .ref w7, .ref w8, .int rc, .ref w9, .ref w10, .ref w11, .ref w12, .ref w13, .ref w14, .int fp, .int ft, .int (nI 0)])), (w3, .inl (cI, 1600, .inl (flI fi (nI 0) 1600)))] H := hP
  have hD : va_D A [(w1, .inl (cI, 100, .inl sg)), (w0, .inr (5, [.ref w1, .ref w2, .int yt, .int te, .ref w3, .ref w4, .ref w5, .int (nI 0), .int (nI 0), .ref w6, .ref w7, .ref w8, .int rc, .ref w9, .ref w10, .ref w11, .ref w12, .ref w13, .ref w14, .int fp, .int ft, .int (nI 0)])), (w3, .inl (cI, 1600, .inl (flI fi (nI 0) 1600)))] := hD
  refine lv_aload_n hx hb d_MD_reset_9 rfl (lv_at hl 0 rfl) ?_
  refine lv_iconst (v := nI 0) hx hb d_MD_reset_10 (by decide +kernel) ?_
  refine va_put (D := D) (ci := 5) (v := .int (nI 0)) (ty := .int) (C := R_MD) (T := T_MD) (N := 22) hx hb hw in_MD ty_MD ty_MD_ok nm_MD_ok hown hE.1 hP hD hS 1 rfl rfl 2 (by decide) (hw _ kw_763) (fun _ h9 => h9) rfl (by decide +kernel) rfl rfl (Nat.le_of_ble_eq_true rfl) d_MD_reset_11 (fun H locs hP hD hS => ?_)
  have hP : va_P D vwCl [(w1, .inl (cI, 100, .inl sg)), (w0, .inr (5, [.ref w1, .ref w2, .int (nI 0), .int te, .ref w3, .ref w4, .ref w5, .int (nI 0), .int (nI 0), .ref w6, .ref w7, .ref w8, .int rc, .ref w9, .ref w10, .ref w11, .ref w12, .ref w13, .ref w14, .int fp, .int ft, .int (nI 0)])), (w3, .inl (cI, 1600, .inl (flI fi (nI 0) 1600)))] H := hP
  have hD : va_D A [(w1, .inl (cI, 100, .inl sg)), (w0, .inr (5, [.ref w1, .ref w2, .int (nI 0), .int te, .ref w3, .ref w4, .ref w5, .int (nI 0), .int (nI 0), .ref w6, .ref w7, .ref w8, .int rc, .ref w9, .ref w10, .ref w11, .ref w12, .ref w13, .ref w14, .int fp, .int ft, .int (nI 0)])), (w3, .inl (cI, 1600, .inl (flI fi (nI 0) 1600)))] := hD
  refine lv_iconst (v := nI 0) hx hb d_MD_reset_14 (by decide +kernel) ?_
  refine lv_istore_n (lv' := [(1, .int (nI 0)), (0, .ref w0)]) hx hb d_MD_reset_15 rfl hl (by decide) rfl (fun ls hl => ?_)
  rw [← flI_zero sg (nI 0)] at hP hD
  refine lp_k_MD_reset_16 w0 w1 w2 w3 w4 w5 w6 w7 w8 w9 w10 w11 w12 w13 w14 yt te nt wb rc fp ft th sg fi hx hb hml hown hw hE hX hA (fun H locs ls hP hD hS hl => ?_) ((100 - 0) + 1) 0 (Nat.lt_succ_self _) (Nat.zero_le _) _ _ _ (hP.sub [1, 0, 2] rfl) (hD.sub [1, 0, 2] (by decide) rfl) hS (lv_sub hl [1, 0] rfl)
  refine lv_aload_n hx hb d_MD_reset_35 rfl (lv_at hl 0 rfl) ?_
  refine lv_iconst (v := nI 2) hx hb d_MD_reset_36 (by decide +kernel) ?_
  refine va_put (D := D) (ci := 5) (v := .int (nI 2)) (ty := .int) (C := R_MD) (T := T_MD) (N := 22) hx hb hw in_MD ty_MD ty_MD_ok nm_MD_ok hown hE.1 hP hD hS 0 rfl rfl 3 (by decide) (hw _ kw_764) (fun _ h9 => h9) rfl (by decide +kernel) rfl rfl (Nat.le_of_ble_eq_true rfl) d_MD_reset_37 (fun H locs hP hD hS => ?_)
  have hP : va_P D vwCl [(w0, .inr (5, [.ref w1, .ref w2, .int (nI 0), .int (nI 2), .ref w3, .ref w4, .ref w5, .int (nI 0), .int (nI 0), .ref w6, .ref w7, .ref w8, .int rc, .ref w9, .ref w10, .ref w11, .ref w12, .ref w13, .ref w14, .int fp, .int ft, .int (nI 0)])), (w1, .inl (cI, 100, .inl (flI sg (nI 0) 100))), (w3, .inl (cI, 1600, .inl (flI fi (nI 0) 1600)))] H := hP
  have hD : va_D A [(w0, .inr (5, [.ref w1, .ref w2, .int (nI 0), .int (nI 2), .ref w3, .ref w4, .ref w5, .int (nI 0), .int (nI 0), .ref w6, .ref w7, .ref w8, .int rc, .ref w9, .ref w10, .ref w11, .ref w12, .ref w13, .ref w14, .int fp, .int ft, .int (nI 0)])), (w1, .inl (cI, 100, .inl (flI sg (nI 0) 100))), (w3, .inl (cI, 1600, .inl (flI fi (nI 0) 1600)))] := hD
  have hP9 := hP.sub (ws' := [(w0, .inr (5, [.ref w1, .ref w2, .int (nI 0), .int (nI 2), .ref w3, .ref w4, .ref w5, .int (nI 0), .int (nI 0), .ref w6, .ref w7, .ref w8, .int rc, .ref w9, .ref w10, .ref w11, .ref w12, .ref w13, .ref w14, .int fp, .int ft, .int (nI 0)])), (w1, .inl (cI, 100, .inl (flI sg (nI 0) 100))), (w3, .inl (cI, 1600, .inl (flI fi (nI 0) 1600)))]) [0, 1, 2] rfl
  have hD9 := hD.sub (ws' := [(w0, .inr (5, [.ref w1, .ref w2, .int (nI 0), .int (nI 2), .ref w3, .ref w4, .ref w5, .int (nI 0), .int (nI 0), .ref w6, .ref w7, .ref w8, .int rc, .ref w9, .ref w10, .ref w11, .ref w12, .ref w13, .ref w14, .int fp, .int ft, .int (nI 0)])), (w1, .inl (cI, 100, .inl (flI sg (nI 0) 100))), (w3, .inl (cI, 1600, .inl (flI fi (nI 0) 1600)))]) [0, 1, 2] (by decide) rfl
  exact W.vret hx hb hr (fun t9 ht hW => ⟨⟨(), rfl, trivial, ⟨by rw [ht]; exact hP9, hD9⟩⟩, hS.F ht⟩) hS.2.2 d_MD_reset_40
