
theorem scr_gt {i L : Nat} (hi : i < 2 ^ 31) (hL : L < 2 ^ 31) : nI L - nI 5 < nI i ↔ L < i + 5 := by
  by_cases h : 5 ≤ L
  · rw [pk_sub h, nI_ltI (by omega) hi]
    omega
  · refine ⟨fun _ => by omega, fun _ => ?_⟩
    have h0 : (nI i).toInt = i := nI_toInt hi
    rw [Int32.lt_iff_toInt_lt, h0]
    rcases (show L = 0 ∨ L = 1 ∨ L = 2 ∨ L = 3 ∨ L = 4 by omega) with rfl | rfl | rfl | rfl | rfl
    · rw [show (nI 0 - nI 5).toInt = -5 from by decide +kernel]; omega
    · rw [show (nI 1 - nI 5).toInt = -4 from by decide +kernel]; omega
    · rw [show (nI 2 - nI 5).toInt = -3 from by decide +kernel]; omega
    · rw [show (nI 3 - nI 5).toInt = -2 from by decide +kernel]; omega
    · rw [show (nI 4 - nI 5).toInt = -1 from by decide +kernel]; omega
set_option maxHeartbeats 4000000 in
set_option maxRecDepth 100000 in
theorem lw_loop {p : Program} {l : Launch} {e : Env} {s : State} {m : MethodId} {args : Array Value} {below : List Frame} {meth : Method} {c : Code} {D : va_G} {cI cJ : ClassId} {Q : State → Prop} {A : Nat → Prop} {bS : Nat} {x0 o1 s1 s2 s3 f0 f1 f2 f3 f4 h0 h1 h2 h3 h4 c0 c1 c2 c3 c4 c5 e0 e1 e2 e3 e4 e5 e6 w0 w1 w2 w3 w4 w5 w6 w7 w8 w9 w10 w11 w12 w13 w14 q1 : Nat} (hfl : l.stackTraces = false) {L : Nat} {xs : Nat → Int32} (hx : p.tables.exec = Jvm.exec) (hb : c.code = code) (hml : c.maxLocals = 7) (hown : s.vm.findClass R_LW = some m.cls) (hw : ∀ w ∈ gw, w.before args s = true) (hE : En D cI cJ s) (hX : Sx A s s.heap) (hA : ∀ q : Nat, s.heap.size ≤ q → A q) (hV : va_X bS L xs s s.heap) (hbl : bS < s.heap.size) (hbA : ¬ A bS) (hL : L ≤ 2560)
    (kend : ∀ (j : Nat) (H : Heap) (locs : List Loc) (ls : Array Slot), j ≤ 512 → va_S A s.heap H locs → W p l e room_1 s m args below meth c H locs (44 + 6 * j) (37047 + 36 * j) Q (F0 m 1258 ls [])) :
    ∀ (fu j i : Nat), i = 5 * j → L < i + fu → i ≤ L → lwE p l e s m args below meth c D cI cJ Q A bS x0 o1 s1 s2 s3 f0 f1 f2 f3 f4 h0 h1 h2 h3 h4 c0 c1 c2 c3 c4 c5 e0 e1 e2 e3 e4 e5 e6 w0 w1 w2 w3 w4 w5 w6 w7 w8 w9 w10 w11 w12 w13 w14 q1 i 23 (44 + 6 * j) (37047 + 36 * j) := by
  intro fu
  induction fu with
  | zero =>
    intro j i _ h1 h2
    exact absurd h1 (by omega)
  | succ fu ih =>
    intro j i hij hfu hiL
    have kx : i + 5 ≤ L → lwE p l e s m args below meth c D cI cJ Q A bS x0 o1 s1 s2 s3 f0 f1 f2 f3 f4 h0 h1 h2 h3 h4 c0 c1 c2 c3 c4 c5 e0 e1 e2 e3 e4 e5 e6 w0 w1 w2 w3 w4 w5 w6 w7 w8 w9 w10 w11 w12 w13 w14 q1 i 1252 (44 + 6 * j + 6) (37047 + 36 * j + 36) := by
      intro hi st sd be w y ce oq rp tl np ns aw pa pr mk nx hd f7 en de7 he ho hr7 ht7 hp7 hs7 hw7 lk we rm ar qu ne n7 sg gl fi ip se ot ro si fr nu pl fw fr2 qu2 nt wb rc fp ft th of I hO H locs ls hP hD hS hl
      refine lv_iinc (v := nI (i + 5)) (lv' := [(4, .int (nI (i + 5))), (0, .ref bS), (1, .ref x0), (2, .ref w0), (3, .ref q1)]) hx hb d_LW_law_1252 hl (k := 4) rfl (jn_inc i 5) (by decide) rfl (fun ls hl => ?_)
      refine lv_goto (tgt := 23) hx hb d_LW_law_1255 (by decide) ?_
      refine W.widen (k := 44 + 6 * (j + 1)) (n := 37047 + 36 * (j + 1)) (by omega) (by omega) ?_
      exact ih (j + 1) (i + 5) (by omega) (by omega) (by omega) st sd be w y ce oq rp tl np ns aw pa pr mk nx hd f7 en de7 he ho hr7 ht7 hp7 hs7 hw7 lk we rm ar qu ne n7 sg gl fi ip se ot ro si fr nu pl fw fr2 qu2 nt wb rc fp ft th of I hO H locs ls hP hD hS (lv_sub hl [1, 2, 3, 4, 0] rfl)
    intro st sd be w y ce oq rp tl np ns aw pa pr mk nx hd f7 en de7 he ho hr7 ht7 hp7 hs7 hw7 lk we rm ar qu ne n7 sg gl fi ip se ot ro si fr nu pl fw fr2 qu2 nt wb rc fp ft th of I hO H locs ls hP hD hS hl
    refine lv_iload hx hb d_LW_law_23 (lv_at hl 4 rfl) ?_
    refine lv_aload_n hx hb d_LW_law_25 rfl (lv_at hl 0 rfl) ?_
    refine va_slen hx hb hV hbl hbA hS d_LW_law_26 ?_
    refine lv_iconst (v := nI 5) hx hb d_LW_law_27 (by decide +kernel) ?_
    refine lv_isub hx hb d_LW_law_28 ?_
    refine lv_icmp_gt (tgt := 1258) hx hb d_LW_law_29 (by decide) (fun c_29 => ?_) (fun c_29 => ?_)
    · skip
      exact kend j H locs ls (by omega) hS
    · skip
      have hi : i + 5 ≤ L := Nat.not_lt.mp (fun z => c_29 ((scr_gt (by omega) (by omega)).mpr z))
      have kx := kx hi
      have hj2 : j ≤ 511 := by omega
      refine lv_aload_n hx hb d_LW_law_32 rfl (lv_at hl 0 rfl) ?_
      refine lv_iload hx hb d_LW_law_33 (lv_at hl 4 rfl) ?_
      refine va_sld (i := nI i) hx hb hV hbl hbA hS (vp_in_nI (n := i) (N := L) (by omega) (by omega)) d_LW_law_35 ?_
      refine W.eq (g2 := F0 m 36 ls (.int (xs i) :: [])) (by rw [nI_clamp (by omega)]) ?_
      refine lv_bipush (v := nI 31) hx hb d_LW_law_36 (by decide +kernel) ?_
      refine lv_iand hx hb d_LW_law_38 ?_
      generalize hv9 : xs i &&& nI 31 = v9
      obtain ⟨n9, hn9, rfl⟩ : ∃ n, n < 32 ∧ v9 = nI n := ⟨(xs i).toBitVec.toNat % 32, Nat.mod_lt _ (by decide), hv9.symm.trans (pk_and _ 5 (by decide +kernel))⟩
      have hl9 : lv_has ls 7 [(0, .ref bS), (1, .ref x0), (2, .ref w0), (3, .ref q1), (4, .int (nI i))] := (lv_sub hl [0, 1, 2, 3, 4] rfl)
      by_cases h19 : n9 < 19
      · rcases (show n9 = 0 ∨ n9 = 1 ∨ n9 = 2 ∨ n9 = 3 ∨ n9 = 4 ∨ n9 = 5 ∨ n9 = 6 ∨ n9 = 7 ∨ n9 = 8 ∨ n9 = 9 ∨ n9 = 10 ∨ n9 = 11 ∨ n9 = 12 ∨ n9 = 13 ∨ n9 = 14 ∨ n9 = 15 ∨ n9 = 16 ∨ n9 = 17 ∨ n9 = 18 by omega) with rfl | rfl | rfl | rfl | rfl | rfl | rfl | rfl | rfl | rfl | rfl | rfl | rfl | rfl | rfl | rfl | rfl | rfl | rfl
        · refine lv_tableIn (off := 89) (tgt := 128) hx hb d_LW_law_39 (by decide +kernel) (by decide +kernel) (by decide +kernel) (by decide) ?_
          exact lc_0 hfl hx hb hml hown hw hE hX hA hV hbl hbA hL hi (by omega) (by omega) kx st sd be w y ce oq rp tl np ns aw pa pr mk nx hd f7 en de7 he ho hr7 ht7 hp7 hs7 hw7 lk we rm ar qu ne n7 sg gl fi ip se ot ro si fr nu pl fw fr2 qu2 nt wb rc fp ft th of I hO H locs ls hP hD hS hl9
        · refine lv_tableIn (off := 157) (tgt := 196) hx hb d_LW_law_39 (by decide +kernel) (by decide +kernel) (by decide +kernel) (by decide) ?_
          exact lc_1 hfl hx hb hml hown hw hE hX hA hV hbl hbA hL hi (by omega) (by omega) kx st sd be w y ce oq rp tl np ns aw pa pr mk nx hd f7 en de7 he ho hr7 ht7 hp7 hs7 hw7 lk we rm ar qu ne n7 sg gl fi ip se ot ro si fr nu pl fw fr2 qu2 nt wb rc fp ft th of I hO H locs ls hP hD hS hl9
        · refine lv_tableIn (off := 249) (tgt := 288) hx hb d_LW_law_39 (by decide +kernel) (by decide +kernel) (by decide +kernel) (by decide) ?_
          exact lc_2 hfl hx hb hml hown hw hE hX hA hV hbl hbA hL hi (by omega) (by omega) kx st sd be w y ce oq rp tl np ns aw pa pr mk nx hd f7 en de7 he ho hr7 ht7 hp7 hs7 hw7 lk we rm ar qu ne n7 sg gl fi ip se ot ro si fr nu pl fw fr2 qu2 nt wb rc fp ft th of I hO H locs ls hP hD hS hl9
        · refine lv_tableIn (off := 305) (tgt := 344) hx hb d_LW_law_39 (by decide +kernel) (by decide +kernel) (by decide +kernel) (by decide) ?_
          exact lc_3 hfl hx hb hml hown hw hE hX hA hV hbl hbA hL hi (by omega) (by omega) kx st sd be w y ce oq rp tl np ns aw pa pr mk nx hd f7 en de7 he ho hr7 ht7 hp7 hs7 hw7 lk we rm ar qu ne n7 sg gl fi ip se ot ro si fr nu pl fw fr2 qu2 nt wb rc fp ft th of I hO H locs ls hP hD hS hl9
        · refine lv_tableIn (off := 365) (tgt := 404) hx hb d_LW_law_39 (by decide +kernel) (by decide +kernel) (by decide +kernel) (by decide) ?_
          exact lc_4 hfl hx hb hml hown hw hE hX hA hV hbl hbA hL hi (by omega) (by omega) kx st sd be w y ce oq rp tl np ns aw pa pr mk nx hd f7 en de7 he ho hr7 ht7 hp7 hs7 hw7 lk we rm ar qu ne n7 sg gl fi ip se ot ro si fr nu pl fw fr2 qu2 nt wb rc fp ft th of I hO H locs ls hP hD hS hl9
        · refine lv_tableIn (off := 378) (tgt := 417) hx hb d_LW_law_39 (by decide +kernel) (by decide +kernel) (by decide +kernel) (by decide) ?_
          exact lc_5 hfl hx hb hml hown hw hE hX hA hV hbl hbA hL hi (by omega) (by omega) kx st sd be w y ce oq rp tl np ns aw pa pr mk nx hd f7 en de7 he ho hr7 ht7 hp7 hs7 hw7 lk we rm ar qu ne n7 sg gl fi ip se ot ro si fr nu pl fw fr2 qu2 nt wb rc fp ft th of I hO H locs ls hP hD hS hl9
        · refine lv_tableIn (off := 389) (tgt := 428) hx hb d_LW_law_39 (by decide +kernel) (by decide +kernel) (by decide +kernel) (by decide) ?_
          exact lc_6 hfl hx hb hml hown hw hE hX hA hV hbl hbA hL hi (by omega) (by omega) kx st sd be w y ce oq rp tl np ns aw pa pr mk nx hd f7 en de7 he ho hr7 ht7 hp7 hs7 hw7 lk we rm ar qu ne n7 sg gl fi ip se ot ro si fr nu pl fw fr2 qu2 nt wb rc fp ft th of I hO H locs ls hP hD hS hl9
        · refine lv_tableIn (off := 476) (tgt := 515) hx hb d_LW_law_39 (by decide +kernel) (by decide +kernel) (by decide +kernel) (by decide) ?_
          exact lc_7 hfl hx hb hml hown hw hE hX hA hV hbl hbA hL hi (by omega) (by omega) kx st sd be w y ce oq rp tl np ns aw pa pr mk nx hd f7 en de7 he ho hr7 ht7 hp7 hs7 hw7 lk we rm ar qu ne n7 sg gl fi ip se ot ro si fr nu pl fw fr2 qu2 nt wb rc fp ft th of I hO H locs ls hP hD hS hl9
        · refine lv_tableIn (off := 532) (tgt := 571) hx hb d_LW_law_39 (by decide +kernel) (by decide +kernel) (by decide +kernel) (by decide) ?_
          exact lc_8 hfl hx hb hml hown hw hE hX hA hV hbl hbA hL hi (by omega) (by omega) kx st sd be w y ce oq rp tl np ns aw pa pr mk nx hd f7 en de7 he ho hr7 ht7 hp7 hs7 hw7 lk we rm ar qu ne n7 sg gl fi ip se ot ro si fr nu pl fw fr2 qu2 nt wb rc fp ft th of I hO H locs ls hP hD hS hl9
        · refine lv_tableIn (off := 600) (tgt := 639) hx hb d_LW_law_39 (by decide +kernel) (by decide +kernel) (by decide +kernel) (by decide) ?_
          exact lc_9 hfl hx hb hml hown hw hE hX hA hV hbl hbA hL hi (by omega) (by omega) kx st sd be w y ce oq rp tl np ns aw pa pr mk nx hd f7 en de7 he ho hr7 ht7 hp7 hs7 hw7 lk we rm ar qu ne n7 sg gl fi ip se ot ro si fr nu pl fw fr2 qu2 nt wb rc fp ft th of I hO H locs ls hP hD hS hl9
        · refine lv_tableIn (off := 668) (tgt := 707) hx hb d_LW_law_39 (by decide +kernel) (by decide +kernel) (by decide +kernel) (by decide) ?_
          exact lc_10 hfl hx hb hml hown hw hE hX hA hV hbl hbA hL hi (by omega) (by omega) kx st sd be w y ce oq rp tl np ns aw pa pr mk nx hd f7 en de7 he ho hr7 ht7 hp7 hs7 hw7 lk we rm ar qu ne n7 sg gl fi ip se ot ro si fr nu pl fw fr2 qu2 nt wb rc fp ft th of I hO H locs ls hP hD hS hl9
        · refine lv_tableIn (off := 681) (tgt := 720) hx hb d_LW_law_39 (by decide +kernel) (by decide +kernel) (by decide +kernel) (by decide) ?_
          exact lc_11 hfl hx hb hml hown hw hE hX hA hV hbl hbA hL hi (by omega) (by omega) kx st sd be w y ce oq rp tl np ns aw pa pr mk nx hd f7 en de7 he ho hr7 ht7 hp7 hs7 hw7 lk we rm ar qu ne n7 sg gl fi ip se ot ro si fr nu pl fw fr2 qu2 nt wb rc fp ft th of I hO H locs ls hP hD hS hl9
        · refine lv_tableIn (off := 749) (tgt := 788) hx hb d_LW_law_39 (by decide +kernel) (by decide +kernel) (by decide +kernel) (by decide) ?_
          exact lc_12 hfl hx hb hml hown hw hE hX hA hV hbl hbA hL hi (by omega) (by omega) kx st sd be w y ce oq rp tl np ns aw pa pr mk nx hd f7 en de7 he ho hr7 ht7 hp7 hs7 hw7 lk we rm ar qu ne n7 sg gl fi ip se ot ro si fr nu pl fw fr2 qu2 nt wb rc fp ft th of I hO H locs ls hP hD hS hl9
        · refine lv_tableIn (off := 829) (tgt := 868) hx hb d_LW_law_39 (by decide +kernel) (by decide +kernel) (by decide +kernel) (by decide) ?_
          exact lc_13 hfl hx hb hml hown hw hE hX hA hV hbl hbA hL hi (by omega) (by omega) kx st sd be w y ce oq rp tl np ns aw pa pr mk nx hd f7 en de7 he ho hr7 ht7 hp7 hs7 hw7 lk we rm ar qu ne n7 sg gl fi ip se ot ro si fr nu pl fw fr2 qu2 nt wb rc fp ft th of I hO H locs ls hP hD hS hl9
        · refine lv_tableIn (off := 885) (tgt := 924) hx hb d_LW_law_39 (by decide +kernel) (by decide +kernel) (by decide +kernel) (by decide) ?_
          exact lc_14 hfl hx hb hml hown hw hE hX hA hV hbl hbA hL hi (by omega) (by omega) kx st sd be w y ce oq rp tl np ns aw pa pr mk nx hd f7 en de7 he ho hr7 ht7 hp7 hs7 hw7 lk we rm ar qu ne n7 sg gl fi ip se ot ro si fr nu pl fw fr2 qu2 nt wb rc fp ft th of I hO H locs ls hP hD hS hl9
        · refine lv_tableIn (off := 941) (tgt := 980) hx hb d_LW_law_39 (by decide +kernel) (by decide +kernel) (by decide +kernel) (by decide) ?_
          exact lc_15 hfl hx hb hml hown hw hE hX hA hV hbl hbA hL hi (by omega) (by omega) kx st sd be w y ce oq rp tl np ns aw pa pr mk nx hd f7 en de7 he ho hr7 ht7 hp7 hs7 hw7 lk we rm ar qu ne n7 sg gl fi ip se ot ro si fr nu pl fw fr2 qu2 nt wb rc fp ft th of I hO H locs ls hP hD hS hl9
        · refine lv_tableIn (off := 997) (tgt := 1036) hx hb d_LW_law_39 (by decide +kernel) (by decide +kernel) (by decide +kernel) (by decide) ?_
          exact lc_16 hfl hx hb hml hown hw hE hX hA hV hbl hbA hL hi (by omega) (by omega) kx st sd be w y ce oq rp tl np ns aw pa pr mk nx hd f7 en de7 he ho hr7 ht7 hp7 hs7 hw7 lk we rm ar qu ne n7 sg gl fi ip se ot ro si fr nu pl fw fr2 qu2 nt wb rc fp ft th of I hO H locs ls hP hD hS hl9
        · refine lv_tableIn (off := 1041) (tgt := 1080) hx hb d_LW_law_39 (by decide +kernel) (by decide +kernel) (by decide +kernel) (by decide) ?_
          exact lc_17 hfl hx hb hml hown hw hE hX hA hV hbl hbA hL hi (by omega) (by omega) kx st sd be w y ce oq rp tl np ns aw pa pr mk nx hd f7 en de7 he ho hr7 ht7 hp7 hs7 hw7 lk we rm ar qu ne n7 sg gl fi ip se ot ro si fr nu pl fw fr2 qu2 nt wb rc fp ft th of I hO H locs ls hP hD hS hl9
        · refine lv_tableIn (off := 1121) (tgt := 1160) hx hb d_LW_law_39 (by decide +kernel) (by decide +kernel) (by decide +kernel) (by decide) ?_
          exact lc_18 hfl hx hb hml hown hw hE hX hA hV hbl hbA hL hi (by omega) (by omega) kx st sd be w y ce oq rp tl np ns aw pa pr mk nx hd f7 en de7 he ho hr7 ht7 hp7 hs7 hw7 lk we rm ar qu ne n7 sg gl fi ip se ot ro si fr nu pl fw fr2 qu2 nt wb rc fp ft th of I hO H locs ls hP hD hS hl9
      · refine lv_tableOut (tgt := 1252) hx hb d_LW_law_39 (Or.inr (by rw [nI_toInt (by omega)]; omega)) (by decide) ?_
        refine W.widen (k := 44 + 6 * j + 6) (n := 37047 + 36 * j + 36) (by omega) (by omega) ?_
        exact kx st sd be w y ce oq rp tl np ns aw pa pr mk nx hd f7 en de7 he ho hr7 ht7 hp7 hs7 hw7 lk we rm ar qu ne n7 sg gl fi ip se ot ro si fr nu pl fw fr2 qu2 nt wb rc fp ft th of I hO H locs ls hP hD hS hl9
