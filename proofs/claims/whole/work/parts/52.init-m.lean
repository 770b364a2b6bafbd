def im_CT_init_1 (M : gMem) : gMem := (mpF (mpN (mpF (mpN (mpF (mpN (mpF (mpN (mpF (mpF (mpF (mpF (mpF (mpN (mpF (mpN (mpF (mpN M 2) 1 0 0) 3) 1 1 0) 4) 4 ((0 : Int32)).toNatClampNeg (1 : Int32)) 4 ((1 : Int32)).toNatClampNeg (1 : Int32)) 4 ((2 : Int32)).toNatClampNeg (1 : Int32)) 4 ((3 : Int32)).toNatClampNeg (1 : Int32)) 1 2 0) 5) 1 3 0) 6) 1 5 0) 7) 1 6 0) 8) 1 8 0)
set_option maxRecDepth 100000 in
set_option maxHeartbeats 4000000 in
theorem i_CT_init_1 {l : Launch} {D : va_G} {ta : Nat → ClassId} {base : Nat} {sa : Nat → Nat} (M : gMem) : GI hL_1 hL_2 gCl D ta base gNw sa gTabs gTs l y_CT_init b_CT_init 1 1 12 7 10876 [.ref (base + 1)] M (im_CT_init_1 M) := by
  refine GI.of (own := "ObjectFile$Contents") pn_CT rfl rfl (Nat.le_of_ble_eq_true rfl) ?_
  intro p e s m below meth c X hK hr hlk hin
  refine a_args (L' := [(0, .ref (base + 1))]) rfl ?_
  refine a_aload_n X dCT_init_0 rfl 0 rfl ?_
  refine a_obj X tw_30 tw_23 tw_obj (Nat.le_of_ble_eq_true rfl) (Nat.le_of_ble_eq_true rfl) dCT_init_1 ?_
  refine a_aload_n X dCT_init_4 rfl 0 rfl ?_
  refine a_sipush X (v := (6144 : Int32)) dCT_init_5 (by decide) ?_
  refine a_newarr X hK.1 (t := 1) (k := 2) (N := 6144) (Or.inr ⟨rfl, rfl⟩) tw_77 rfl (by decide) (by decide) (by decide) (Nat.le_of_ble_eq_true rfl) (Nat.le_of_ble_eq_true rfl) dCT_init_8 ?_
  refine a_put X hK.1 (k := 1) (o := some (some 2)) (x := 0) hp_CT_9 (fun _ => hin) rfl (by decide) rfl rfl rfl dCT_init_10 ?_
  refine a_aload_n X dCT_init_13 rfl 0 rfl ?_
  refine a_iconst X (v := (4 : Int32)) dCT_init_14 (by decide) ?_
  refine a_newarr X hK.1 (t := 0) (k := 3) (N := 4) (Or.inl ⟨rfl, rfl⟩) tw_78 rfl (by decide) (by decide) (by decide) (Nat.le_of_ble_eq_true rfl) (Nat.le_of_ble_eq_true rfl) dCT_init_15 ?_
  refine a_put X hK.1 (k := 1) (o := some (some 3)) (x := 0) hp_CT_15 (fun _ => hin) rfl (by decide) rfl rfl rfl dCT_init_17 ?_
  refine a_aload_n X dCT_init_20 rfl 0 rfl ?_
  refine a_iconst X (v := (4 : Int32)) dCT_init_21 (by decide) ?_
  refine a_newarr X hK.1 (t := 0) (k := 4) (N := 4) (Or.inl ⟨rfl, rfl⟩) tw_78 rfl (by decide) (by decide) (by decide) (Nat.le_of_ble_eq_true rfl) (Nat.le_of_ble_eq_true rfl) dCT_init_22 ?_
  refine a_dup X dCT_init_24 rfl ?_
  refine a_iconst X (v := (0 : Int32)) dCT_init_25 (by decide) ?_
  refine a_iconst X (v := (1 : Int32)) dCT_init_26 (by decide) ?_
  refine a_iast X hK.1 (k := 4) (n := 4) rfl (by unfold vp_in; decide) dCT_init_27 ?_
  refine a_dup X dCT_init_28 rfl ?_
  refine a_iconst X (v := (1 : Int32)) dCT_init_29 (by decide) ?_
  refine a_iconst X (v := (1 : Int32)) dCT_init_30 (by decide) ?_
  refine a_iast X hK.1 (k := 4) (n := 4) rfl (by unfold vp_in; decide) dCT_init_31 ?_
  refine a_dup X dCT_init_32 rfl ?_
  refine a_iconst X (v := (2 : Int32)) dCT_init_33 (by decide) ?_
  refine a_iconst X (v := (1 : Int32)) dCT_init_34 (by decide) ?_
  refine a_iast X hK.1 (k := 4) (n := 4) rfl (by unfold vp_in; decide) dCT_init_35 ?_
  refine a_dup X dCT_init_36 rfl ?_
  refine a_iconst X (v := (3 : Int32)) dCT_init_37 (by decide) ?_
  refine a_iconst X (v := (1 : Int32)) dCT_init_38 (by decide) ?_
  refine a_iast X hK.1 (k := 4) (n := 4) rfl (by unfold vp_in; decide) dCT_init_39 ?_
  refine a_put X hK.1 (k := 1) (o := some (some 4)) (x := 0) hp_CT_19 (fun _ => hin) rfl (by decide) rfl rfl rfl dCT_init_40 ?_
  refine a_aload_n X dCT_init_43 rfl 0 rfl ?_
  refine a_sipush X (v := (1024 : Int32)) dCT_init_44 (by decide) ?_
  refine a_newarr X hK.1 (t := 0) (k := 5) (N := 1024) (Or.inl ⟨rfl, rfl⟩) tw_78 rfl (by decide) (by decide) (by decide) (Nat.le_of_ble_eq_true rfl) (Nat.le_of_ble_eq_true rfl) dCT_init_47 ?_
  refine a_put X hK.1 (k := 1) (o := some (some 5)) (x := 0) hp_CT_22 (fun _ => hin) rfl (by decide) rfl rfl rfl dCT_init_49 ?_
  refine a_aload_n X dCT_init_52 rfl 0 rfl ?_
  refine a_sipush X (v := (600 : Int32)) dCT_init_53 (by decide) ?_
  refine a_newarr X hK.1 (t := 0) (k := 6) (N := 600) (Or.inl ⟨rfl, rfl⟩) tw_78 rfl (by decide) (by decide) (by decide) (Nat.le_of_ble_eq_true rfl) (Nat.le_of_ble_eq_true rfl) dCT_init_56 ?_
  refine a_put X hK.1 (k := 1) (o := some (some 6)) (x := 0) hp_CT_25 (fun _ => hin) rfl (by decide) rfl rfl rfl dCT_init_58 ?_
  refine a_aload_n X dCT_init_61 rfl 0 rfl ?_
  refine a_sipush X (v := (1600 : Int32)) dCT_init_62 (by decide) ?_
  refine a_newarr X hK.1 (t := 1) (k := 7) (N := 1600) (Or.inr ⟨rfl, rfl⟩) tw_77 rfl (by decide) (by decide) (by decide) (Nat.le_of_ble_eq_true rfl) (Nat.le_of_ble_eq_true rfl) dCT_init_65 ?_
  refine a_put X hK.1 (k := 1) (o := some (some 7)) (x := 0) hp_CT_28 (fun _ => hin) rfl (by decide) rfl rfl rfl dCT_init_67 ?_
  refine a_aload_n X dCT_init_70 rfl 0 rfl ?_
  refine a_sipush X (v := (1500 : Int32)) dCT_init_71 (by decide) ?_
  refine a_newarr X hK.1 (t := 0) (k := 8) (N := 1500) (Or.inl ⟨rfl, rfl⟩) tw_78 rfl (by decide) (by decide) (by decide) (Nat.le_of_ble_eq_true rfl) (Nat.le_of_ble_eq_true rfl) dCT_init_74 ?_
  refine a_put X hK.1 (k := 1) (o := some (some 8)) (x := 0) hp_CT_31 (fun _ => hin) rfl (by decide) rfl rfl rfl dCT_init_76 ?_
  exact a_vret X hr hlk dCT_init_79 (by decide +kernel) rfl
def im_CT_init_9 (M : gMem) : gMem := (mpF (mpN (mpF (mpN (mpF (mpN (mpF (mpN (mpF (mpF (mpF (mpF (mpF (mpN (mpF (mpN (mpF (mpN M 10) 9 0 0) 11) 9 1 0) 12) 12 ((0 : Int32)).toNatClampNeg (1 : Int32)) 12 ((1 : Int32)).toNatClampNeg (1 : Int32)) 12 ((2 : Int32)).toNatClampNeg (1 : Int32)) 12 ((3 : Int32)).toNatClampNeg (1 : Int32)) 9 2 0) 13) 9 3 0) 14) 9 5 0) 15) 9 6 0) 16) 9 8 0)
set_option maxRecDepth 100000 in
set_option maxHeartbeats 4000000 in
theorem i_CT_init_9 {l : Launch} {D : va_G} {ta : Nat → ClassId} {base : Nat} {sa : Nat → Nat} (M : gMem) : GI hL_3 hL_4 gCl D ta base gNw sa gTabs gTs l y_CT_init b_CT_init 1 1 12 7 10876 [.ref (base + 9)] M (im_CT_init_9 M) := by
  refine GI.of (own := "ObjectFile$Contents") pn_CT rfl rfl (Nat.le_of_ble_eq_true rfl) ?_
  intro p e s m below meth c X hK hr hlk hin
  refine a_args (L' := [(0, .ref (base + 9))]) rfl ?_
  refine a_aload_n X dCT_init_0 rfl 0 rfl ?_
  refine a_obj X tw_30 tw_23 tw_obj (Nat.le_of_ble_eq_true rfl) (Nat.le_of_ble_eq_true rfl) dCT_init_1 ?_
  refine a_aload_n X dCT_init_4 rfl 0 rfl ?_
  refine a_sipush X (v := (6144 : Int32)) dCT_init_5 (by decide) ?_
  refine a_newarr X hK.1 (t := 1) (k := 10) (N := 6144) (Or.inr ⟨rfl, rfl⟩) tw_77 rfl (by decide) (by decide) (by decide) (Nat.le_of_ble_eq_true rfl) (Nat.le_of_ble_eq_true rfl) dCT_init_8 ?_
  refine a_put X hK.1 (k := 9) (o := some (some 10)) (x := 0) hp_CT_9 (fun _ => hin) rfl (by decide) rfl rfl rfl dCT_init_10 ?_
  refine a_aload_n X dCT_init_13 rfl 0 rfl ?_
  refine a_iconst X (v := (4 : Int32)) dCT_init_14 (by decide) ?_
  refine a_newarr X hK.1 (t := 0) (k := 11) (N := 4) (Or.inl ⟨rfl, rfl⟩) tw_78 rfl (by decide) (by decide) (by decide) (Nat.le_of_ble_eq_true rfl) (Nat.le_of_ble_eq_true rfl) dCT_init_15 ?_
  refine a_put X hK.1 (k := 9) (o := some (some 11)) (x := 0) hp_CT_15 (fun _ => hin) rfl (by decide) rfl rfl rfl dCT_init_17 ?_
  refine a_aload_n X dCT_init_20 rfl 0 rfl ?_
  refine a_iconst X (v := (4 : Int32)) dCT_init_21 (by decide) ?_
  refine a_newarr X hK.1 (t := 0) (k := 12) (N := 4) (Or.inl ⟨rfl, rfl⟩) tw_78 rfl (by decide) (by decide) (by decide) (Nat.le_of_ble_eq_true rfl) (Nat.le_of_ble_eq_true rfl) dCT_init_22 ?_
  refine a_dup X dCT_init_24 rfl ?_
  refine a_iconst X (v := (0 : Int32)) dCT_init_25 (by decide) ?_
  refine a_iconst X (v := (1 : Int32)) dCT_init_26 (by decide) ?_
  refine a_iast X hK.1 (k := 12) (n := 4) rfl (by unfold vp_in; decide) dCT_init_27 ?_
  refine a_dup X dCT_init_28 rfl ?_
  refine a_iconst X (v := (1 : Int32)) dCT_init_29 (by decide) ?_
  refine a_iconst X (v := (1 : Int32)) dCT_init_30 (by decide) ?_
  refine a_iast X hK.1 (k := 12) (n := 4) rfl (by unfold vp_in; decide) dCT_init_31 ?_
  refine a_dup X dCT_init_32 rfl ?_
  refine a_iconst X (v := (2 : Int32)) dCT_init_33 (by decide) ?_
  refine a_iconst X (v := (1 : Int32)) dCT_init_34 (by decide) ?_
  refine a_iast X hK.1 (k := 12) (n := 4) rfl (by unfold vp_in; decide) dCT_init_35 ?_
  refine a_dup X dCT_init_36 rfl ?_
  refine a_iconst X (v := (3 : Int32)) dCT_init_37 (by decide) ?_
  refine a_iconst X (v := (1 : Int32)) dCT_init_38 (by decide) ?_
  refine a_iast X hK.1 (k := 12) (n := 4) rfl (by unfold vp_in; decide) dCT_init_39 ?_
  refine a_put X hK.1 (k := 9) (o := some (some 12)) (x := 0) hp_CT_19 (fun _ => hin) rfl (by decide) rfl rfl rfl dCT_init_40 ?_
  refine a_aload_n X dCT_init_43 rfl 0 rfl ?_
  refine a_sipush X (v := (1024 : Int32)) dCT_init_44 (by decide) ?_
  refine a_newarr X hK.1 (t := 0) (k := 13) (N := 1024) (Or.inl ⟨rfl, rfl⟩) tw_78 rfl (by decide) (by decide) (by decide) (Nat.le_of_ble_eq_true rfl) (Nat.le_of_ble_eq_true rfl) dCT_init_47 ?_
  refine a_put X hK.1 (k := 9) (o := some (some 13)) (x := 0) hp_CT_22 (fun _ => hin) rfl (by decide) rfl rfl rfl dCT_init_49 ?_
  refine a_aload_n X dCT_init_52 rfl 0 rfl ?_
  refine a_sipush X (v := (600 : Int32)) dCT_init_53 (by decide) ?_
  refine a_newarr X hK.1 (t := 0) (k := 14) (N := 600) (Or.inl ⟨rfl, rfl⟩) tw_78 rfl (by decide) (by decide) (by decide) (Nat.le_of_ble_eq_true rfl) (Nat.le_of_ble_eq_true rfl) dCT_init_56 ?_
  refine a_put X hK.1 (k := 9) (o := some (some 14)) (x := 0) hp_CT_25 (fun _ => hin) rfl (by decide) rfl rfl rfl dCT_init_58 ?_
  refine a_aload_n X dCT_init_61 rfl 0 rfl ?_
  refine a_sipush X (v := (1600 : Int32)) dCT_init_62 (by decide) ?_
  refine a_newarr X hK.1 (t := 1) (k := 15) (N := 1600) (Or.inr ⟨rfl, rfl⟩) tw_77 rfl (by decide) (by decide) (by decide) (Nat.le_of_ble_eq_true rfl) (Nat.le_of_ble_eq_true rfl) dCT_init_65 ?_
  refine a_put X hK.1 (k := 9) (o := some (some 15)) (x := 0) hp_CT_28 (fun _ => hin) rfl (by decide) rfl rfl rfl dCT_init_67 ?_
  refine a_aload_n X dCT_init_70 rfl 0 rfl ?_
  refine a_sipush X (v := (1500 : Int32)) dCT_init_71 (by decide) ?_
  refine a_newarr X hK.1 (t := 0) (k := 16) (N := 1500) (Or.inl ⟨rfl, rfl⟩) tw_78 rfl (by decide) (by decide) (by decide) (Nat.le_of_ble_eq_true rfl) (Nat.le_of_ble_eq_true rfl) dCT_init_74 ?_
  refine a_put X hK.1 (k := 9) (o := some (some 16)) (x := 0) hp_CT_31 (fun _ => hin) rfl (by decide) rfl rfl rfl dCT_init_76 ?_
  exact a_vret X hr hlk dCT_init_79 (by decide +kernel) rfl
def im_FB_init_17 (M : gMem) : gMem := (mpF (mpN M 18) 17 0 0)
set_option maxRecDepth 100000 in
set_option maxHeartbeats 4000000 in
theorem i_FB_init_17 {l : Launch} {D : va_G} {ta : Nat → ClassId} {base : Nat} {sa : Nat → Nat} (M : gMem) : GI hL_5 hL_6 gCl D ta base gNw sa gTabs gTs l y_FB_init b_FB_init 1 1 12 1 8192 [.ref (base + 17)] M (im_FB_init_17 M) := by
  refine GI.of (own := "ObjectFile$FileBytes") pn_FB rfl rfl (Nat.le_of_ble_eq_true rfl) ?_
  intro p e s m below meth c X hK hr hlk hin
  refine a_args (L' := [(0, .ref (base + 17))]) rfl ?_
  refine a_aload_n X dFB_init_0 rfl 0 rfl ?_
  refine a_obj X tw_84 tw_23 tw_obj (Nat.le_of_ble_eq_true rfl) (Nat.le_of_ble_eq_true rfl) dFB_init_1 ?_
  refine a_aload_n X dFB_init_4 rfl 0 rfl ?_
  refine a_sipush X (v := (8192 : Int32)) dFB_init_5 (by decide) ?_
  refine a_newarr X hK.1 (t := 1) (k := 18) (N := 8192) (Or.inr ⟨rfl, rfl⟩) tw_77 rfl (by decide) (by decide) (by decide) (Nat.le_of_ble_eq_true rfl) (Nat.le_of_ble_eq_true rfl) dFB_init_8 ?_
  refine a_put X hK.1 (k := 17) (o := some (some 18)) (x := 0) hp_FB_9 (fun _ => hin) rfl (by decide) rfl rfl rfl dFB_init_10 ?_
  exact a_vret X hr hlk dFB_init_13 (by decide +kernel) rfl
def im_ST_init_20 (M : gMem) : gMem := (mpF (mpN M 21) 20 0 0)
set_option maxRecDepth 100000 in
set_option maxHeartbeats 4000000 in
theorem i_ST_init_20 {l : Launch} {D : va_G} {ta : Nat → ClassId} {base : Nat} {sa : Nat → Nat} (M : gMem) : GI hL_8 hL_9 gCl D ta base gNw sa gTabs gTs l y_ST_init b_ST_init 1 1 12 1 1701 [.ref (base + 20)] M (im_ST_init_20 M) := by
  refine GI.of (own := "ObjectFile$Strings") pn_ST rfl rfl (Nat.le_of_ble_eq_true rfl) ?_
  intro p e s m below meth c X hK hr hlk hin
  refine a_args (L' := [(0, .ref (base + 20))]) rfl ?_
  refine a_aload_n X dST_init_0 rfl 0 rfl ?_
  refine a_obj X tw_106 tw_23 tw_obj (Nat.le_of_ble_eq_true rfl) (Nat.le_of_ble_eq_true rfl) dST_init_1 ?_
  refine a_aload_n X dST_init_4 rfl 0 rfl ?_
  refine a_sipush X (v := (1701 : Int32)) dST_init_5 (by decide) ?_
  refine a_newarr X hK.1 (t := 1) (k := 21) (N := 1701) (Or.inr ⟨rfl, rfl⟩) tw_77 rfl (by decide) (by decide) (by decide) (Nat.le_of_ble_eq_true rfl) (Nat.le_of_ble_eq_true rfl) dST_init_8 ?_
  refine a_put X hK.1 (k := 20) (o := some (some 21)) (x := 0) hp_ST_9 (fun _ => hin) rfl (by decide) rfl rfl rfl dST_init_10 ?_
  exact a_vret X hr hlk dST_init_13 (by decide +kernel) rfl
def im_ST_init_22 (M : gMem) : gMem := (mpF (mpN M 23) 22 0 0)
set_option maxRecDepth 100000 in
set_option maxHeartbeats 4000000 in
theorem i_ST_init_22 {l : Launch} {D : va_G} {ta : Nat → ClassId} {base : Nat} {sa : Nat → Nat} (M : gMem) : GI hL_10 hL_11 gCl D ta base gNw sa gTabs gTs l y_ST_init b_ST_init 1 1 12 1 1701 [.ref (base + 22)] M (im_ST_init_22 M) := by
  refine GI.of (own := "ObjectFile$Strings") pn_ST rfl rfl (Nat.le_of_ble_eq_true rfl) ?_
  intro p e s m below meth c X hK hr hlk hin
  refine a_args (L' := [(0, .ref (base + 22))]) rfl ?_
  refine a_aload_n X dST_init_0 rfl 0 rfl ?_
  refine a_obj X tw_106 tw_23 tw_obj (Nat.le_of_ble_eq_true rfl) (Nat.le_of_ble_eq_true rfl) dST_init_1 ?_
  refine a_aload_n X dST_init_4 rfl 0 rfl ?_
  refine a_sipush X (v := (1701 : Int32)) dST_init_5 (by decide) ?_
  refine a_newarr X hK.1 (t := 1) (k := 23) (N := 1701) (Or.inr ⟨rfl, rfl⟩) tw_77 rfl (by decide) (by decide) (by decide) (Nat.le_of_ble_eq_true rfl) (Nat.le_of_ble_eq_true rfl) dST_init_8 ?_
  refine a_put X hK.1 (k := 22) (o := some (some 23)) (x := 0) hp_ST_9 (fun _ => hin) rfl (by decide) rfl rfl rfl dST_init_10 ?_
  exact a_vret X hr hlk dST_init_13 (by decide +kernel) rfl
def im_WR_init_19 (M : gMem) : gMem := (mpF (mpF (mpF (mpN (mpF (mpN (mpF (mpN (mpF (mpN (mpF (mpN (mpF (mpN (mpF (mpN (mpF (mpN (mpF (im_ST_init_22 (mpN (mpF (im_ST_init_20 (mpN M 20)) 19 2 0) 22)) 19 3 0) 24) 19 4 0) 25) 19 5 0) 26) 19 6 0) 27) 19 7 0) 28) 19 8 0) 29) 19 9 0) 30) 19 10 0) 31) 19 11 0) 19 0 0) 19 1 0)
set_option maxRecDepth 100000 in
set_option maxHeartbeats 4000000 in
theorem i_WR_init_19 {l : Launch} {D : va_G} {ta : Nat → ClassId} {base : Nat} {sa : Nat → Nat} (M : gMem) : GI hL_7 hL_12 gCl D ta base gNw sa gTabs gTs l y_WR_init b_WR_init 3 2 32 12 3766 [.ref (base + 19), .ref (base + 1), .ref (base + 17)] M (im_WR_init_19 M) := by
  refine GI.of (own := "ObjectFile$Writer") pn_WR rfl rfl (Nat.le_of_ble_eq_true rfl) ?_
  intro p e s m below meth c X hK hr hlk hin
  refine a_args (L' := [(0, .ref (base + 19)), (1, .ref (base + 1)), (2, .ref (base + 17))]) rfl ?_
  refine a_aload_n X dWR_init_0 rfl 0 rfl ?_
  refine a_obj X tw_100 tw_23 tw_obj (Nat.le_of_ble_eq_true rfl) (Nat.le_of_ble_eq_true rfl) dWR_init_1 ?_
  refine a_aload_n X dWR_init_4 rfl 0 rfl ?_
  refine a_new X hK.1 (C := cR_ST) (T := cT_ST) (N := 2) (ci := 5) (k := 20) (fs := [some none, none]) in_ST cY_ST ty_ST tw_101 tw_102 tw_5 rfl (df_ST base) rfl (Nat.le_of_ble_eq_true rfl) (Nat.le_of_ble_eq_true rfl) dWR_init_5 ?_
  refine a_dup X dWR_init_8 rfl ?_
  refine a_lay (lay2 := hL_8) (by decide +kernel) ?_
  refine a_initN X hK gTs_ok mw_ST_init nw_103 mi_ST_init rfl (As := []) rfl ⟨(Nat.le_of_ble_eq_true rfl), (Nat.le_of_ble_eq_true rfl), (Nat.le_of_ble_eq_true rfl), (Nat.le_of_ble_eq_true rfl)⟩ (i_ST_init_20 _) (rest := [.ref (base + 20), .ref (base + 19)]) rfl (Nat.le_of_ble_eq_true rfl) dWR_init_9 ?_
  refine a_put X hK.1 (k := 19) (o := some (some 20)) (x := 0) hp_WR_12 (fun _ => hin) rfl (by decide) rfl rfl rfl dWR_init_12 ?_
  refine a_aload_n X dWR_init_15 rfl 0 rfl ?_
  refine a_new X hK.1 (C := cR_ST) (T := cT_ST) (N := 2) (ci := 5) (k := 22) (fs := [some none, none]) in_ST cY_ST ty_ST tw_101 tw_102 tw_5 rfl (df_ST base) rfl (Nat.le_of_ble_eq_true rfl) (Nat.le_of_ble_eq_true rfl) dWR_init_16 ?_
  refine a_dup X dWR_init_19 rfl ?_
  refine a_lay (lay2 := hL_10) (by decide +kernel) ?_
  refine a_initN X hK gTs_ok mw_ST_init nw_103 mi_ST_init rfl (As := []) rfl ⟨(Nat.le_of_ble_eq_true rfl), (Nat.le_of_ble_eq_true rfl), (Nat.le_of_ble_eq_true rfl), (Nat.le_of_ble_eq_true rfl)⟩ (i_ST_init_22 _) (rest := [.ref (base + 22), .ref (base + 19)]) rfl (Nat.le_of_ble_eq_true rfl) dWR_init_20 ?_
  refine a_put X hK.1 (k := 19) (o := some (some 22)) (x := 0) hp_WR_18 (fun _ => hin) rfl (by decide) rfl rfl rfl dWR_init_23 ?_
  refine a_aload_n X dWR_init_26 rfl 0 rfl ?_
  refine a_bipush X (v := (16 : Int32)) dWR_init_27 (by decide) ?_
  refine a_newarr X hK.1 (t := 1) (k := 24) (N := 16) (Or.inr ⟨rfl, rfl⟩) tw_77 rfl (by decide) (by decide) (by decide) (Nat.le_of_ble_eq_true rfl) (Nat.le_of_ble_eq_true rfl) dWR_init_29 ?_
  refine a_put X hK.1 (k := 19) (o := some (some 24)) (x := 0) hp_WR_21 (fun _ => hin) rfl (by decide) rfl rfl rfl dWR_init_31 ?_
  refine a_aload_n X dWR_init_34 rfl 0 rfl ?_
  refine a_bipush X (v := (11 : Int32)) dWR_init_35 (by decide) ?_
  refine a_newarr X hK.1 (t := 0) (k := 25) (N := 11) (Or.inl ⟨rfl, rfl⟩) tw_78 rfl (by decide) (by decide) (by decide) (Nat.le_of_ble_eq_true rfl) (Nat.le_of_ble_eq_true rfl) dWR_init_37 ?_
  refine a_put X hK.1 (k := 19) (o := some (some 25)) (x := 0) hp_WR_25 (fun _ => hin) rfl (by decide) rfl rfl rfl dWR_init_39 ?_
  refine a_aload_n X dWR_init_42 rfl 0 rfl ?_
  refine a_bipush X (v := (11 : Int32)) dWR_init_43 (by decide) ?_
  refine a_newarr X hK.1 (t := 0) (k := 26) (N := 11) (Or.inl ⟨rfl, rfl⟩) tw_78 rfl (by decide) (by decide) (by decide) (Nat.le_of_ble_eq_true rfl) (Nat.le_of_ble_eq_true rfl) dWR_init_45 ?_
  refine a_put X hK.1 (k := 19) (o := some (some 26)) (x := 0) hp_WR_29 (fun _ => hin) rfl (by decide) rfl rfl rfl dWR_init_47 ?_
  refine a_aload_n X dWR_init_50 rfl 0 rfl ?_
  refine a_bipush X (v := (11 : Int32)) dWR_init_51 (by decide) ?_
  refine a_newarr X hK.1 (t := 0) (k := 27) (N := 11) (Or.inl ⟨rfl, rfl⟩) tw_78 rfl (by decide) (by decide) (by decide) (Nat.le_of_ble_eq_true rfl) (Nat.le_of_ble_eq_true rfl) dWR_init_53 ?_
  refine a_put X hK.1 (k := 19) (o := some (some 27)) (x := 0) hp_WR_32 (fun _ => hin) rfl (by decide) rfl rfl rfl dWR_init_55 ?_
  refine a_aload_n X dWR_init_58 rfl 0 rfl ?_
  refine a_bipush X (v := (11 : Int32)) dWR_init_59 (by decide) ?_
  refine a_newarr X hK.1 (t := 0) (k := 28) (N := 11) (Or.inl ⟨rfl, rfl⟩) tw_78 rfl (by decide) (by decide) (by decide) (Nat.le_of_ble_eq_true rfl) (Nat.le_of_ble_eq_true rfl) dWR_init_61 ?_
  refine a_put X hK.1 (k := 19) (o := some (some 28)) (x := 0) hp_WR_35 (fun _ => hin) rfl (by decide) rfl rfl rfl dWR_init_63 ?_
  refine a_aload_n X dWR_init_66 rfl 0 rfl ?_
  refine a_bipush X (v := (100 : Int32)) dWR_init_67 (by decide) ?_
  refine a_newarr X hK.1 (t := 0) (k := 29) (N := 100) (Or.inl ⟨rfl, rfl⟩) tw_78 rfl (by decide) (by decide) (by decide) (Nat.le_of_ble_eq_true rfl) (Nat.le_of_ble_eq_true rfl) dWR_init_69 ?_
  refine a_put X hK.1 (k := 19) (o := some (some 29)) (x := 0) hp_WR_38 (fun _ => hin) rfl (by decide) rfl rfl rfl dWR_init_71 ?_
  refine a_aload_n X dWR_init_74 rfl 0 rfl ?_
  refine a_bipush X (v := (100 : Int32)) dWR_init_75 (by decide) ?_
  refine a_newarr X hK.1 (t := 0) (k := 30) (N := 100) (Or.inl ⟨rfl, rfl⟩) tw_78 rfl (by decide) (by decide) (by decide) (Nat.le_of_ble_eq_true rfl) (Nat.le_of_ble_eq_true rfl) dWR_init_77 ?_
  refine a_put X hK.1 (k := 19) (o := some (some 30)) (x := 0) hp_WR_41 (fun _ => hin) rfl (by decide) rfl rfl rfl dWR_init_79 ?_
  refine a_aload_n X dWR_init_82 rfl 0 rfl ?_
  refine a_bipush X (v := (100 : Int32)) dWR_init_83 (by decide) ?_
  refine a_newarr X hK.1 (t := 0) (k := 31) (N := 100) (Or.inl ⟨rfl, rfl⟩) tw_78 rfl (by decide) (by decide) (by decide) (Nat.le_of_ble_eq_true rfl) (Nat.le_of_ble_eq_true rfl) dWR_init_85 ?_
  refine a_put X hK.1 (k := 19) (o := some (some 31)) (x := 0) hp_WR_44 (fun _ => hin) rfl (by decide) rfl rfl rfl dWR_init_87 ?_
  refine a_aload_n X dWR_init_90 rfl 0 rfl ?_
  refine a_aload_n X dWR_init_91 rfl 1 rfl ?_
  refine a_put X hK.1 (k := 19) (o := some (some 1)) (x := 0) hp_WR_47 (fun _ => hin) rfl (by decide) rfl rfl rfl dWR_init_92 ?_
  refine a_aload_n X dWR_init_95 rfl 0 rfl ?_
  refine a_aload_n X dWR_init_96 rfl 2 rfl ?_
  refine a_put X hK.1 (k := 19) (o := some (some 17)) (x := 0) hp_WR_51 (fun _ => hin) rfl (by decide) rfl rfl rfl dWR_init_97 ?_
  exact a_vret X hr hlk dWR_init_100 (by decide +kernel) rfl
def im_FI_init_32 (M : gMem) : gMem := (mpF M 32 0 (-1 : Int32))
set_option maxRecDepth 100000 in
set_option maxHeartbeats 4000000 in
theorem i_FI_init_32 {l : Launch} {D : va_G} {ta : Nat → ClassId} {base : Nat} {sa : Nat → Nat} (M : gMem) : GI hL_13 hL_13 gCl D ta base gNw sa gTabs gTs l y_FI_init b_FI_init 1 1 12 0 0 [.ref (base + 32)] M (im_FI_init_32 M) := by
  refine GI.of (own := "ObjectFile$Finding") pn_FI rfl rfl (Nat.le_of_ble_eq_true rfl) ?_
  intro p e s m below meth c X hK hr hlk hin
  refine a_args (L' := [(0, .ref (base + 32))]) rfl ?_
  refine a_aload_n X dFI_init_0 rfl 0 rfl ?_
  refine a_obj X tw_167 tw_23 tw_obj (Nat.le_of_ble_eq_true rfl) (Nat.le_of_ble_eq_true rfl) dFI_init_1 ?_
  refine a_aload_n X dFI_init_4 rfl 0 rfl ?_
  refine a_iconst X (v := (-1 : Int32)) dFI_init_5 (by decide) ?_
  refine a_put X hK.1 (k := 32) (o := none) (x := (-1 : Int32)) hp_FI_9 (fun _ => hin) rfl (by decide) (by simp [hRef, upd]) rfl rfl dFI_init_6 ?_
  exact a_vret X hr hlk dFI_init_9 (by decide +kernel) rfl
def im_DI_init_33 (M : gMem) : gMem := (mpF (mpF (mpF (mpN (mpF (mpN (mpF (mpN (mpF (mpN (mpF (mpN M 34) 33 2 0) 35) 33 3 0) 36) 33 4 0) 37) 33 5 0) 38) 33 6 0) 33 0 0) 33 1 0)
set_option maxRecDepth 100000 in
set_option maxHeartbeats 4000000 in
theorem i_DI_init_33 {l : Launch} {D : va_G} {ta : Nat → ClassId} {base : Nat} {sa : Nat → Nat} (M : gMem) : GI hL_14 hL_15 gCl D ta base gNw sa gTabs gTs l y_DI_init b_DI_init 3 1 12 5 60 [.ref (base + 33), .ref (base + 17), .ref (base + 32)] M (im_DI_init_33 M) := by
  refine GI.of (own := "ObjectFile$Directory") pn_DI rfl rfl (Nat.le_of_ble_eq_true rfl) ?_
  intro p e s m below meth c X hK hr hlk hin
  refine a_args (L' := [(0, .ref (base + 33)), (1, .ref (base + 17)), (2, .ref (base + 32))]) rfl ?_
  refine a_aload_n X dDI_init_0 rfl 0 rfl ?_
  refine a_obj X tw_178 tw_23 tw_obj (Nat.le_of_ble_eq_true rfl) (Nat.le_of_ble_eq_true rfl) dDI_init_1 ?_
  refine a_aload_n X dDI_init_4 rfl 0 rfl ?_
  refine a_bipush X (v := (16 : Int32)) dDI_init_5 (by decide) ?_
  refine a_newarr X hK.1 (t := 0) (k := 34) (N := 16) (Or.inl ⟨rfl, rfl⟩) tw_78 rfl (by decide) (by decide) (by decide) (Nat.le_of_ble_eq_true rfl) (Nat.le_of_ble_eq_true rfl) dDI_init_7 ?_
  refine a_put X hK.1 (k := 33) (o := some (some 34)) (x := 0) hp_DI_9 (fun _ => hin) rfl (by decide) rfl rfl rfl dDI_init_9 ?_
  refine a_aload_n X dDI_init_12 rfl 0 rfl ?_
  refine a_bipush X (v := (11 : Int32)) dDI_init_13 (by decide) ?_
  refine a_newarr X hK.1 (t := 0) (k := 35) (N := 11) (Or.inl ⟨rfl, rfl⟩) tw_78 rfl (by decide) (by decide) (by decide) (Nat.le_of_ble_eq_true rfl) (Nat.le_of_ble_eq_true rfl) dDI_init_15 ?_
  refine a_put X hK.1 (k := 33) (o := some (some 35)) (x := 0) hp_DI_15 (fun _ => hin) rfl (by decide) rfl rfl rfl dDI_init_17 ?_
  refine a_aload_n X dDI_init_20 rfl 0 rfl ?_
  refine a_bipush X (v := (11 : Int32)) dDI_init_21 (by decide) ?_
  refine a_newarr X hK.1 (t := 0) (k := 36) (N := 11) (Or.inl ⟨rfl, rfl⟩) tw_78 rfl (by decide) (by decide) (by decide) (Nat.le_of_ble_eq_true rfl) (Nat.le_of_ble_eq_true rfl) dDI_init_23 ?_
  refine a_put X hK.1 (k := 33) (o := some (some 36)) (x := 0) hp_DI_18 (fun _ => hin) rfl (by decide) rfl rfl rfl dDI_init_25 ?_
  refine a_aload_n X dDI_init_28 rfl 0 rfl ?_
  refine a_bipush X (v := (11 : Int32)) dDI_init_29 (by decide) ?_
  refine a_newarr X hK.1 (t := 0) (k := 37) (N := 11) (Or.inl ⟨rfl, rfl⟩) tw_78 rfl (by decide) (by decide) (by decide) (Nat.le_of_ble_eq_true rfl) (Nat.le_of_ble_eq_true rfl) dDI_init_31 ?_
  refine a_put X hK.1 (k := 33) (o := some (some 37)) (x := 0) hp_DI_21 (fun _ => hin) rfl (by decide) rfl rfl rfl dDI_init_33 ?_
  refine a_aload_n X dDI_init_36 rfl 0 rfl ?_
  refine a_bipush X (v := (11 : Int32)) dDI_init_37 (by decide) ?_
  refine a_newarr X hK.1 (t := 0) (k := 38) (N := 11) (Or.inl ⟨rfl, rfl⟩) tw_78 rfl (by decide) (by decide) (by decide) (Nat.le_of_ble_eq_true rfl) (Nat.le_of_ble_eq_true rfl) dDI_init_39 ?_
  refine a_put X hK.1 (k := 33) (o := some (some 38)) (x := 0) hp_DI_24 (fun _ => hin) rfl (by decide) rfl rfl rfl dDI_init_41 ?_
  refine a_aload_n X dDI_init_44 rfl 0 rfl ?_
  refine a_aload_n X dDI_init_45 rfl 1 rfl ?_
  refine a_put X hK.1 (k := 33) (o := some (some 17)) (x := 0) hp_DI_27 (fun _ => hin) rfl (by decide) rfl rfl rfl dDI_init_46 ?_
  refine a_aload_n X dDI_init_49 rfl 0 rfl ?_
  refine a_aload_n X dDI_init_50 rfl 2 rfl ?_
  refine a_put X hK.1 (k := 33) (o := some (some 32)) (x := 0) hp_DI_31 (fun _ => hin) rfl (by decide) rfl rfl rfl dDI_init_51 ?_
  exact a_vret X hr hlk dDI_init_54 (by decide +kernel) rfl
def im_RE_init_39 (M : gMem) : gMem := (mpF (mpF (mpF M 39 0 0) 39 1 0) 39 2 0)
set_option maxRecDepth 100000 in
set_option maxHeartbeats 4000000 in
theorem i_RE_init_39 {l : Launch} {D : va_G} {ta : Nat → ClassId} {base : Nat} {sa : Nat → Nat} (M : gMem) : GI hL_16 hL_17 gCl D ta base gNw sa gTabs gTs l y_RE_init b_RE_init 4 1 12 0 0 [.ref (base + 39), .ref (base + 17), .ref (base + 32), .ref (base + 33)] M (im_RE_init_39 M) := by
  refine GI.of (own := "ObjectFile$Reader") pn_RE rfl rfl (Nat.le_of_ble_eq_true rfl) ?_
  intro p e s m below meth c X hK hr hlk hin
  refine a_args (L' := [(0, .ref (base + 39)), (1, .ref (base + 17)), (2, .ref (base + 32)), (3, .ref (base + 33))]) rfl ?_
  refine a_aload_n X dRE_init_0 rfl 0 rfl ?_
  refine a_obj X tw_219 tw_23 tw_obj (Nat.le_of_ble_eq_true rfl) (Nat.le_of_ble_eq_true rfl) dRE_init_1 ?_
  refine a_aload_n X dRE_init_4 rfl 0 rfl ?_
  refine a_aload_n X dRE_init_5 rfl 1 rfl ?_
  refine a_put X hK.1 (k := 39) (o := some (some 17)) (x := 0) hp_RE_9 (fun _ => hin) rfl (by decide) rfl rfl rfl dRE_init_6 ?_
  refine a_aload_n X dRE_init_9 rfl 0 rfl ?_
  refine a_aload_n X dRE_init_10 rfl 2 rfl ?_
  refine a_put X hK.1 (k := 39) (o := some (some 32)) (x := 0) hp_RE_15 (fun _ => hin) rfl (by decide) rfl rfl rfl dRE_init_11 ?_
  refine a_aload_n X dRE_init_14 rfl 0 rfl ?_
  refine a_aload_n X dRE_init_15 rfl 3 rfl ?_
  refine a_put X hK.1 (k := 39) (o := some (some 33)) (x := 0) hp_RE_19 (fun _ => hin) rfl (by decide) rfl rfl rfl dRE_init_16 ?_
  exact a_vret X hr hlk dRE_init_19 (by decide +kernel) rfl
def im_OF_init_0 (M : gMem) : gMem := (mpF (mpN (mpF (im_RE_init_39 (mpN (mpF (im_DI_init_33 (mpN (mpF (im_FI_init_32 (mpN (mpF (im_WR_init_19 (mpN (mpF (im_FB_init_17 (mpN (mpF (im_CT_init_9 (mpN (mpF (im_CT_init_1 (mpN M 1)) 0 0 0) 9)) 0 1 0) 17)) 0 2 0) 19)) 0 3 0) 32)) 0 4 0) 33)) 0 5 0) 39)) 0 6 0) 40) 0 7 0)
set_option maxRecDepth 100000 in
set_option maxHeartbeats 4000000 in
theorem i_OF_init_0 {l : Launch} {D : va_G} {ta : Nat → ClassId} {base : Nat} {sa : Nat → Nat} (M : gMem) : GI hL_0 hL_18 gCl D ta base gNw sa gTabs gTs l y_OF_init b_OF_init 1 3 54 40 33838 [.ref (base + 0)] M (im_OF_init_0 M) := by
  refine GI.of (own := "ObjectFile") pn_OF rfl rfl (Nat.le_of_ble_eq_true rfl) ?_
  intro p e s m below meth c X hK hr hlk hin
  refine a_args (L' := [(0, .ref (base + 0))]) rfl ?_
  refine a_aload_n X dOF_init_0 rfl 0 rfl ?_
  refine a_obj X tw_22 tw_23 tw_obj (Nat.le_of_ble_eq_true rfl) (Nat.le_of_ble_eq_true rfl) dOF_init_1 ?_
  refine a_aload_n X dOF_init_4 rfl 0 rfl ?_
  refine a_new X hK.1 (C := cR_CT) (T := cT_CT) (N := 10) (ci := 0) (k := 1) (fs := [some none, some none, some none, some none, none, some none, some none, none, some none, none]) in_CT cY_CT ty_CT tw_25 tw_26 tw_2 rfl (df_CT base) rfl (Nat.le_of_ble_eq_true rfl) (Nat.le_of_ble_eq_true rfl) dOF_init_5 ?_
  refine a_dup X dOF_init_8 rfl ?_
  refine a_lay (lay2 := hL_1) (by decide +kernel) ?_
  refine a_initN X hK gTs_ok mw_CT_init nw_27 mi_CT_init rfl (As := []) rfl ⟨(Nat.le_of_ble_eq_true rfl), (Nat.le_of_ble_eq_true rfl), (Nat.le_of_ble_eq_true rfl), (Nat.le_of_ble_eq_true rfl)⟩ (i_CT_init_1 _) (rest := [.ref (base + 1), .ref (base + 0)]) rfl (Nat.le_of_ble_eq_true rfl) dOF_init_9 ?_
  refine a_put X hK.1 (k := 0) (o := some (some 1)) (x := 0) hp_OF_12 (fun _ => hin) rfl (by decide) rfl rfl rfl dOF_init_12 ?_
  refine a_aload_n X dOF_init_15 rfl 0 rfl ?_
  refine a_new X hK.1 (C := cR_CT) (T := cT_CT) (N := 10) (ci := 0) (k := 9) (fs := [some none, some none, some none, some none, none, some none, some none, none, some none, none]) in_CT cY_CT ty_CT tw_25 tw_26 tw_2 rfl (df_CT base) rfl (Nat.le_of_ble_eq_true rfl) (Nat.le_of_ble_eq_true rfl) dOF_init_16 ?_
  refine a_dup X dOF_init_19 rfl ?_
  refine a_lay (lay2 := hL_3) (by decide +kernel) ?_
  refine a_initN X hK gTs_ok mw_CT_init nw_27 mi_CT_init rfl (As := []) rfl ⟨(Nat.le_of_ble_eq_true rfl), (Nat.le_of_ble_eq_true rfl), (Nat.le_of_ble_eq_true rfl), (Nat.le_of_ble_eq_true rfl)⟩ (i_CT_init_9 _) (rest := [.ref (base + 9), .ref (base + 0)]) rfl (Nat.le_of_ble_eq_true rfl) dOF_init_20 ?_
  refine a_put X hK.1 (k := 0) (o := some (some 9)) (x := 0) hp_OF_16 (fun _ => hin) rfl (by decide) rfl rfl rfl dOF_init_23 ?_
  refine a_aload_n X dOF_init_26 rfl 0 rfl ?_
  refine a_new X hK.1 (C := cR_FB) (T := cT_FB) (N := 2) (ci := 2) (k := 17) (fs := [some none, none]) in_FB cY_FB ty_FB tw_79 tw_80 tw_3 rfl (df_FB base) rfl (Nat.le_of_ble_eq_true rfl) (Nat.le_of_ble_eq_true rfl) dOF_init_27 ?_
  refine a_dup X dOF_init_30 rfl ?_
  refine a_lay (lay2 := hL_5) (by decide +kernel) ?_
  refine a_initN X hK gTs_ok mw_FB_init nw_81 mi_FB_init rfl (As := []) rfl ⟨(Nat.le_of_ble_eq_true rfl), (Nat.le_of_ble_eq_true rfl), (Nat.le_of_ble_eq_true rfl), (Nat.le_of_ble_eq_true rfl)⟩ (i_FB_init_17 _) (rest := [.ref (base + 17), .ref (base + 0)]) rfl (Nat.le_of_ble_eq_true rfl) dOF_init_31 ?_
  refine a_put X hK.1 (k := 0) (o := some (some 17)) (x := 0) hp_OF_22 (fun _ => hin) rfl (by decide) rfl rfl rfl dOF_init_34 ?_
  refine a_aload_n X dOF_init_37 rfl 0 rfl ?_
  refine a_new X hK.1 (C := cR_WR) (T := cT_WR) (N := 15) (ci := 6) (k := 19) (fs := [some none, some none, some none, some none, some none, some none, some none, some none, some none, some none, some none, some none, none, none, none]) in_WR cY_WR ty_WR tw_95 tw_96 tw_4 rfl (df_WR base) rfl (Nat.le_of_ble_eq_true rfl) (Nat.le_of_ble_eq_true rfl) dOF_init_38 ?_
  refine a_dup X dOF_init_41 rfl ?_
  refine a_aload_n X dOF_init_42 rfl 0 rfl ?_
  refine a_getr X hK.1 (k := 0) fw_OF_12 rfl rfl dOF_init_43 ?_
  refine a_aload_n X dOF_init_46 rfl 0 rfl ?_
  refine a_getr X hK.1 (k := 0) fw_OF_22 rfl rfl dOF_init_47 ?_
  refine a_lay (lay2 := hL_7) (by decide +kernel) ?_
  refine a_initN X hK gTs_ok mw_WR_init nw_97 mi_WR_init rfl (As := [.ref (base + 1), .ref (base + 17)]) rfl ⟨(Nat.le_of_ble_eq_true rfl), (Nat.le_of_ble_eq_true rfl), (Nat.le_of_ble_eq_true rfl), (Nat.le_of_ble_eq_true rfl)⟩ (i_WR_init_19 _) (rest := [.ref (base + 19), .ref (base + 0)]) rfl (Nat.le_of_ble_eq_true rfl) dOF_init_50 ?_
  refine a_put X hK.1 (k := 0) (o := some (some 19)) (x := 0) hp_OF_31 (fun _ => hin) rfl (by decide) rfl rfl rfl dOF_init_53 ?_
  refine a_aload_n X dOF_init_56 rfl 0 rfl ?_
  refine a_new X hK.1 (C := cR_FI) (T := cT_FI) (N := 1) (ci := 3) (k := 32) (fs := [none]) in_FI cY_FI ty_FI tw_162 tw_163 tw_6 rfl (df_FI base) rfl (Nat.le_of_ble_eq_true rfl) (Nat.le_of_ble_eq_true rfl) dOF_init_57 ?_
  refine a_dup X dOF_init_60 rfl ?_
  refine a_lay (lay2 := hL_13) (by decide +kernel) ?_
  refine a_initN X hK gTs_ok mw_FI_init nw_164 mi_FI_init rfl (As := []) rfl ⟨(Nat.le_of_ble_eq_true rfl), (Nat.le_of_ble_eq_true rfl), (Nat.le_of_ble_eq_true rfl), (Nat.le_of_ble_eq_true rfl)⟩ (i_FI_init_32 _) (rest := [.ref (base + 32), .ref (base + 0)]) rfl (Nat.le_of_ble_eq_true rfl) dOF_init_61 ?_
  refine a_put X hK.1 (k := 0) (o := some (some 32)) (x := 0) hp_OF_38 (fun _ => hin) rfl (by decide) rfl rfl rfl dOF_init_64 ?_
  refine a_aload_n X dOF_init_67 rfl 0 rfl ?_
  refine a_new X hK.1 (C := cR_DI) (T := cT_DI) (N := 10) (ci := 1) (k := 33) (fs := [some none, some none, some none, some none, some none, some none, some none, none, none, none]) in_DI cY_DI ty_DI tw_173 tw_174 tw_7 rfl (df_DI base) rfl (Nat.le_of_ble_eq_true rfl) (Nat.le_of_ble_eq_true rfl) dOF_init_68 ?_
  refine a_dup X dOF_init_71 rfl ?_
  refine a_aload_n X dOF_init_72 rfl 0 rfl ?_
  refine a_getr X hK.1 (k := 0) fw_OF_22 rfl rfl dOF_init_73 ?_
  refine a_aload_n X dOF_init_76 rfl 0 rfl ?_
  refine a_getr X hK.1 (k := 0) fw_OF_38 rfl rfl dOF_init_77 ?_
  refine a_lay (lay2 := hL_14) (by decide +kernel) ?_
  refine a_initN X hK gTs_ok mw_DI_init nw_175 mi_DI_init rfl (As := [.ref (base + 17), .ref (base + 32)]) rfl ⟨(Nat.le_of_ble_eq_true rfl), (Nat.le_of_ble_eq_true rfl), (Nat.le_of_ble_eq_true rfl), (Nat.le_of_ble_eq_true rfl)⟩ (i_DI_init_33 _) (rest := [.ref (base + 33), .ref (base + 0)]) rfl (Nat.le_of_ble_eq_true rfl) dOF_init_80 ?_
  refine a_put X hK.1 (k := 0) (o := some (some 33)) (x := 0) hp_OF_47 (fun _ => hin) rfl (by decide) rfl rfl rfl dOF_init_83 ?_
  refine a_aload_n X dOF_init_86 rfl 0 rfl ?_
  refine a_new X hK.1 (C := cR_RE) (T := cT_RE) (N := 4) (ci := 4) (k := 39) (fs := [some none, some none, some none, none]) in_RE cY_RE ty_RE tw_214 tw_215 tw_8 rfl (df_RE base) rfl (Nat.le_of_ble_eq_true rfl) (Nat.le_of_ble_eq_true rfl) dOF_init_87 ?_
  refine a_dup X dOF_init_90 rfl ?_
  refine a_aload_n X dOF_init_91 rfl 0 rfl ?_
  refine a_getr X hK.1 (k := 0) fw_OF_22 rfl rfl dOF_init_92 ?_
  refine a_aload_n X dOF_init_95 rfl 0 rfl ?_
  refine a_getr X hK.1 (k := 0) fw_OF_38 rfl rfl dOF_init_96 ?_
  refine a_aload_n X dOF_init_99 rfl 0 rfl ?_
  refine a_getr X hK.1 (k := 0) fw_OF_47 rfl rfl dOF_init_100 ?_
  refine a_lay (lay2 := hL_16) (by decide +kernel) ?_
  refine a_initN X hK gTs_ok mw_RE_init nw_216 mi_RE_init rfl (As := [.ref (base + 17), .ref (base + 32), .ref (base + 33)]) rfl ⟨(Nat.le_of_ble_eq_true rfl), (Nat.le_of_ble_eq_true rfl), (Nat.le_of_ble_eq_true rfl), (Nat.le_of_ble_eq_true rfl)⟩ (i_RE_init_39 _) (rest := [.ref (base + 39), .ref (base + 0)]) rfl (Nat.le_of_ble_eq_true rfl) dOF_init_103 ?_
  refine a_put X hK.1 (k := 0) (o := some (some 39)) (x := 0) hp_OF_56 (fun _ => hin) rfl (by decide) rfl rfl rfl dOF_init_106 ?_
  refine a_aload_n X dOF_init_109 rfl 0 rfl ?_
  refine a_bipush X (v := (16 : Int32)) dOF_init_110 (by decide) ?_
  refine a_newarr X hK.1 (t := 1) (k := 40) (N := 16) (Or.inr ⟨rfl, rfl⟩) tw_77 rfl (by decide) (by decide) (by decide) (Nat.le_of_ble_eq_true rfl) (Nat.le_of_ble_eq_true rfl) dOF_init_112 ?_
  refine a_put X hK.1 (k := 0) (o := some (some 40)) (x := 0) hp_OF_60 (fun _ => hin) rfl (by decide) rfl rfl rfl dOF_init_114 ?_
  exact a_vret X hr hlk dOF_init_117 (by decide +kernel) rfl
