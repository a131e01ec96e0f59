def f_X10_element (σ : St) (p1 : Option Nat) (p2 : Int32) : Option (Int32) :=
  if p1 = none then
    some 0
  else
    if p2 < 0 then
      some 0
    else
      (dnA σ p1).bind fun a3 =>
      if p2 < (nI (hpL σ a3)) then
        (ix p2 (hpL σ a3)).bind fun j6 =>
        some (hpA σ a3 j6)
      else
        some 0
def LX5_init_27 : Nat → (Nat) → (Int32) → (St) → Option (St)
  | 0, _, _, _ => none
  | n + 1, t, v1_27, τ27 =>
    (dn τ27 5 (some t)).bind fun a11 =>
    (dnA τ27 (hpR τ27 161 a11)).bind fun a13 =>
    if (nI (hpL τ27 a13)) ≤ v1_27 then
      some τ27
    else
      (f_X10_element τ27 (some (hpG τ27 0)) v1_27).bind fun q16 =>
      (dn τ27 13 (hpR τ27 161 a11)).bind fun a18 =>
      (ix v1_27 (hpL τ27 a18)).bind fun j20 =>
      LX5_init_27 n t (v1_27 + 1) (stA τ27 a18 j20 q16)
def f_X5_init (σ : St) (t : Nat) : Option (St) :=
  (nwA σ 14 24).bind fun σ1 =>
  (dn σ1 5 (some t)).bind fun a3 =>
  (nwA (stR σ1 160 a3 (some (hpN σ))) 13 5).bind fun σ5 =>
  (dn σ5 5 (some t)).bind fun a7 =>
  (LX5_init_27 FU t 0 (stI (stR σ5 161 a7 (some (hpN (stR σ1 160 a3 (some (hpN σ)))))) 162 a7 0)).bind fun x10 =>
  some x10
def LX0_init_20 : Nat → (Nat) → (Int32) → (St) → Option (St)
  | 0, _, _, _ => none
  | n + 1, t, v1_20, τ20 =>
    (dn τ20 0 (some t)).bind fun a7 =>
    (dn τ20 17 (hpR τ20 0 a7)).bind fun a9 =>
    if (nI (hpL τ20 a9)) ≤ v1_20 then
      some τ20
    else
      (nwO τ20 5).bind fun σ12 =>
      (dn σ12 5 (some (hpN τ20))).bind fun a14 =>
      (f_X5_init σ12 a14).bind fun q16 =>
      (dn q16 17 (hpR τ20 0 a7)).bind fun a18 =>
      (ix v1_20 (hpL q16 a18)).bind fun j20 =>
      (dm q16 5 (some (hpN τ20))).bind fun w22 =>
      LX0_init_20 n t (v1_20 + 1) (stB q16 a18 j20 (some (hpN τ20)))
def f_X0_init (σ : St) (t : Nat) : Option (St) :=
  (nwA σ 17 8).bind fun σ1 =>
  (dn σ1 0 (some t)).bind fun a3 =>
  (LX0_init_20 FU t 0 (stI (stR σ1 0 a3 (some (hpN σ))) 1 a3 0)).bind fun x6 =>
  some x6
def f_X0_stateAt (σ : St) (t : Nat) (p1 : Int32) : Option (Option Nat) :=
  if p1 < 0 then
    some none
  else
    (dn σ 17 (hpR σ 0 t)).bind fun a2 =>
    if p1 < (nI (hpL σ a2)) then
      (ix p1 (hpL σ a2)).bind fun j5 =>
      some (hpB σ a2 j5)
    else
      some none
def LX0_dropOldest_8 : Nat → (Nat) → (Option Nat) → (Int32) → (St) → Option (St)
  | 0, _, _, _, _ => none
  | n + 1, t, l1, v2_8, τ8 =>
    (dn τ8 0 (some t)).bind fun a5 =>
    (dn τ8 17 (hpR τ8 0 a5)).bind fun a7 =>
    if (nI (hpL τ8 a7)) ≤ v2_8 then
      some τ8
    else
      (ix v2_8 (hpL τ8 a7)).bind fun j10 =>
      (ix (v2_8 - 1) (hpL τ8 a7)).bind fun j12 =>
      (dm τ8 5 (hpB τ8 a7 j10)).bind fun w14 =>
      LX0_dropOldest_8 n t l1 (v2_8 + 1) (stB τ8 a7 j12 (hpB τ8 a7 j10))
def f_X0_dropOldest (σ : St) (t : Nat) : Option (St) :=
  (f_X0_stateAt σ t 0).bind fun q1 =>
  (LX0_dropOldest_8 FU t q1 1 σ).bind fun x4 =>
  (dn x4 0 (some t)).bind fun a16 =>
  (dn x4 17 (hpR x4 0 a16)).bind fun a18 =>
  ((if (nI (hpL x4 a18)) ≤ 0 then
    some x4
  else
    (ix ((nI (hpL x4 a18)) - 1) (hpL x4 a18)).bind fun j22 =>
    (dm x4 5 q1).bind fun w24 =>
    some (stB x4 a18 j22 q1)) : Option (St)).bind fun (x20 : St) =>
  (dn x20 0 (some t)).bind fun a26 =>
  some (stI x20 1 a26 ((hpI x20 1 a26) - 1))
def f_X5_lineAt (σ : St) (t : Nat) (p1 : Int32) : Option (Option Nat) :=
  if p1 < 0 then
    some none
  else
    if (hpI σ 162 t) ≤ p1 then
      some none
    else
      (dn σ 14 (hpR σ 160 t)).bind fun a3 =>
      if p1 < (nI (hpL σ a3)) then
        (ix p1 (hpL σ a3)).bind fun j6 =>
        some (hpB σ a3 j6)
      else
        some none
def f_X5_setting (σ : St) (t : Nat) (p1 : Int32) : Option (Int32) :=
  (f_X10_element σ (hpR σ 161 t) p1).bind fun q1 =>
  some q1
def LX5_becomeLike_10 : Nat → (Nat) → (Option Nat) → (Int32) → (St) → Option (St)
  | 0, _, _, _, _ => none
  | n + 1, t, l1, v2_10, τ10 =>
    (dn τ10 5 (some t)).bind fun a5 =>
    (dn τ10 14 (hpR τ10 160 a5)).bind fun a7 =>
    if (nI (hpL τ10 a7)) ≤ v2_10 then
      some τ10
    else
      (dn τ10 5 l1).bind fun a10 =>
      (f_X5_lineAt τ10 a10 v2_10).bind fun q12 =>
      (ix v2_10 (hpL τ10 a7)).bind fun j14 =>
      (dm τ10 2 q12).bind fun w16 =>
      LX5_becomeLike_10 n t l1 (v2_10 + 1) (stB τ10 a7 j14 q12)
def LX5_becomeLike_38 : Nat → (Nat) → (Option Nat) → (Int32) → (St) → Option (St)
  | 0, _, _, _, _ => none
  | n + 1, t, l1, v2_38, τ38 =>
    (dn τ38 5 (some t)).bind fun a20 =>
    (dnA τ38 (hpR τ38 161 a20)).bind fun a22 =>
    if (nI (hpL τ38 a22)) ≤ v2_38 then
      some τ38
    else
      (dn τ38 5 l1).bind fun a25 =>
      (f_X5_setting τ38 a25 v2_38).bind fun q27 =>
      (dn τ38 13 (hpR τ38 161 a20)).bind fun a29 =>
      (ix v2_38 (hpL τ38 a29)).bind fun j31 =>
      LX5_becomeLike_38 n t l1 (v2_38 + 1) (stA τ38 a29 j31 q27)
def f_X5_becomeLike (σ : St) (t : Nat) (p1 : Option Nat) : Option (St) :=
  (dn σ 5 p1).bind fun a1 =>
  (LX5_becomeLike_10 FU t p1 0 (stI σ 162 t (hpI σ 162 a1))).bind fun x4 =>
  (LX5_becomeLike_38 FU t p1 0 x4).bind fun x19 =>
  some x19
def f_X0_keepState (σ : St) (t : Nat) (p1 : Option Nat) : Option (St) :=
  (dn σ 17 (hpR σ 0 t)).bind fun a1 =>
  ((if (hpI σ 1 t) < (nI (hpL σ a1)) then
    some σ
  else
    (f_X0_dropOldest σ t).bind fun q5 =>
    some q5) : Option (St)).bind fun (x3 : St) =>
  (dn x3 0 (some t)).bind fun a7 =>
  (f_X0_stateAt x3 a7 (hpI x3 1 a7)).bind fun q9 =>
  if q9 = none then
    some x3
  else
    (dn x3 5 q9).bind fun a12 =>
    (f_X5_becomeLike x3 a12 p1).bind fun q14 =>
    (dn q14 0 (some t)).bind fun a16 =>
    some (stI q14 1 a16 ((hpI q14 1 a16) + 1))
def f_X1_init (σ : St) (t : Nat) : Option (St) :=
  (nwA σ 18 480).bind fun σ1 =>
  (dn σ1 1 (some t)).bind fun a3 =>
  (nwA (stR σ1 32 a3 (some (hpN σ))) 15 24).bind fun σ5 =>
  (dn σ5 1 (some t)).bind fun a7 =>
  (nwA (stR σ5 33 a7 (some (hpN (stR σ1 32 a3 (some (hpN σ)))))) 19 24).bind fun σ9 =>
  (dn σ9 1 (some t)).bind fun a11 =>
  (nwA (stR σ9 34 a11 (some (hpN (stR σ5 33 a7 (some (hpN (stR σ1 32 a3 (some (hpN σ))))))))) 16 480).bind fun σ13 =>
  (dn σ13 1 (some t)).bind fun a15 =>
  some (stI (stI (stI (stI (stI (stR σ13 35 a15 (some (hpN (stR σ9 34 a11 (some (hpN (stR σ5 33 a7 (some (hpN (stR σ1 32 a3 (some (hpN σ)))))))))))) 36 a15 0) 37 a15 0) 38 a15 0) 39 a15 0) 40 a15 0)
def f_X1_rowAt (σ : St) (t : Nat) (p1 : Int32) : Option (Option Nat) :=
  if p1 < 0 then
    some none
  else
    if (hpI σ 36 t) ≤ p1 then
      some none
    else
      (dn σ 18 (hpR σ 32 t)).bind fun a3 =>
      if p1 < (nI (hpL σ a3)) then
        (ix p1 (hpL σ a3)).bind fun j6 =>
        some (hpB σ a3 j6)
      else
        some none
def f_X1_spanAt (σ : St) (t : Nat) (p1 : Int32) : Option (Option Nat) :=
  if p1 < 0 then
    some none
  else
    if (hpI σ 39 t) ≤ p1 then
      some none
    else
      (dn σ 15 (hpR σ 33 t)).bind fun a3 =>
      if p1 < (nI (hpL σ a3)) then
        (ix p1 (hpL σ a3)).bind fun j6 =>
        some (hpB σ a3 j6)
      else
        some none
def f_X1_stanzaAt (σ : St) (t : Nat) (p1 : Int32) : Option (Option Nat) :=
  if p1 < 0 then
    some none
  else
    if (hpI σ 37 t) ≤ p1 then
      some none
    else
      (dn σ 19 (hpR σ 34 t)).bind fun a3 =>
      if p1 < (nI (hpL σ a3)) then
        (ix p1 (hpL σ a3)).bind fun j6 =>
        some (hpB σ a3 j6)
      else
        some none
def f_X1_pageAt (σ : St) (t : Nat) (p1 : Int32) : Option (Option Nat) :=
  if p1 < 0 then
    some none
  else
    if (hpI σ 38 t) ≤ p1 then
      some none
    else
      (dn σ 16 (hpR σ 35 t)).bind fun a3 =>
      if p1 < (nI (hpL σ a3)) then
        (ix p1 (hpL σ a3)).bind fun j6 =>
        some (hpB σ a3 j6)
      else
        some none
def LX1_rowAtPlace_5 : Nat → (St) → (Nat) → (Option Nat) → (Int32) → (Int32) → Option ((Option Nat) ⊕ (Unit))
  | 0, _, _, _, _, _ => none
  | n + 1, σ, t, l1, l2, v3_5 =>
    (dn σ 4 l1).bind fun a5 =>
    if ((hpI σ 128 a5) + (hpI σ 129 a5)) ≤ v3_5 then
      some (.inr ())
    else
      (f_X1_rowAt σ t v3_5).bind fun q8 =>
      sb (if q8 = none then
        some (.inr ())
      else
        (dn σ 6 q8).bind fun a12 =>
        if ¬ (hpI σ 195 a12) = l2 then
          some (.inr ())
        else
          some (.inl (.inl q8))) fun (wx10 : Unit) =>
      LX1_rowAtPlace_5 n σ t l1 l2 (v3_5 + 1)
def f_X1_rowAtPlace (σ : St) (t : Nat) (p1 : Option Nat) (p2 : Int32) : Option (Option Nat) :=
  (dn σ 4 p1).bind fun a1 =>
  sb (LX1_rowAtPlace_5 FU σ t p1 p2 (hpI σ 128 a1)) fun wx4 =>
  some none
def f_X1_runOvers (σ : St) (t : Nat) : Option (Int32) :=
  some ((hpI σ 36 t) - (hpI σ 39 t))
def f_X10_oneIf (σ : St) (p1 : Int32) : Option (Int32) :=
  if p1 = 0 then
    some 0
  else
    some 1
def LX1_cuts_4 : Nat → (St) → (Nat) → (Int32) → (Int32) → Option (Int32)
  | 0, _, _, _, _ => none
  | n + 1, σ, t, v1_4, v2_4 =>
    if (hpI σ 36 t) ≤ v2_4 then
      some v1_4
    else
      (f_X1_rowAt σ t v2_4).bind fun q4 =>
      ((if q4 = none then
        some 0
      else
        (dn σ 6 q4).bind fun a8 =>
        if (hpI σ 200 a8) = 0 then
          some 0
        else
          some 1) : Option (Int32)).bind fun (x6 : Int32) =>
      (f_X10_oneIf σ x6).bind fun q12 =>
      LX1_cuts_4 n σ t (v1_4 + q12) (v2_4 + 1)
def f_X1_cuts (σ : St) (t : Nat) : Option (Int32) :=
  (LX1_cuts_4 FU σ t 0 0).bind fun x2 =>
  some x2
def LX1_markedPages_4 : Nat → (St) → (Nat) → (Int32) → (Int32) → Option (Int32)
  | 0, _, _, _, _ => none
  | n + 1, σ, t, v1_4, v2_4 =>
    if (hpI σ 38 t) ≤ v2_4 then
      some v1_4
    else
      (f_X1_pageAt σ t v2_4).bind fun q4 =>
      ((if q4 = none then
        some 0
      else
        (dn σ 4 q4).bind fun a8 =>
        if (hpI σ 132 a8) = 0 then
          some 0
        else
          some 1) : Option (Int32)).bind fun (x6 : Int32) =>
      (f_X10_oneIf σ x6).bind fun q12 =>
      LX1_markedPages_4 n σ t (v1_4 + q12) (v2_4 + 1)
def f_X1_markedPages (σ : St) (t : Nat) : Option (Int32) :=
  (LX1_markedPages_4 FU σ t 0 0).bind fun x2 =>
  some x2
def f_X1_lastNumber (σ : St) (t : Nat) : Option (Int32) :=
  (f_X1_spanAt σ t ((hpI σ 39 t) - 1)).bind fun q1 =>
  if q1 = none then
    some 0
  else
    (dn σ 3 q1).bind fun a4 =>
    some (hpI σ 97 a4)
def f_X6_end (σ : St) (t : Nat) : Option (Int32) :=
  some ((hpI σ 196 t) + (hpI σ 198 t))
def f_X1_widthOf (σ : St) (t : Nat) (p1 : Int32) : Option (Int32) :=
  (f_X1_rowAt σ t p1).bind fun q1 =>
  if q1 = none then
    some 0
  else
    (dn σ 6 q1).bind fun a4 =>
    (f_X6_end σ a4).bind fun q6 =>
    some q6
def LX1_greatestWidth_5 : Nat → (St) → (Nat) → (Int32) → (Int32) → (Int32) → (Int32) → Option (Int32)
  | 0, _, _, _, _, _, _ => none
  | n + 1, σ, t, l1, l2, v3_5, v4_5 =>
    if (l1 + l2) ≤ v4_5 then
      some v3_5
    else
      (f_X1_widthOf σ t v4_5).bind fun q4 =>
      LX1_greatestWidth_5 n σ t l1 l2 (jmax v3_5 q4) (v4_5 + 1)
def f_X1_greatestWidth (σ : St) (t : Nat) (p1 : Int32) (p2 : Int32) : Option (Int32) :=
  (LX1_greatestWidth_5 FU σ t p1 p2 0 p1).bind fun x2 =>
  some x2
def f_X5_beginsStanza (σ : St) (t : Nat) (p1 : Int32) : Option (Int32) :=
  (f_X5_lineAt σ t (p1 - 1)).bind fun q1 =>
  if q1 = none then
    some 1
  else
    (dn σ 2 q1).bind fun a4 =>
    if (hpI σ 67 a4) = 0 then
      some 0
    else
      some 1
def f_X7_init (σ : St) (t : Nat) : Option (Unit) :=
  some ()
def f_X1_addStanza (σ : St) (t : Nat) (p1 : Int32) : Option (Option Nat × St) :=
  sb (if (hpI σ 37 t) < 0 then
    some (.inr ())
  else
    (dn σ 19 (hpR σ 34 t)).bind fun a3 =>
    if (hpI σ 37 t) < (nI (hpL σ a3)) then
      (ix (hpI σ 37 t) (hpL σ a3)).bind fun j6 =>
      ((if (hpB σ a3 j6) = none then
        (nwO σ 7).bind fun σ10 =>
        (dn σ10 7 (some (hpN σ))).bind fun a12 =>
        (f_X7_init σ10 a12).bind fun q14 =>
        (dn σ10 1 (some t)).bind fun a16 =>
        (dn σ10 19 (hpR σ10 34 a16)).bind fun a18 =>
        (ix (hpI σ10 37 a16) (hpL σ10 a18)).bind fun j20 =>
        (dm σ10 7 (some (hpN σ))).bind fun w22 =>
        some ((some (hpN σ)), (stB σ10 a18 j20 (some (hpN σ))))
      else
        some ((hpB σ a3 j6), σ)) : Option ((Option Nat) × St)).bind fun (x8 : (Option Nat) × St) =>
      (dn x8.2 1 (some t)).bind fun a25 =>
      (dn (stI x8.2 37 a25 ((hpI x8.2 37 a25) + 1)) 7 x8.1).bind fun a27 =>
      some (.inl (x8.1, (stI (stI (stI (stI x8.2 37 a25 ((hpI x8.2 37 a25) + 1)) 224 a27 p1) 225 a27 (hpI (stI (stI x8.2 37 a25 ((hpI x8.2 37 a25) + 1)) 224 a27 p1) 36 a25)) 226 a27 0)))
    else
      some (.inr ())) fun (wx1 : Unit) =>
  (nwO σ 7).bind fun σ29 =>
  (dn σ29 7 (some (hpN σ))).bind fun a31 =>
  (f_X7_init σ29 a31).bind fun q33 =>
  some ((some (hpN σ)), σ29)
def f_X1_lastStanza (σ : St) (t : Nat) (p1 : Int32) : Option (Option Nat × St) :=
  (f_X1_stanzaAt σ t ((hpI σ 37 t) - 1)).bind fun q1 =>
  if q1 = none then
    (f_X1_addStanza σ t p1).bind fun q4 =>
    some (q4.1, q4.2)
  else
    some (q1, σ)
def f_X3_init (σ : St) (t : Nat) : Option (Unit) :=
  some ()
def f_X1_addSpan (σ : St) (t : Nat) (p1 : Option Nat) (p2 : Int32) : Option (Option Nat × St) :=
  (f_X1_lastNumber σ t).bind fun q1 =>
  sb (if (hpI σ 39 t) < 0 then
    some (.inr ())
  else
    (dn σ 15 (hpR σ 33 t)).bind fun a5 =>
    if (hpI σ 39 t) < (nI (hpL σ a5)) then
      (ix (hpI σ 39 t) (hpL σ a5)).bind fun j8 =>
      ((if (hpB σ a5 j8) = none then
        (nwO σ 3).bind fun σ12 =>
        (dn σ12 3 (some (hpN σ))).bind fun a14 =>
        (f_X3_init σ12 a14).bind fun q16 =>
        (dn σ12 1 (some t)).bind fun a18 =>
        (dn σ12 15 (hpR σ12 33 a18)).bind fun a20 =>
        (ix (hpI σ12 39 a18) (hpL σ12 a20)).bind fun j22 =>
        (dm σ12 3 (some (hpN σ))).bind fun w24 =>
        some ((some (hpN σ)), (stB σ12 a20 j22 (some (hpN σ))))
      else
        some ((hpB σ a5 j8), σ)) : Option ((Option Nat) × St)).bind fun (x10 : (Option Nat) × St) =>
      (dn x10.2 1 (some t)).bind fun a27 =>
      (dn (stI x10.2 39 a27 ((hpI x10.2 39 a27) + 1)) 2 p1).bind fun a29 =>
      ((if (hpI (stI x10.2 39 a27 ((hpI x10.2 39 a27) + 1)) 66 a29) = 0 then
        some 0
      else
        if p2 = 0 then
          some 0
        else
          some 1) : Option (Int32)).bind fun (x31 : Int32) =>
      (dn (stI x10.2 39 a27 ((hpI x10.2 39 a27) + 1)) 3 x10.1).bind fun a34 =>
      (gz x31).bind fun z36 =>
      ((if (hpI (stI (stI x10.2 39 a27 ((hpI x10.2 39 a27) + 1)) 96 a34 x31) 96 a34) = 0 then
        some (q1 + 1)
      else
        some q1) : Option (Int32)).bind fun (x38 : Int32) =>
      some (.inl (x10.1, (stI (stI (stI (stI (stI x10.2 39 a27 ((hpI x10.2 39 a27) + 1)) 96 a34 x31) 97 a34 x38) 98 a34 ((hpI (stI (stI (stI x10.2 39 a27 ((hpI x10.2 39 a27) + 1)) 96 a34 x31) 97 a34 x38) 37 a27) - 1)) 99 a34 (hpI (stI (stI (stI (stI x10.2 39 a27 ((hpI x10.2 39 a27) + 1)) 96 a34 x31) 97 a34 x38) 98 a34 ((hpI (stI (stI (stI x10.2 39 a27 ((hpI x10.2 39 a27) + 1)) 96 a34 x31) 97 a34 x38) 37 a27) - 1)) 36 a27))))
    else
      some (.inr ())) fun (wx3 : Unit) =>
  (nwO σ 3).bind fun σ40 =>
  (dn σ40 3 (some (hpN σ))).bind fun a42 =>
  (f_X3_init σ40 a42).bind fun q44 =>
  some ((some (hpN σ)), σ40)
def f_X6_init (σ : St) (t : Nat) : Option (Unit) :=
  some ()
def f_X1_addRow (σ : St) (t : Nat) (p1 : Int32) (p2 : Int32) (p3 : Int32) : Option (Option Nat × St) :=
  (f_X1_rowAt σ t ((hpI σ 36 t) - 1)).bind fun q1 =>
  ((if q1 = none then
    some 0
  else
    (dn σ 6 q1).bind fun a5 =>
    if ¬ (hpI σ 192 a5) = p1 then
      some 0
    else
      some ((hpI σ 193 a5) + 1)) : Option (Int32)).bind fun (x3 : Int32) =>
  sb (if (hpI σ 36 t) < 0 then
    some (.inr ())
  else
    (dn σ 18 (hpR σ 32 t)).bind fun a11 =>
    if (hpI σ 36 t) < (nI (hpL σ a11)) then
      (ix (hpI σ 36 t) (hpL σ a11)).bind fun j14 =>
      ((if (hpB σ a11 j14) = none then
        (nwO σ 6).bind fun σ18 =>
        (dn σ18 6 (some (hpN σ))).bind fun a20 =>
        (f_X6_init σ18 a20).bind fun q22 =>
        (dn σ18 1 (some t)).bind fun a24 =>
        (dn σ18 18 (hpR σ18 32 a24)).bind fun a26 =>
        (ix (hpI σ18 36 a24) (hpL σ18 a26)).bind fun j28 =>
        (dm σ18 6 (some (hpN σ))).bind fun w30 =>
        some ((some (hpN σ)), (stB σ18 a26 j28 (some (hpN σ))))
      else
        some ((hpB σ a11 j14), σ)) : Option ((Option Nat) × St)).bind fun (x16 : (Option Nat) × St) =>
      (dn x16.2 1 (some t)).bind fun a33 =>
      (dn (stI x16.2 36 a33 ((hpI x16.2 36 a33) + 1)) 6 x16.1).bind fun a35 =>
      some (.inl (x16.1, (stI (stI (stI (stI (stI (stI (stI (stI x16.2 36 a33 ((hpI x16.2 36 a33) + 1)) 192 a35 p1) 193 a35 x3) 196 a35 p2) 197 a35 p3) 198 a35 0) 199 a35 0) 200 a35 0)))
    else
      some (.inr ())) fun (wx9 : Unit) =>
  (nwO σ 6).bind fun σ37 =>
  (dn σ37 6 (some (hpN σ))).bind fun a39 =>
  (f_X6_init σ37 a39).bind fun q41 =>
  some ((some (hpN σ)), σ37)
def f_X1_addFirstRow (σ : St) (t : Nat) (p1 : Option Nat) (p2 : Int32) (p3 : Option Nat) (p4 : Option Nat) (p5 : Int32) : Option (Option Nat × St) :=
  (dn σ 3 p3).bind fun a1 =>
  ((if (hpI σ 96 a1) = 0 then
    (dn σ 2 p1).bind fun a5 =>
    (dn σ 5 p4).bind fun a7 =>
    (f_X5_setting σ a7 2).bind fun q9 =>
    some ((hpI σ 65 a5) * q9)
  else
    (f_X1_widthOf σ t ((hpI σ 36 t) - 1)).bind fun q11 =>
    some (q11 + 1)) : Option (Int32)).bind fun (x3 : Int32) =>
  (f_X1_addRow σ t p2 (jmin x3 (p5 - 6)) 0).bind fun q13 =>
  (dn q13.2 3 p3).bind fun a15 =>
  ((if ¬ (hpI q13.2 96 a15) = 0 then
    some 0
  else
    (nz 5).bind fun w19 =>
    if ¬ ((hpI q13.2 97 a15) - (hpI q13.2 97 a15) / 5 * 5) = 0 then
      some 0
    else
      some (hpI q13.2 97 a15)) : Option (Int32)).bind fun (x17 : Int32) =>
  (dn q13.2 6 q13.1).bind fun a22 =>
  some (q13.1, (stI q13.2 199 a22 x17))
def f_X9_lengthOf (σ : St) (t : Nat) (p1 : Int32) : Option (Int32) :=
  (f_X10_element σ (hpR σ 289 t) p1).bind fun q1 =>
  some q1
def LX1_putWord_9 : Nat → (Nat) → (Int32) → (Int32) → (Option Nat) → (Int32) → (Int32) → (St) → Option ((Option Nat) × Int32 × St)
  | 0, _, _, _, _, _, _, _ => none
  | n + 1, t, l3, l4, v5_9, v6_9, v7_9, τ9 =>
    if 16 ≤ v7_9 then
      some (v5_9, v6_9, τ9)
    else
      (dn τ9 6 v5_9).bind fun a4 =>
      if v6_9 ≤ (l4 - (hpI τ9 196 a4)) then
        some (v5_9, v6_9, τ9)
      else
        (dn (stI τ9 198 a4 (l4 - (hpI τ9 196 a4))) 1 (some t)).bind fun a7 =>
        (f_X1_addRow (stI τ9 198 a4 (l4 - (hpI τ9 196 a4))) a7 (hpI (stI τ9 198 a4 (l4 - (hpI τ9 196 a4))) 192 a4) l3 ((hpI (stI τ9 198 a4 (l4 - (hpI τ9 196 a4))) 197 a4) + (hpI (stI τ9 198 a4 (l4 - (hpI τ9 196 a4))) 198 a4))).bind fun q9 =>
        (dn q9.2 6 q9.1).bind fun a11 =>
        LX1_putWord_9 n t l3 l4 q9.1 (v6_9 - (hpI (stI τ9 198 a4 (l4 - (hpI τ9 196 a4))) 198 a4)) (v7_9 + 1) (stI q9.2 200 a11 1)
def f_X1_putWord (σ : St) (t : Nat) (p1 : Int32) (p2 : Option Nat) (p3 : Int32) (p4 : Int32) : Option (Option Nat × St) :=
  (LX1_putWord_9 FU t p3 p4 p2 p1 0 σ).bind fun x2 =>
  (dn x2.2.2 6 x2.1).bind fun a13 =>
  some (x2.1, (stI x2.2.2 198 a13 x2.2.1))
def LX1_putWords_9 : Nat → (Nat) → (Option Nat) → (Int32) → (Int32) → (Option Nat) → (Int32) → (Int32) → (St) → Option (St)
  | 0, _, _, _, _, _, _, _, _ => none
  | n + 1, t, l1, l3, l4, v5_9, v6_9, v7_9, τ9 =>
    (dn τ9 9 l1).bind fun a3 =>
    if (hpI τ9 291 a3) ≤ v7_9 then
      some τ9
    else
      (f_X9_lengthOf τ9 a3 v7_9).bind fun q6 =>
      (dn τ9 6 v5_9).bind fun a8 =>
      ((if (hpI τ9 198 a8) ≤ 0 then
        ((if (hpI τ9 198 a8) ≤ 0 then
          some (v5_9, τ9)
        else
          (dn τ9 1 (some t)).bind fun a14 =>
          (f_X1_addRow τ9 a14 (hpI τ9 192 a8) l3 v6_9).bind fun q16 =>
          some (q16.1, q16.2)) : Option ((Option Nat) × St)).bind fun (x12 : (Option Nat) × St) =>
        (dn x12.2 1 (some t)).bind fun a18 =>
        (f_X1_putWord x12.2 a18 q6 x12.1 l3 l4).bind fun q20 =>
        some (q20.1, q20.2)
      else
        (f_X6_end τ9 a8).bind fun q22 =>
        if l4 < ((q22 + 1) + q6) then
          ((if (hpI τ9 198 a8) ≤ 0 then
            some (v5_9, τ9)
          else
            (dn τ9 1 (some t)).bind fun a27 =>
            (f_X1_addRow τ9 a27 (hpI τ9 192 a8) l3 v6_9).bind fun q29 =>
            some (q29.1, q29.2)) : Option ((Option Nat) × St)).bind fun (x25 : (Option Nat) × St) =>
          (dn x25.2 1 (some t)).bind fun a31 =>
          (f_X1_putWord x25.2 a31 q6 x25.1 l3 l4).bind fun q33 =>
          some (q33.1, q33.2)
        else
          some (v5_9, (stI τ9 198 a8 ((hpI τ9 198 a8) + (1 + q6))))) : Option ((Option Nat) × St)).bind fun (x10 : (Option Nat) × St) =>
      LX1_putWords_9 n t l1 l3 l4 x10.1 (v6_9 + (q6 + 1)) (v7_9 + 1) x10.2
def f_X1_putWords (σ : St) (t : Nat) (p1 : Option Nat) (p2 : Option Nat) (p3 : Int32) (p4 : Int32) : Option (St) :=
  (LX1_putWords_9 FU t p1 p3 p4 p2 0 0 σ).bind fun x2 =>
  some x2
def LX1_breakLines_17 : Nat → (Nat) → (Option Nat) → (Int32) → (Int32) → (St) → Option (St)
  | 0, _, _, _, _, _ => none
  | n + 1, t, l1, l2, v3_17, τ17 =>
    (dn τ17 5 l1).bind fun a3 =>
    if (hpI τ17 162 a3) ≤ v3_17 then
      some τ17
    else
      (f_X5_lineAt τ17 a3 v3_17).bind fun q6 =>
      ((if q6 = none then
        some τ17
      else
        (f_X5_beginsStanza τ17 a3 v3_17).bind fun q10 =>
        ((if q10 = 0 then
          (dn τ17 1 (some t)).bind fun a14 =>
          (f_X1_lastStanza τ17 a14 v3_17).bind fun q16 =>
          some (q16.1, q16.2)
        else
          (dn τ17 1 (some t)).bind fun a18 =>
          (f_X1_addStanza τ17 a18 v3_17).bind fun q20 =>
          some (q20.1, q20.2)) : Option ((Option Nat) × St)).bind fun (x12 : (Option Nat) × St) =>
        (dn x12.2 7 x12.1).bind fun a22 =>
        ((if v3_17 ≤ (hpI x12.2 224 a22) then
          some 0
        else
          some 1) : Option (Int32)).bind fun (x24 : Int32) =>
        (dn x12.2 1 (some t)).bind fun a26 =>
        (f_X1_addSpan x12.2 a26 q6 x24).bind fun q28 =>
        (dn q28.2 1 (some t)).bind fun a30 =>
        (f_X1_addFirstRow q28.2 a30 q6 v3_17 q28.1 l1 l2).bind fun q32 =>
        (dn q32.2 2 q6).bind fun a34 =>
        (dn q32.2 5 l1).bind fun a36 =>
        (f_X5_setting q32.2 a36 2).bind fun q38 =>
        (f_X5_setting q32.2 a36 3).bind fun q40 =>
        (dn q32.2 1 (some t)).bind fun a42 =>
        (f_X1_putWords q32.2 a42 (hpR q32.2 64 a34) q32.1 (jmin (((hpI q32.2 65 a34) * q38) + q40) (l2 - 6)) l2).bind fun q44 =>
        (dn q44 1 (some t)).bind fun a46 =>
        (dn q44 3 q28.1).bind fun a48 =>
        (dn (stI q44 100 a48 ((hpI q44 36 a46) - (hpI q44 99 a48))) 7 x12.1).bind fun a50 =>
        some (stI (stI q44 100 a48 ((hpI q44 36 a46) - (hpI q44 99 a48))) 226 a50 ((hpI (stI q44 100 a48 ((hpI q44 36 a46) - (hpI q44 99 a48))) 226 a50) + (hpI (stI q44 100 a48 ((hpI q44 36 a46) - (hpI q44 99 a48))) 100 a48)))) : Option (St)).bind fun (x8 : St) =>
      LX1_breakLines_17 n t l1 l2 (v3_17 + 1) x8
def f_X1_breakLines (σ : St) (t : Nat) (p1 : Option Nat) (p2 : Int32) : Option (St) :=
  (LX1_breakLines_17 FU t p1 p2 0 (stI (stI (stI σ 36 t 0) 39 t 0) 37 t 0)).bind fun x2 =>
  some x2
def f_X1_closePage (σ : St) (t : Nat) (p1 : Int32) : Option (St) :=
  some (stI σ 40 t p1)
def f_X1_passOver (σ : St) (t : Nat) (p1 : Option Nat) (p2 : Int32) (p3 : Int32) : Option (St) :=
  (dn σ 7 p1).bind fun a1 =>
  (f_X1_spanAt σ t (hpI σ 224 a1)).bind fun q3 =>
  if (hpI σ 38 t) = 0 then
    some σ
  else
    if q3 = none then
      some σ
    else
      ((if p3 < (hpI σ 226 a1) then
        some 0
      else
        if p2 < (hpI σ 226 a1) then
          some 0
        else
          some 1) : Option (Int32)).bind fun (x7 : Int32) =>
      (dn σ 3 q3).bind fun a10 =>
      sb (if ((p2 - (hpI σ 40 t)) - 1) < (hpI σ 100 a10) then
        some (.inr ())
      else
        if x7 = 0 then
          some (.inl (stI σ 40 t ((hpI σ 40 t) + 1)))
        else
          if (hpI σ 226 a1) ≤ ((p2 - (hpI σ 40 t)) - 1) then
            some (.inl (stI σ 40 t ((hpI σ 40 t) + 1)))
          else
            some (.inr ())) fun (wx12 : Unit) =>
      (f_X1_closePage σ t p2).bind fun q16 =>
      some q16
def f_X4_init (σ : St) (t : Nat) : Option (Unit) :=
  some ()
def f_X1_addPage (σ : St) (t : Nat) (p1 : Int32) : Option (Option Nat × St) :=
  sb (if (hpI σ 38 t) < 0 then
    some (.inr ())
  else
    (dn σ 16 (hpR σ 35 t)).bind fun a3 =>
    if (hpI σ 38 t) < (nI (hpL σ a3)) then
      (ix (hpI σ 38 t) (hpL σ a3)).bind fun j6 =>
      ((if (hpB σ a3 j6) = none then
        (nwO σ 4).bind fun σ10 =>
        (dn σ10 4 (some (hpN σ))).bind fun a12 =>
        (f_X4_init σ10 a12).bind fun q14 =>
        (dn σ10 1 (some t)).bind fun a16 =>
        (dn σ10 16 (hpR σ10 35 a16)).bind fun a18 =>
        (ix (hpI σ10 38 a16) (hpL σ10 a18)).bind fun j20 =>
        (dm σ10 4 (some (hpN σ))).bind fun w22 =>
        some ((some (hpN σ)), (stB σ10 a18 j20 (some (hpN σ))))
      else
        some ((hpB σ a3 j6), σ)) : Option ((Option Nat) × St)).bind fun (x8 : (Option Nat) × St) =>
      (dn x8.2 1 (some t)).bind fun a25 =>
      (dn (stI x8.2 38 a25 ((hpI x8.2 38 a25) + 1)) 4 x8.1).bind fun a27 =>
      some (.inl (x8.1, (stI (stI (stI (stI (stI (stI x8.2 38 a25 ((hpI x8.2 38 a25) + 1)) 128 a27 p1) 129 a27 0) 130 a27 0) 131 a27 0) 132 a27 0)))
    else
      some (.inr ())) fun (wx1 : Unit) =>
  (nwO σ 4).bind fun σ29 =>
  (dn σ29 4 (some (hpN σ))).bind fun a31 =>
  (f_X4_init σ29 a31).bind fun q33 =>
  some ((some (hpN σ)), σ29)
def f_X1_putRow (σ : St) (t : Nat) (p1 : Option Nat) (p2 : Int32) (p3 : Int32) : Option (St) :=
  ((if p3 ≤ (hpI σ 40 t) then
    some none
  else
    (f_X1_pageAt σ t ((hpI σ 38 t) - 1)).bind fun q3 =>
    some q3) : Option ((Option Nat))).bind fun (x1 : (Option Nat)) =>
  ((if x1 = none then
    (f_X1_addPage σ t p2).bind fun q7 =>
    (dn q7.2 1 (some t)).bind fun a9 =>
    some (q7.1, (stI q7.2 40 a9 0))
  else
    some (x1, σ)) : Option ((Option Nat) × St)).bind fun (x5 : (Option Nat) × St) =>
  (dn x5.2 1 (some t)).bind fun a12 =>
  (dn x5.2 6 p1).bind fun a14 =>
  (dn (stI (stI (stI x5.2 194 a14 ((hpI x5.2 38 a12) - 1)) 195 a14 (hpI (stI x5.2 194 a14 ((hpI x5.2 38 a12) - 1)) 40 a12)) 40 a12 ((hpI (stI (stI x5.2 194 a14 ((hpI x5.2 38 a12) - 1)) 195 a14 (hpI (stI x5.2 194 a14 ((hpI x5.2 38 a12) - 1)) 40 a12)) 40 a12) + 1)) 4 x5.1).bind fun a16 =>
  ((if ¬ (hpI (stI (stI (stI (stI (stI x5.2 194 a14 ((hpI x5.2 38 a12) - 1)) 195 a14 (hpI (stI x5.2 194 a14 ((hpI x5.2 38 a12) - 1)) 40 a12)) 40 a12 ((hpI (stI (stI x5.2 194 a14 ((hpI x5.2 38 a12) - 1)) 195 a14 (hpI (stI x5.2 194 a14 ((hpI x5.2 38 a12) - 1)) 40 a12)) 40 a12) + 1)) 129 a16 ((hpI (stI (stI (stI x5.2 194 a14 ((hpI x5.2 38 a12) - 1)) 195 a14 (hpI (stI x5.2 194 a14 ((hpI x5.2 38 a12) - 1)) 40 a12)) 40 a12 ((hpI (stI (stI x5.2 194 a14 ((hpI x5.2 38 a12) - 1)) 195 a14 (hpI (stI x5.2 194 a14 ((hpI x5.2 38 a12) - 1)) 40 a12)) 40 a12) + 1)) 129 a16) + 1)) 130 a16 (hpI (stI (stI (stI (stI x5.2 194 a14 ((hpI x5.2 38 a12) - 1)) 195 a14 (hpI (stI x5.2 194 a14 ((hpI x5.2 38 a12) - 1)) 40 a12)) 40 a12 ((hpI (stI (stI x5.2 194 a14 ((hpI x5.2 38 a12) - 1)) 195 a14 (hpI (stI x5.2 194 a14 ((hpI x5.2 38 a12) - 1)) 40 a12)) 40 a12) + 1)) 129 a16 ((hpI (stI (stI (stI x5.2 194 a14 ((hpI x5.2 38 a12) - 1)) 195 a14 (hpI (stI x5.2 194 a14 ((hpI x5.2 38 a12) - 1)) 40 a12)) 40 a12 ((hpI (stI (stI x5.2 194 a14 ((hpI x5.2 38 a12) - 1)) 195 a14 (hpI (stI x5.2 194 a14 ((hpI x5.2 38 a12) - 1)) 40 a12)) 40 a12) + 1)) 129 a16) + 1)) 40 a12)) 193 a14) = 0 then
    some 0
  else
    some 1) : Option (Int32)).bind fun (x18 : Int32) =>
  (f_X10_oneIf (stI (stI (stI (stI (stI x5.2 194 a14 ((hpI x5.2 38 a12) - 1)) 195 a14 (hpI (stI x5.2 194 a14 ((hpI x5.2 38 a12) - 1)) 40 a12)) 40 a12 ((hpI (stI (stI x5.2 194 a14 ((hpI x5.2 38 a12) - 1)) 195 a14 (hpI (stI x5.2 194 a14 ((hpI x5.2 38 a12) - 1)) 40 a12)) 40 a12) + 1)) 129 a16 ((hpI (stI (stI (stI x5.2 194 a14 ((hpI x5.2 38 a12) - 1)) 195 a14 (hpI (stI x5.2 194 a14 ((hpI x5.2 38 a12) - 1)) 40 a12)) 40 a12 ((hpI (stI (stI x5.2 194 a14 ((hpI x5.2 38 a12) - 1)) 195 a14 (hpI (stI x5.2 194 a14 ((hpI x5.2 38 a12) - 1)) 40 a12)) 40 a12) + 1)) 129 a16) + 1)) 130 a16 (hpI (stI (stI (stI (stI x5.2 194 a14 ((hpI x5.2 38 a12) - 1)) 195 a14 (hpI (stI x5.2 194 a14 ((hpI x5.2 38 a12) - 1)) 40 a12)) 40 a12 ((hpI (stI (stI x5.2 194 a14 ((hpI x5.2 38 a12) - 1)) 195 a14 (hpI (stI x5.2 194 a14 ((hpI x5.2 38 a12) - 1)) 40 a12)) 40 a12) + 1)) 129 a16 ((hpI (stI (stI (stI x5.2 194 a14 ((hpI x5.2 38 a12) - 1)) 195 a14 (hpI (stI x5.2 194 a14 ((hpI x5.2 38 a12) - 1)) 40 a12)) 40 a12 ((hpI (stI (stI x5.2 194 a14 ((hpI x5.2 38 a12) - 1)) 195 a14 (hpI (stI x5.2 194 a14 ((hpI x5.2 38 a12) - 1)) 40 a12)) 40 a12) + 1)) 129 a16) + 1)) 40 a12)) x18).bind fun q20 =>
  some (stI (stI (stI (stI (stI (stI x5.2 194 a14 ((hpI x5.2 38 a12) - 1)) 195 a14 (hpI (stI x5.2 194 a14 ((hpI x5.2 38 a12) - 1)) 40 a12)) 40 a12 ((hpI (stI (stI x5.2 194 a14 ((hpI x5.2 38 a12) - 1)) 195 a14 (hpI (stI x5.2 194 a14 ((hpI x5.2 38 a12) - 1)) 40 a12)) 40 a12) + 1)) 129 a16 ((hpI (stI (stI (stI x5.2 194 a14 ((hpI x5.2 38 a12) - 1)) 195 a14 (hpI (stI x5.2 194 a14 ((hpI x5.2 38 a12) - 1)) 40 a12)) 40 a12 ((hpI (stI (stI x5.2 194 a14 ((hpI x5.2 38 a12) - 1)) 195 a14 (hpI (stI x5.2 194 a14 ((hpI x5.2 38 a12) - 1)) 40 a12)) 40 a12) + 1)) 129 a16) + 1)) 130 a16 (hpI (stI (stI (stI (stI x5.2 194 a14 ((hpI x5.2 38 a12) - 1)) 195 a14 (hpI (stI x5.2 194 a14 ((hpI x5.2 38 a12) - 1)) 40 a12)) 40 a12 ((hpI (stI (stI x5.2 194 a14 ((hpI x5.2 38 a12) - 1)) 195 a14 (hpI (stI x5.2 194 a14 ((hpI x5.2 38 a12) - 1)) 40 a12)) 40 a12) + 1)) 129 a16 ((hpI (stI (stI (stI x5.2 194 a14 ((hpI x5.2 38 a12) - 1)) 195 a14 (hpI (stI x5.2 194 a14 ((hpI x5.2 38 a12) - 1)) 40 a12)) 40 a12 ((hpI (stI (stI x5.2 194 a14 ((hpI x5.2 38 a12) - 1)) 195 a14 (hpI (stI x5.2 194 a14 ((hpI x5.2 38 a12) - 1)) 40 a12)) 40 a12) + 1)) 129 a16) + 1)) 40 a12)) 131 a16 ((hpI (stI (stI (stI (stI (stI x5.2 194 a14 ((hpI x5.2 38 a12) - 1)) 195 a14 (hpI (stI x5.2 194 a14 ((hpI x5.2 38 a12) - 1)) 40 a12)) 40 a12 ((hpI (stI (stI x5.2 194 a14 ((hpI x5.2 38 a12) - 1)) 195 a14 (hpI (stI x5.2 194 a14 ((hpI x5.2 38 a12) - 1)) 40 a12)) 40 a12) + 1)) 129 a16 ((hpI (stI (stI (stI x5.2 194 a14 ((hpI x5.2 38 a12) - 1)) 195 a14 (hpI (stI x5.2 194 a14 ((hpI x5.2 38 a12) - 1)) 40 a12)) 40 a12 ((hpI (stI (stI x5.2 194 a14 ((hpI x5.2 38 a12) - 1)) 195 a14 (hpI (stI x5.2 194 a14 ((hpI x5.2 38 a12) - 1)) 40 a12)) 40 a12) + 1)) 129 a16) + 1)) 130 a16 (hpI (stI (stI (stI (stI x5.2 194 a14 ((hpI x5.2 38 a12) - 1)) 195 a14 (hpI (stI x5.2 194 a14 ((hpI x5.2 38 a12) - 1)) 40 a12)) 40 a12 ((hpI (stI (stI x5.2 194 a14 ((hpI x5.2 38 a12) - 1)) 195 a14 (hpI (stI x5.2 194 a14 ((hpI x5.2 38 a12) - 1)) 40 a12)) 40 a12) + 1)) 129 a16 ((hpI (stI (stI (stI x5.2 194 a14 ((hpI x5.2 38 a12) - 1)) 195 a14 (hpI (stI x5.2 194 a14 ((hpI x5.2 38 a12) - 1)) 40 a12)) 40 a12 ((hpI (stI (stI x5.2 194 a14 ((hpI x5.2 38 a12) - 1)) 195 a14 (hpI (stI x5.2 194 a14 ((hpI x5.2 38 a12) - 1)) 40 a12)) 40 a12) + 1)) 129 a16) + 1)) 40 a12)) 131 a16) + q20))
def LX1_putStanza_5 : Nat → (Nat) → (Option Nat) → (Int32) → (Int32) → (St) → Option (St)
  | 0, _, _, _, _, _ => none
  | n + 1, t, l1, l2, v3_5, τ5 =>
    (dn τ5 7 l1).bind fun a5 =>
    if ((hpI τ5 225 a5) + (hpI τ5 226 a5)) ≤ v3_5 then
      some τ5
    else
      (dn τ5 1 (some t)).bind fun a8 =>
      (f_X1_rowAt τ5 a8 v3_5).bind fun q10 =>
      ((if q10 = none then
        some none
      else
        (dn τ5 6 q10).bind fun a14 =>
        (f_X1_spanAt τ5 a8 (hpI τ5 192 a14)).bind fun q16 =>
        some q16) : Option ((Option Nat))).bind fun (x12 : (Option Nat)) =>
      ((if x12 = none then
        some τ5
      else
        (dn τ5 6 q10).bind fun a21 =>
        ((if ¬ (hpI τ5 193 a21) = 0 then
          some 0
        else
          if v3_5 ≤ (hpI τ5 225 a5) then
            some 0
          else
            some 1) : Option (Int32)).bind fun (x23 : Int32) =>
        ((if x23 = 0 then
          some τ5
        else
          (dn τ5 3 x12).bind fun a28 =>
          if (hpI τ5 100 a28) ≤ (l2 - (hpI τ5 40 a8)) then
            some τ5
          else
            (f_X1_closePage τ5 a8 l2).bind fun q31 =>
            some q31) : Option (St)).bind fun (x26 : St) =>
        (dn x26 1 (some t)).bind fun a33 =>
        (f_X1_putRow x26 a33 q10 v3_5 l2).bind fun q35 =>
        some q35) : Option (St)).bind fun (x19 : St) =>
      LX1_putStanza_5 n t l1 l2 (v3_5 + 1) x19
def f_X1_putStanza (σ : St) (t : Nat) (p1 : Option Nat) (p2 : Int32) : Option (St) :=
  (dn σ 7 p1).bind fun a1 =>
  (LX1_putStanza_5 FU t p1 p2 (hpI σ 225 a1) σ).bind fun x4 =>
  some x4
def f_X1_beginsWithStanza (σ : St) (t : Nat) (p1 : Option Nat) : Option (Int32) :=
  if p1 = none then
    some 0
  else
    (dn σ 4 p1).bind fun a2 =>
    (f_X1_rowAt σ t (hpI σ 128 a2)).bind fun q4 =>
    ((if q4 = none then
      some none
    else
      (dn σ 6 q4).bind fun a8 =>
      (f_X1_spanAt σ t (hpI σ 192 a8)).bind fun q10 =>
      some q10) : Option ((Option Nat))).bind fun (x6 : (Option Nat)) =>
    ((if x6 = none then
      some none
    else
      (dn σ 3 x6).bind fun a15 =>
      (f_X1_stanzaAt σ t (hpI σ 98 a15)).bind fun q17 =>
      some q17) : Option ((Option Nat))).bind fun (x13 : (Option Nat)) =>
    if x13 = none then
      some 0
    else
      (dn σ 7 x13).bind fun a21 =>
      if ¬ (hpI σ 225 a21) = (hpI σ 128 a2) then
        some 0
      else
        some 1
def LX1_putOnPages_12 : Nat → (Nat) → (Int32) → (Int32) → (Int32) → (St) → Option (St)
  | 0, _, _, _, _, _ => none
  | n + 1, t, l1, l2, v3_12, τ12 =>
    (dn τ12 1 (some t)).bind fun a3 =>
    if (hpI τ12 37 a3) ≤ v3_12 then
      some τ12
    else
      (f_X1_stanzaAt τ12 a3 v3_12).bind fun q6 =>
      ((if q6 = none then
        some τ12
      else
        (f_X1_passOver τ12 a3 q6 l1 l2).bind fun q10 =>
        (dn q10 1 (some t)).bind fun a12 =>
        (f_X1_putStanza q10 a12 q6 l1).bind fun q14 =>
        some q14) : Option (St)).bind fun (x8 : St) =>
      LX1_putOnPages_12 n t l1 l2 (v3_12 + 1) x8
def LX1_putOnPages_55 : Nat → (Nat) → (Int32) → (St) → Option (St)
  | 0, _, _, _ => none
  | n + 1, t, v3_55, τ55 =>
    (dn τ55 1 (some t)).bind fun a19 =>
    if (hpI τ55 38 a19) ≤ v3_55 then
      some τ55
    else
      (f_X1_pageAt τ55 a19 v3_55).bind fun q22 =>
      ((if q22 = none then
        some τ55
      else
        (f_X1_pageAt τ55 a19 (v3_55 + 1)).bind fun q26 =>
        (f_X1_beginsWithStanza τ55 a19 q26).bind fun q28 =>
        (dn τ55 4 q22).bind fun a30 =>
        (gz q28).bind fun z32 =>
        some (stI τ55 132 a30 q28)) : Option (St)).bind fun (x24 : St) =>
      LX1_putOnPages_55 n t (v3_55 + 1) x24
def f_X1_putOnPages (σ : St) (t : Nat) (p1 : Int32) (p2 : Int32) : Option (St) :=
  (LX1_putOnPages_12 FU t p1 p2 0 (stI (stI σ 38 t 0) 40 t 0)).bind fun x2 =>
  (LX1_putOnPages_55 FU t 0 x2).bind fun x18 =>
  some x18
def f_X2_init (σ : St) (t : Nat) (p1 : Option Nat) (p2 : Int32) (p3 : Int32) (p4 : Int32) : Option (St) :=
  (gz p3).bind fun z1 =>
  (gz p4).bind fun z3 =>
  some (stI (stI (stI (stR σ 64 t p1) 65 t p2) 66 t p3) 67 t p4)
def f_X5_changeSetting (σ : St) (t : Nat) (p1 : Int32) (p2 : Int32) : Option (St) :=
  if p1 < 0 then
    some σ
  else
    (dnA σ (hpR σ 161 t)).bind fun a2 =>
    if (nI (hpL σ a2)) ≤ p1 then
      some σ
    else
      (dn σ 13 (hpR σ 161 t)).bind fun a5 =>
      (ix p1 (hpL σ a5)).bind fun j7 =>
      some (stA σ a5 j7 p2)
def f_X5_exchange (σ : St) (t : Nat) (p1 : Int32) (p2 : Option Nat) : Option (St) :=
  if p1 < 0 then
    some σ
  else
    if (hpI σ 162 t) ≤ p1 then
      some σ
    else
      (dn σ 14 (hpR σ 160 t)).bind fun a3 =>
      if (nI (hpL σ a3)) ≤ p1 then
        some σ
      else
        (ix p1 (hpL σ a3)).bind fun j6 =>
        (dm σ 2 p2).bind fun w8 =>
        some (stB σ a3 j6 p2)
def LX5_putIn_37 : Nat → (Nat) → (Int32) → (Option Nat) → (Int32) → (St) → Option (St)
  | 0, _, _, _, _, _ => none
  | n + 1, t, l1, l2, v3_37, τ37 =>
    if v3_37 ≤ l1 then
      some τ37
    else
      (dn τ37 5 (some t)).bind fun a10 =>
      (dn τ37 14 (hpR τ37 160 a10)).bind fun a12 =>
      (ix (v3_37 - 1) (hpL τ37 a12)).bind fun j14 =>
      (ix v3_37 (hpL τ37 a12)).bind fun j16 =>
      (dm τ37 2 (hpB τ37 a12 j14)).bind fun w18 =>
      LX5_putIn_37 n t l1 l2 (v3_37 + (-1)) (stB τ37 a12 j16 (hpB τ37 a12 j14))
def f_X5_putIn (σ : St) (t : Nat) (p1 : Int32) (p2 : Option Nat) : Option (St) :=
  if p1 < 0 then
    some σ
  else
    if (hpI σ 162 t) < p1 then
      some σ
    else
      if (hpI σ 162 t) < 0 then
        some σ
      else
        (dn σ 14 (hpR σ 160 t)).bind fun a4 =>
        if (hpI σ 162 t) < (nI (hpL σ a4)) then
          (LX5_putIn_37 FU t p1 p2 (hpI σ 162 t) σ).bind fun x8 =>
          (dn x8 5 (some t)).bind fun a20 =>
          (dn x8 14 (hpR x8 160 a20)).bind fun a22 =>
          (ix p1 (hpL x8 a22)).bind fun j24 =>
          (dm x8 2 p2).bind fun w26 =>
          some (stI (stB x8 a22 j24 p2) 162 a20 ((hpI (stB x8 a22 j24 p2) 162 a20) + 1))
        else
          some σ
def LX5_takeOut_37 : Nat → (Nat) → (Int32) → (St) → Option (St)
  | 0, _, _, _ => none
  | n + 1, t, v2_37, τ37 =>
    (dn τ37 5 (some t)).bind fun a8 =>
    if (hpI τ37 162 a8) ≤ v2_37 then
      some τ37
    else
      (dn τ37 14 (hpR τ37 160 a8)).bind fun a11 =>
      (ix (v2_37 + 1) (hpL τ37 a11)).bind fun j13 =>
      (ix v2_37 (hpL τ37 a11)).bind fun j15 =>
      (dm τ37 2 (hpB τ37 a11 j13)).bind fun w17 =>
      LX5_takeOut_37 n t (v2_37 + 1) (stB τ37 a11 j15 (hpB τ37 a11 j13))
def f_X5_takeOut (σ : St) (t : Nat) (p1 : Int32) : Option (St) :=
  if p1 < 0 then
    some σ
  else
    if (hpI σ 162 t) ≤ p1 then
      some σ
    else
      (dn σ 14 (hpR σ 160 t)).bind fun a3 =>
      if (hpI σ 162 t) ≤ (nI (hpL σ a3)) then
        (LX5_takeOut_37 FU t p1 (stI σ 162 t ((hpI σ 162 t) - 1))).bind fun x7 =>
        (dn x7 5 (some t)).bind fun a19 =>
        (dn x7 14 (hpR x7 160 a19)).bind fun a21 =>
        (ix (hpI x7 162 a19) (hpL x7 a21)).bind fun j23 =>
        (dm x7 2 none).bind fun w25 =>
        some (stB x7 a21 j23 none)
      else
        some σ
def f_X8_init (σ : St) (t : Nat) : Option (St) :=
  (nwA σ 12 80).bind fun σ1 =>
  (dn σ1 8 (some t)).bind fun a3 =>
  some (stI (stR σ1 256 a3 (some (hpN σ))) 257 a3 0)
def f_X8_append (σ : St) (t : Nat) (p1 : Int32) : Option (St) :=
  if (hpI σ 257 t) < 0 then
    some σ
  else
    (dn σ 12 (hpR σ 256 t)).bind fun a2 =>
    if (nI (hpL σ a2)) ≤ (hpI σ 257 t) then
      some σ
    else
      (ix (hpI σ 257 t) (hpL σ a2)).bind fun j5 =>
      some (stI (stA σ a2 j5 ((p1).toInt8.toInt32).toInt8.toInt32) 257 t ((hpI (stA σ a2 j5 ((p1).toInt8.toInt32).toInt8.toInt32) 257 t) + 1))
def f_X8_byteAt (σ : St) (t : Nat) (p1 : Int32) : Option (Int32) :=
  if p1 < 0 then
    some (-1)
  else
    if (hpI σ 257 t) ≤ p1 then
      some (-1)
    else
      (dn σ 12 (hpR σ 256 t)).bind fun a3 =>
      if p1 < (nI (hpL σ a3)) then
        (ix p1 (hpL σ a3)).bind fun j6 =>
        some (hpA σ a3 j6)
      else
        some (-1)
def LX8_behindBlanks_2 : Nat → (St) → (Nat) → (Int32) → Option (Int32)
  | 0, _, _, _ => none
  | n + 1, σ, t, v2_2 =>
    if (hpI σ 257 t) ≤ v2_2 then
      some v2_2
    else
      (f_X8_byteAt σ t v2_2).bind fun q4 =>
      if ¬ q4 = 32 then
        some v2_2
      else
        LX8_behindBlanks_2 n σ t (v2_2 + 1)
def f_X8_behindBlanks (σ : St) (t : Nat) (p1 : Int32) : Option (Int32) :=
  (LX8_behindBlanks_2 FU σ t p1).bind fun x2 =>
  some x2
def f_X10_isLetter (σ : St) (p1 : Int32) : Option (Int32) :=
  if p1 < 97 then
    some 0
  else
    if 122 < p1 then
      some 0
    else
      some 1
def LX8_behindLetters_2 : Nat → (St) → (Nat) → (Int32) → Option (Int32)
  | 0, _, _, _ => none
  | n + 1, σ, t, v2_2 =>
    if (hpI σ 257 t) ≤ v2_2 then
      some v2_2
    else
      (f_X8_byteAt σ t v2_2).bind fun q4 =>
      (f_X10_isLetter σ q4).bind fun q6 =>
      if q6 = 0 then
        some v2_2
      else
        LX8_behindLetters_2 n σ t (v2_2 + 1)
def f_X8_behindLetters (σ : St) (t : Nat) (p1 : Int32) : Option (Int32) :=
  (LX8_behindLetters_2 FU σ t p1).bind fun x2 =>
  some x2
def LX8_lineFault_26 : Nat → (St) → (Nat) → (Int32) → (Int32) → Option (Int32)
  | 0, _, _, _, _ => none
  | n + 1, σ, t, v1_26, v2_26 =>
    if 5 ≤ v2_26 then
      some v1_26
    else
      (f_X8_byteAt σ t v1_26).bind fun q12 =>
      if ¬ q12 = 62 then
        some v1_26
      else
        (f_X8_behindBlanks σ t (v1_26 + 1)).bind fun q15 =>
        LX8_lineFault_26 n σ t q15 (v2_26 + 1)
def LX8_lineFault_70 : Nat → (St) → (Nat) → (Int32) → (Int32) → Option ((Int32) ⊕ (Int32))
  | 0, _, _, _, _ => none
  | n + 1, σ, t, v1_70, v2_70 =>
    if 80 ≤ v2_70 then
      some (.inr v1_70)
    else
      (f_X8_byteAt σ t v1_70).bind fun q25 =>
      (f_X10_isLetter σ q25).bind fun q27 =>
      if q27 = 0 then
        some (.inr v1_70)
      else
        (f_X8_behindLetters σ t v1_70).bind fun q30 =>
        if (q30 - v1_70) ≤ 16 then
          (f_X8_behindBlanks σ t q30).bind fun q33 =>
          LX8_lineFault_70 n σ t q33 (v2_70 + 1)
        else
          some (.inl (v1_70 + 16))
def f_X8_lineFault (σ : St) (t : Nat) : Option (Int32) :=
  (f_X8_behindBlanks σ t 0).bind fun q1 =>
  (f_X8_byteAt σ t q1).bind fun q3 =>
  ((if ¬ q3 = 126 then
    some q1
  else
    (f_X8_behindBlanks σ t (q1 + 1)).bind fun q7 =>
    some q7) : Option (Int32)).bind fun (x5 : Int32) =>
  (LX8_lineFault_26 FU σ t x5 0).bind fun x10 =>
  (f_X8_byteAt σ t x10).bind fun q17 =>
  (f_X10_isLetter σ q17).bind fun q19 =>
  if ¬ q19 = 0 then
    sb (LX8_lineFault_70 FU σ t x10 0) fun wx23 =>
    (f_X8_byteAt σ t wx23).bind fun q35 =>
    ((if ¬ q35 = 47 then
      some wx23
    else
      (f_X8_behindBlanks σ t (wx23 + 1)).bind fun q39 =>
      some q39) : Option (Int32)).bind fun (x37 : Int32) =>
    if (hpI σ 257 t) ≤ x37 then
      some (-1)
    else
      some x37
  else
    some x10
def f_X10_shapeName (σ : St) (p1 : Int32) : Option (Nat) :=
  if p1 = 0 then
    some 0
  else if p1 = 1 then
    some 1
  else if p1 = 2 then
    some 2
  else if p1 = 3 then
    some 3
  else 
    some 4
def LX8_isBetween_15 : Nat → (St) → (Nat) → (Int32) → (Nat) → (Int32) → Option ((Int32) ⊕ (Unit))
  | 0, _, _, _, _, _ => none
  | n + 1, σ, t, l1, l3, v4_15 =>
    (kS l3).bind fun j6 =>
    if (nI (strLen.getD l3 0)) ≤ v4_15 then
      some (.inr ())
    else
      (f_X8_byteAt σ t (l1 + v4_15)).bind fun q9 =>
      (ixS v4_15 l3).bind fun j11 =>
      if q9 = ((strByt.getD l3 []).getD j11 0) then
        LX8_isBetween_15 n σ t l1 l3 (v4_15 + 1)
      else
        some (.inl 0)
def f_X8_isBetween (σ : St) (t : Nat) (p1 : Int32) (p2 : Int32) (p3 : Nat) : Option (Int32) :=
  (kS p3).bind fun j1 =>
  if (p2 - p1) = (nI (strLen.getD p3 0)) then
    sb (LX8_isBetween_15 FU σ t p1 p3 0) fun wx5 =>
    some 1
  else
    some 0
def LX8_namedShape_14 : Nat → (St) → (Nat) → (Int32) → (Int32) → (Int32) → Option ((Int32) ⊕ (Unit))
  | 0, _, _, _, _, _ => none
  | n + 1, σ, t, l1, l2, v3_14 =>
    if 4 ≤ v3_14 then
      some (.inr ())
    else
      (f_X10_shapeName σ v3_14).bind fun q8 =>
      (f_X8_isBetween σ t l1 l2 q8).bind fun q10 =>
      if q10 = 0 then
        LX8_namedShape_14 n σ t l1 l2 (v3_14 + 1)
      else
        some (.inl v3_14)
def f_X8_namedShape (σ : St) (t : Nat) : Option (Int32) :=
  (f_X8_behindBlanks σ t 0).bind fun q1 =>
  (f_X8_behindLetters σ t q1).bind fun q3 =>
  sb (LX8_namedShape_14 FU σ t q1 q3 0) fun wx6 =>
  some (-1)
def f_X8_shapeFault (σ : St) (t : Nat) : Option (Int32) :=
  (f_X8_namedShape σ t).bind fun q1 =>
  if ¬ q1 = (-1) then
    (f_X8_behindBlanks σ t 0).bind fun q4 =>
    (f_X8_behindLetters σ t q4).bind fun q6 =>
    (f_X8_behindBlanks σ t q6).bind fun q8 =>
    if (hpI σ 257 t) ≤ q8 then
      some (-1)
    else
      some q8
  else
    (f_X8_behindBlanks σ t 0).bind fun q11 =>
    some q11
def f_X9_init (σ : St) (t : Nat) : Option (St) :=
  (nwA σ 12 80).bind fun σ1 =>
  (dn σ1 9 (some t)).bind fun a3 =>
  (nwA (stR σ1 288 a3 (some (hpN σ))) 13 40).bind fun σ5 =>
  (dn σ5 9 (some t)).bind fun a7 =>
  some (stI (stI (stI (stR σ5 289 a7 (some (hpN (stR σ1 288 a3 (some (hpN σ)))))) 290 a7 0) 291 a7 0) 292 a7 0)
def f_X9_append (σ : St) (t : Nat) (p1 : Int32) : Option (St) :=
  if (hpI σ 290 t) < 0 then
    some σ
  else
    (dn σ 12 (hpR σ 288 t)).bind fun a2 =>
    if (nI (hpL σ a2)) ≤ (hpI σ 290 t) then
      some σ
    else
      (ix (hpI σ 290 t) (hpL σ a2)).bind fun j5 =>
      some (stI (stA σ a2 j5 ((p1).toInt8.toInt32).toInt8.toInt32) 290 t ((hpI (stA σ a2 j5 ((p1).toInt8.toInt32).toInt8.toInt32) 290 t) + 1))
def f_X9_add (σ : St) (t : Nat) (p1 : Int32) (p2 : Int32) : Option (St) :=
  ((if p2 = 0 then
    some σ
  else
    ((if (hpI σ 291 t) ≤ 0 then
      some σ
    else
      (f_X9_append σ t 32).bind fun q5 =>
      some q5) : Option (St)).bind fun (x3 : St) =>
    (dn x3 9 (some t)).bind fun a7 =>
    some (stI x3 291 a7 ((hpI x3 291 a7) + 1))) : Option (St)).bind fun (x1 : St) =>
  (dn x1 9 (some t)).bind fun a9 =>
  (f_X9_append x1 a9 p1).bind fun q11 =>
  (dn q11 9 (some t)).bind fun a13 =>
  if (hpI (stI q11 292 a13 ((hpI q11 292 a13) + 1)) 291 a13) ≤ 0 then
    some (stI q11 292 a13 ((hpI q11 292 a13) + 1))
  else
    (dnA (stI q11 292 a13 ((hpI q11 292 a13) + 1)) (hpR (stI q11 292 a13 ((hpI q11 292 a13) + 1)) 289 a13)).bind fun a16 =>
    if (nI (hpL (stI q11 292 a13 ((hpI q11 292 a13) + 1)) a16)) < (hpI (stI q11 292 a13 ((hpI q11 292 a13) + 1)) 291 a13) then
      some (stI q11 292 a13 ((hpI q11 292 a13) + 1))
    else
      (ix ((hpI (stI q11 292 a13 ((hpI q11 292 a13) + 1)) 291 a13) - 1) (hpL (stI q11 292 a13 ((hpI q11 292 a13) + 1)) a16)).bind fun j19 =>
      (dn (stI q11 292 a13 ((hpI q11 292 a13) + 1)) 13 (hpR (stI q11 292 a13 ((hpI q11 292 a13) + 1)) 289 a13)).bind fun a21 =>
      (ix ((hpI (stI q11 292 a13 ((hpI q11 292 a13) + 1)) 291 a13) - 1) (hpL (stI q11 292 a13 ((hpI q11 292 a13) + 1)) a21)).bind fun j23 =>
      some (stA (stI q11 292 a13 ((hpI q11 292 a13) + 1)) a21 j23 ((hpA (stI q11 292 a13 ((hpI q11 292 a13) + 1)) a16 j19) + 1))
def LX8_toLine_18 : Nat → (Nat) → (Option Nat) → (Int32) → (Int32) → (Int32) → (Int32) → (St) → Option (Int32 × Int32 × Int32 × St)
  | 0, _, _, _, _, _, _, _ => none
  | n + 1, t, l1, v2_18, v3_18, v4_18, v5_18, τ18 =>
    (dn τ18 8 (some t)).bind fun a9 =>
    if (hpI τ18 257 a9) ≤ v5_18 then
      some (v2_18, v3_18, v4_18, τ18)
    else
      (f_X8_byteAt τ18 a9 v5_18).bind fun q12 =>
      (f_X10_isLetter τ18 q12).bind fun q14 =>
      ((if q14 = 0 then
        if ¬ q12 = 126 then
          if ¬ q12 = 62 then
            if ¬ q12 = 47 then
              some (v2_18, v3_18, v4_18, τ18)
            else
              some (v2_18, 1, v4_18, τ18)
          else
            some (v2_18, v3_18, (v4_18 + 1), τ18)
        else
          some (1, v3_18, v4_18, τ18)
      else
        (f_X8_byteAt τ18 a9 (v5_18 - 1)).bind fun q21 =>
        (f_X10_isLetter τ18 q21).bind fun q23 =>
        ((if ¬ q23 = 0 then
          some 0
        else
          some 1) : Option (Int32)).bind fun (x25 : Int32) =>
        (dn τ18 9 l1).bind fun a27 =>
        (f_X9_add τ18 a27 q12 x25).bind fun q29 =>
        some (v2_18, v3_18, v4_18, q29)) : Option (Int32 × Int32 × Int32 × St)).bind fun (x16 : Int32 × Int32 × Int32 × St) =>
      LX8_toLine_18 n t l1 x16.1 x16.2.1 x16.2.2.1 (v5_18 + 1) x16.2.2.2
def f_X8_toLine (σ : St) (t : Nat) : Option (Option Nat × St) :=
  (nwO σ 9).bind fun σ1 =>
  (dn σ1 9 (some (hpN σ))).bind fun a3 =>
  (f_X9_init σ1 a3).bind fun q5 =>
  (LX8_toLine_18 FU t (some (hpN σ)) 0 0 0 0 q5).bind fun x8 =>
  (nwO x8.2.2.2 2).bind fun σ31 =>
  (dn σ31 2 (some (hpN x8.2.2.2))).bind fun a33 =>
  (f_X2_init σ31 a33 (some (hpN σ)) x8.2.2.1 x8.1 x8.2.1).bind fun q35 =>
  some ((some (hpN x8.2.2.2)), q35)
def f_X9_byteAt (σ : St) (t : Nat) (p1 : Int32) : Option (Int32) :=
  if p1 < 0 then
    some (-1)
  else
    if (hpI σ 290 t) ≤ p1 then
      some (-1)
    else
      (dn σ 12 (hpR σ 288 t)).bind fun a3 =>
      if p1 < (nI (hpL σ a3)) then
        (ix p1 (hpL σ a3)).bind fun j6 =>
        some (hpA σ a3 j6)
      else
        some (-1)
def f_X10_init (σ : St) (t : Nat) : Option (St) :=
  (nwO σ 8).bind fun σ1 =>
  (dn σ1 8 (some (hpN σ))).bind fun a3 =>
  (f_X8_init σ1 a3).bind fun q5 =>
  (dn q5 10 (some t)).bind fun a7 =>
  (nwO (stR q5 320 a7 (some (hpN σ))) 5).bind fun σ9 =>
  (dn σ9 5 (some (hpN (stR q5 320 a7 (some (hpN σ)))))).bind fun a11 =>
  (f_X5_init σ9 a11).bind fun q13 =>
  (dn q13 10 (some t)).bind fun a15 =>
  (nwO (stR q13 321 a15 (some (hpN (stR q5 320 a7 (some (hpN σ)))))) 0).bind fun σ17 =>
  (dn σ17 0 (some (hpN (stR q13 321 a15 (some (hpN (stR q5 320 a7 (some (hpN σ))))))))).bind fun a19 =>
  (f_X0_init σ17 a19).bind fun q21 =>
  (dn q21 10 (some t)).bind fun a23 =>
  (nwO (stR q21 322 a23 (some (hpN (stR q13 321 a15 (some (hpN (stR q5 320 a7 (some (hpN σ))))))))) 1).bind fun σ25 =>
  (dn σ25 1 (some (hpN (stR q21 322 a23 (some (hpN (stR q13 321 a15 (some (hpN (stR q5 320 a7 (some (hpN σ)))))))))))).bind fun a27 =>
  (f_X1_init σ25 a27).bind fun q29 =>
  (dn q29 10 (some t)).bind fun a31 =>
  (nwO (stR q29 323 a31 (some (hpN (stR q21 322 a23 (some (hpN (stR q13 321 a15 (some (hpN (stR q5 320 a7 (some (hpN σ)))))))))))) 1).bind fun σ33 =>
  (dn σ33 1 (some (hpN (stR q29 323 a31 (some (hpN (stR q21 322 a23 (some (hpN (stR q13 321 a15 (some (hpN (stR q5 320 a7 (some (hpN σ))))))))))))))).bind fun a35 =>
  (f_X1_init σ33 a35).bind fun q37 =>
  (dn q37 10 (some t)).bind fun a39 =>
  some (stR q37 324 a39 (some (hpN (stR q29 323 a31 (some (hpN (stR q21 322 a23 (some (hpN (stR q13 321 a15 (some (hpN (stR q5 320 a7 (some (hpN σ)))))))))))))))
def f_X10_type (σ : St) (t : Nat) (p1 : Int32) : Option (Int32 × St) :=
  if p1 < 0 then
    some ((-2), σ)
  else
    if p1 ≤ 127 then
      (dn σ 8 (hpR σ 320 t)).bind fun a3 =>
      if (hpI σ 257 a3) < 80 then
        (f_X8_append σ a3 p1).bind fun q6 =>
        (dn q6 10 (some t)).bind fun a8 =>
        (dn q6 8 (hpR q6 320 a8)).bind fun a10 =>
        some ((hpI q6 257 a10), q6)
      else
        some ((-4), σ)
    else
      some ((-2), σ)
def f_X10_clear (σ : St) (t : Nat) : Option (Int32 × St) :=
  (dn σ 8 (hpR σ 320 t)).bind fun a1 =>
  some ((hpI σ 257 a1), (stI σ 257 a1 0))
def f_X10_fault (σ : St) (t : Nat) (p1 : Int32) : Option (Int32) :=
  if p1 = 0 then
    (dn σ 8 (hpR σ 320 t)).bind fun a2 =>
    (f_X8_lineFault σ a2).bind fun q4 =>
    some q4
  else
    (dn σ 8 (hpR σ 320 t)).bind fun a6 =>
    (f_X8_shapeFault σ a6).bind fun q8 =>
    some q8
def f_X10_layOut (σ : St) (t : Nat) : Option (St) :=
  (dn σ 5 (hpR σ 321 t)).bind fun a1 =>
  (f_X5_setting σ a1 0).bind fun q3 =>
  (dn σ 1 (hpR σ 323 t)).bind fun a5 =>
  (f_X1_breakLines σ a5 (hpR σ 321 t) q3).bind fun q7 =>
  (dn q7 10 (some t)).bind fun a9 =>
  (dn q7 5 (hpR q7 321 a9)).bind fun a11 =>
  (f_X5_setting q7 a11 1).bind fun q13 =>
  (f_X5_setting q7 a11 4).bind fun q15 =>
  (dn q7 1 (hpR q7 323 a9)).bind fun a17 =>
  (f_X1_putOnPages q7 a17 q13 q15).bind fun q19 =>
  some q19
def f_X10_insert (σ : St) (t : Nat) (p1 : Int32) : Option (Int32 × St) :=
  if p1 < 0 then
    some ((-2), σ)
  else
    (dn σ 5 (hpR σ 321 t)).bind fun a2 =>
    if p1 ≤ (hpI σ 162 a2) then
      (dn σ 8 (hpR σ 320 t)).bind fun a5 =>
      (f_X8_lineFault σ a5).bind fun q7 =>
      if q7 = (-1) then
        if (hpI σ 162 a2) < 24 then
          (dn σ 0 (hpR σ 322 t)).bind fun a11 =>
          (f_X0_keepState σ a11 (hpR σ 321 t)).bind fun q13 =>
          (dn q13 10 (some t)).bind fun a15 =>
          (dn q13 8 (hpR q13 320 a15)).bind fun a17 =>
          (f_X8_toLine q13 a17).bind fun q19 =>
          (dn q19.2 5 (hpR q13 321 a15)).bind fun a21 =>
          (f_X5_putIn q19.2 a21 p1 q19.1).bind fun q23 =>
          (dn q23 10 (some t)).bind fun a25 =>
          (f_X10_layOut q23 a25).bind fun q27 =>
          (dn q27 10 (some t)).bind fun a29 =>
          (dn q27 5 (hpR q27 321 a29)).bind fun a31 =>
          some ((hpI q27 162 a31), q27)
        else
          some ((-4), σ)
      else
        some (((-2000) - q7), σ)
    else
      some ((-2), σ)
def f_X10_replace (σ : St) (t : Nat) (p1 : Int32) : Option (Int32 × St) :=
  (dn σ 5 (hpR σ 321 t)).bind fun a1 =>
  (f_X5_lineAt σ a1 p1).bind fun q3 =>
  if q3 = none then
    some ((-2), σ)
  else
    (dn σ 8 (hpR σ 320 t)).bind fun a6 =>
    (f_X8_lineFault σ a6).bind fun q8 =>
    if q8 = (-1) then
      (dn σ 0 (hpR σ 322 t)).bind fun a11 =>
      (f_X0_keepState σ a11 (hpR σ 321 t)).bind fun q13 =>
      (dn q13 10 (some t)).bind fun a15 =>
      (dn q13 8 (hpR q13 320 a15)).bind fun a17 =>
      (f_X8_toLine q13 a17).bind fun q19 =>
      (dn q19.2 5 (hpR q13 321 a15)).bind fun a21 =>
      (f_X5_exchange q19.2 a21 p1 q19.1).bind fun q23 =>
      (dn q23 10 (some t)).bind fun a25 =>
      (f_X10_layOut q23 a25).bind fun q27 =>
      (dn q27 2 q3).bind fun a29 =>
      (dn q27 9 (hpR q27 64 a29)).bind fun a31 =>
      some ((hpI q27 291 a31), q27)
    else
      some (((-2000) - q8), σ)
def f_X10_remove (σ : St) (t : Nat) (p1 : Int32) : Option (Int32 × St) :=
  (dn σ 5 (hpR σ 321 t)).bind fun a1 =>
  (f_X5_lineAt σ a1 p1).bind fun q3 =>
  if q3 = none then
    some ((-2), σ)
  else
    (dn σ 0 (hpR σ 322 t)).bind fun a6 =>
    (f_X0_keepState σ a6 (hpR σ 321 t)).bind fun q8 =>
    (dn q8 10 (some t)).bind fun a10 =>
    (dn q8 5 (hpR q8 321 a10)).bind fun a12 =>
    (f_X5_takeOut q8 a12 p1).bind fun q14 =>
    (dn q14 10 (some t)).bind fun a16 =>
    (f_X10_layOut q14 a16).bind fun q18 =>
    (dn q18 10 (some t)).bind fun a20 =>
    (dn q18 5 (hpR q18 321 a20)).bind fun a22 =>
    some ((hpI q18 162 a22), q18)
def f_X10_toggle (σ : St) (t : Nat) (p1 : Int32) (p2 : Int32) : Option (Int32 × St) :=
  (dn σ 5 (hpR σ 321 t)).bind fun a1 =>
  (f_X5_lineAt σ a1 p1).bind fun q3 =>
  if q3 = none then
    some ((-2), σ)
  else
    (dn σ 0 (hpR σ 322 t)).bind fun a6 =>
    (f_X0_keepState σ a6 (hpR σ 321 t)).bind fun q8 =>
    ((if p2 = 0 then
      (dn q8 2 q3).bind fun a12 =>
      some (hpI q8 66 a12)
    else
      (dn q8 2 q3).bind fun a14 =>
      if ¬ (hpI q8 66 a14) = 0 then
        some 0
      else
        some 1) : Option (Int32)).bind fun (x10 : Int32) =>
    ((if p2 = 0 then
      (dn q8 2 q3).bind fun a19 =>
      if ¬ (hpI q8 67 a19) = 0 then
        some 0
      else
        some 1
    else
      (dn q8 2 q3).bind fun a22 =>
      some (hpI q8 67 a22)) : Option (Int32)).bind fun (x17 : Int32) =>
    (dn q8 10 (some t)).bind fun a24 =>
    (nwO q8 2).bind fun σ26 =>
    (dn σ26 2 q3).bind fun a28 =>
    (dn σ26 2 (some (hpN q8))).bind fun a30 =>
    (f_X2_init σ26 a30 (hpR σ26 64 a28) (hpI σ26 65 a28) x10 x17).bind fun q32 =>
    (dn q32 5 (hpR q8 321 a24)).bind fun a34 =>
    (f_X5_exchange q32 a34 p1 (some (hpN q8))).bind fun q36 =>
    (dn q36 10 (some t)).bind fun a38 =>
    (f_X10_layOut q36 a38).bind fun q40 =>
    ((if p2 = 0 then
      some x17
    else
      some x10) : Option (Int32)).bind fun (x42 : Int32) =>
    (f_X10_oneIf q40 x42).bind fun q44 =>
    some (q44, q40)
def f_X10_line (σ : St) (t : Nat) (p1 : Int32) (p2 : Int32) : Option (Int32) :=
  (dn σ 5 (hpR σ 321 t)).bind fun a1 =>
  (f_X5_lineAt σ a1 p1).bind fun q3 =>
  (dn σ 1 (hpR σ 323 t)).bind fun a5 =>
  (f_X1_spanAt σ a5 p1).bind fun q7 =>
  if q3 = none then
    some (-2)
  else
    if q7 = none then
      some (-2)
    else
      if p2 = 0 then
        (dn σ 2 q3).bind fun a11 =>
        (dn σ 9 (hpR σ 64 a11)).bind fun a13 =>
        some (hpI σ 292 a13)
      else if p2 = 1 then
        (dn σ 2 q3).bind fun a15 =>
        (dn σ 9 (hpR σ 64 a15)).bind fun a17 =>
        some (hpI σ 291 a17)
      else if p2 = 2 then
        (dn σ 2 q3).bind fun a19 =>
        some (hpI σ 65 a19)
      else if p2 = 3 then
        (dn σ 2 q3).bind fun a21 =>
        (f_X10_oneIf σ (hpI σ 66 a21)).bind fun q23 =>
        some q23
      else if p2 = 4 then
        (dn σ 3 q7).bind fun a25 =>
        (f_X10_oneIf σ (hpI σ 96 a25)).bind fun q27 =>
        some q27
      else if p2 = 5 then
        (dn σ 2 q3).bind fun a29 =>
        (f_X10_oneIf σ (hpI σ 67 a29)).bind fun q31 =>
        some q31
      else if p2 = 6 then
        (dn σ 3 q7).bind fun a33 =>
        some (hpI σ 97 a33)
      else if p2 = 7 then
        (dn σ 3 q7).bind fun a35 =>
        some (hpI σ 99 a35)
      else if p2 = 8 then
        (dn σ 3 q7).bind fun a37 =>
        some (hpI σ 100 a37)
      else if p2 = 9 then
        (dn σ 3 q7).bind fun a39 =>
        some (hpI σ 98 a39)
      else 
        some (-2)
def f_X10_letter (σ : St) (t : Nat) (p1 : Int32) (p2 : Int32) : Option (Int32) :=
  (dn σ 5 (hpR σ 321 t)).bind fun a1 =>
  (f_X5_lineAt σ a1 p1).bind fun q3 =>
  if q3 = none then
    some (-2)
  else
    if 0 ≤ p2 then
      (dn σ 2 q3).bind fun a7 =>
      (dn σ 9 (hpR σ 64 a7)).bind fun a9 =>
      (f_X9_byteAt σ a9 p2).bind fun q11 =>
      some q11
    else
      some (-2)
def f_X10_set (σ : St) (t : Nat) (p1 : Int32) (p2 : Int32) : Option (Int32 × St) :=
  if p1 < 0 then
    some ((-2), σ)
  else
    if 5 ≤ p1 then
      some ((-2), σ)
    else
      (f_X10_element σ (some (hpG σ 1)) p1).bind fun q3 =>
      if p2 < q3 then
        some ((-2), σ)
      else
        (f_X10_element σ (some (hpG σ 2)) p1).bind fun q6 =>
        if p2 ≤ q6 then
          (dn σ 5 (hpR σ 321 t)).bind fun a9 =>
          (f_X5_setting σ a9 p1).bind fun q11 =>
          (dn σ 0 (hpR σ 322 t)).bind fun a13 =>
          (f_X0_keepState σ a13 (hpR σ 321 t)).bind fun q15 =>
          (dn q15 10 (some t)).bind fun a17 =>
          (dn q15 5 (hpR q15 321 a17)).bind fun a19 =>
          (f_X5_changeSetting q15 a19 p1 p2).bind fun q21 =>
          (dn q21 10 (some t)).bind fun a23 =>
          (f_X10_layOut q21 a23).bind fun q25 =>
          some (q11, q25)
        else
          some ((-2), σ)
def f_X10_row (σ : St) (t : Nat) (p1 : Int32) (p2 : Int32) : Option (Int32) :=
  if p1 < 0 then
    some (-2)
  else
    if p2 < 0 then
      some (-2)
    else
      if p2 < 9 then
        (dn σ 1 (hpR σ 323 t)).bind fun a4 =>
        (f_X1_rowAt σ a4 p1).bind fun q6 =>
        if q6 = none then
          some (-1)
        else
          if p2 = 0 then
            (dn σ 6 q6).bind fun a9 =>
            some (hpI σ 192 a9)
          else if p2 = 1 then
            (dn σ 6 q6).bind fun a11 =>
            some (hpI σ 193 a11)
          else if p2 = 2 then
            (dn σ 6 q6).bind fun a13 =>
            some (hpI σ 194 a13)
          else if p2 = 3 then
            (dn σ 6 q6).bind fun a15 =>
            some (hpI σ 195 a15)
          else if p2 = 4 then
            (dn σ 6 q6).bind fun a17 =>
            some (hpI σ 196 a17)
          else if p2 = 5 then
            (dn σ 6 q6).bind fun a19 =>
            some (hpI σ 198 a19)
          else if p2 = 6 then
            (dn σ 6 q6).bind fun a21 =>
            some (hpI σ 199 a21)
          else if p2 = 7 then
            (dn σ 6 q6).bind fun a23 =>
            (f_X10_oneIf σ (hpI σ 200 a23)).bind fun q25 =>
            some q25
          else 
            (dn σ 6 q6).bind fun a27 =>
            (f_X6_end σ a27).bind fun q29 =>
            some q29
      else
        some (-2)
def f_X10_byteInRow (σ : St) (t : Nat) (p1 : Option Nat) (p2 : Int32) : Option (Int32) :=
  if p1 = none then
    some 32
  else
    (dn σ 6 p1).bind fun a2 =>
    if p2 < (hpI σ 196 a2) then
      some 32
    else
      (f_X6_end σ a2).bind fun q5 =>
      if p2 < q5 then
        (dn σ 5 (hpR σ 321 t)).bind fun a8 =>
        (f_X5_lineAt σ a8 (hpI σ 192 a2)).bind fun q10 =>
        if q10 = none then
          some 32
        else
          (dn σ 2 q10).bind fun a13 =>
          (dn σ 9 (hpR σ 64 a13)).bind fun a15 =>
          (f_X9_byteAt σ a15 (((hpI σ 197 a2) + p2) - (hpI σ 196 a2))).bind fun q17 =>
          some q17
      else
        some 32
def f_X10_at (σ : St) (t : Nat) (p1 : Int32) (p2 : Int32) (p3 : Int32) : Option (Int32) :=
  (dn σ 1 (hpR σ 323 t)).bind fun a1 =>
  (f_X1_pageAt σ a1 p1).bind fun q3 =>
  if q3 = none then
    some (-2)
  else
    if p2 < 0 then
      some (-2)
    else
      (dn σ 5 (hpR σ 321 t)).bind fun a7 =>
      (f_X5_setting σ a7 1).bind fun q9 =>
      if p2 < q9 then
        if p3 < 0 then
          some (-2)
        else
          (f_X5_setting σ a7 0).bind fun q13 =>
          if p3 < q13 then
            (f_X1_rowAtPlace σ a1 q3 p2).bind fun q16 =>
            (f_X10_byteInRow σ t q16 p3).bind fun q18 =>
            some q18
          else
            some (-2)
      else
        some (-2)
def f_X10_countedSetting (σ : St) (t : Nat) (p1 : Int32) (p2 : Int32) : Option (Int32) :=
  if p2 < 11 then
    some (-2)
  else
    if p2 < 16 then
      (dn σ 5 (hpR σ 321 t)).bind fun a3 =>
      (f_X5_setting σ a3 p1).bind fun q5 =>
      some q5
    else
      some (-2)
def f_X10_count (σ : St) (t : Nat) (p1 : Int32) : Option (Int32) :=
  if p1 = 0 then
    (dn σ 5 (hpR σ 321 t)).bind fun a1 =>
    some (hpI σ 162 a1)
  else if p1 = 1 then
    (dn σ 1 (hpR σ 323 t)).bind fun a3 =>
    some (hpI σ 37 a3)
  else if p1 = 2 then
    (dn σ 1 (hpR σ 323 t)).bind fun a5 =>
    some (hpI σ 36 a5)
  else if p1 = 3 then
    (dn σ 1 (hpR σ 323 t)).bind fun a7 =>
    some (hpI σ 38 a7)
  else if p1 = 4 then
    (dn σ 1 (hpR σ 323 t)).bind fun a9 =>
    (f_X1_runOvers σ a9).bind fun q11 =>
    some q11
  else if p1 = 5 then
    (dn σ 1 (hpR σ 323 t)).bind fun a13 =>
    (f_X1_cuts σ a13).bind fun q15 =>
    some q15
  else if p1 = 6 then
    (dn σ 1 (hpR σ 323 t)).bind fun a17 =>
    (f_X1_markedPages σ a17).bind fun q19 =>
    some q19
  else if p1 = 7 then
    (dn σ 1 (hpR σ 323 t)).bind fun a21 =>
    (f_X1_lastNumber σ a21).bind fun q23 =>
    some q23
  else if p1 = 8 then
    (dn σ 1 (hpR σ 323 t)).bind fun a25 =>
    (f_X1_greatestWidth σ a25 0 (hpI σ 36 a25)).bind fun q27 =>
    some q27
  else if p1 = 9 then
    (dn σ 0 (hpR σ 322 t)).bind fun a29 =>
    some (hpI σ 1 a29)
  else if p1 = 10 then
    (dn σ 8 (hpR σ 320 t)).bind fun a31 =>
    some (hpI σ 257 a31)
  else 
    (f_X10_countedSetting σ t (p1 - 11) p1).bind fun q33 =>
    some q33
def f_L_cell (σ : St) (p1 : Option Nat) (p2 : Int32) : Option (Int32) :=
  (dnA σ p1).bind fun a1 =>
  if (nI (hpL σ a1)) ≤ p2 then
    some (1013904223 * (p2 + 1))
  else
    (ix p2 (hpL σ a1)).bind fun j4 =>
    some (hpA σ a1 j4)
def f_L_low (σ : St) (p1 : Int32) (p2 : Int32) : Option (Int32) :=
  (nz p2).bind fun w1 =>
  some ((p1 &&& 2147483647) - (p1 &&& 2147483647) / p2 * p2)
def f_L_begins (σ : St) (p1 : Option Nat) : Option (St) :=
  (dn σ 13 p1).bind fun a1 =>
  (ix 0 (hpL σ a1)).bind fun j3 =>
  (ix 1 (hpL (stA σ a1 j3 30) a1)).bind fun j5 =>
  (ix 2 (hpL (stA (stA σ a1 j3 30) a1 j5 12) a1)).bind fun j7 =>
  (ix 3 (hpL (stA (stA (stA σ a1 j3 30) a1 j5 12) a1 j7 2) a1)).bind fun j9 =>
  (ix 4 (hpL (stA (stA (stA (stA σ a1 j3 30) a1 j5 12) a1 j7 2) a1 j9 4) a1)).bind fun j11 =>
  some (stA (stA (stA (stA (stA σ a1 j3 30) a1 j5 12) a1 j7 2) a1 j9 4) a1 j11 6)
def LL_types_160 : Nat → (Option Nat) → (Option Nat) → (Int32) → (Int32) → (Int32) → (Int32) → (Int32) → (St) → Option (Int32 × St)
  | 0, _, _, _, _, _, _, _, _ => none
  | n + 1, l0, l1, l2, l3, l4, v5_160, v6_160, τ160 =>
    (dnA τ160 l1).bind fun a51 =>
    (ix ((10 * l2) + 5) (hpL τ160 a51)).bind fun j53 =>
    if (hpA τ160 a51 j53) ≤ v6_160 then
      some (v5_160, τ160)
    else
      ((if v5_160 = 0 then
        some (0, τ160)
      else
        (dn τ160 10 l0).bind fun a58 =>
        (f_X10_type τ160 a58 62).bind fun q60 =>
        if q60.1 ≤ 0 then
          some (0, q60.2)
        else
          if ((l4 >>> (v6_160 &&& 31)) &&& 1) = 0 then
            some (1, q60.2)
          else
            (dn q60.2 10 l0).bind fun a64 =>
            (f_X10_type q60.2 a64 32).bind fun q66 =>
            if q66.1 ≤ 0 then
              some (0, q66.2)
            else
              some (1, q66.2)) : Option (Int32 × St)).bind fun (x56 : Int32 × St) =>
      LL_types_160 n l0 l1 l2 l3 l4 x56.1 (v6_160 + 1) x56.2
def LL_types_325 : Nat → (Option Nat) → (Option Nat) → (Int32) → (Int32) → (Int32) → (Int32) → (Int32) → (Int32) → (Int32) → (St) → Option (Int32 × St)
  | 0, _, _, _, _, _, _, _, _, _, _ => none
  | n + 1, l0, l1, l2, l3, l4, l6, l7, v5_325, v8_325, τ325 =>
    if l7 ≤ v8_325 then
      some (v5_325, τ325)
    else
      ((if v5_325 = 0 then
        some (0, τ325)
      else
        (dnA τ325 l1).bind fun a107 =>
        (ix ((10 * l2) + 4) (hpL τ325 a107)).bind fun j109 =>
        (dn τ325 10 l0).bind fun a111 =>
        (f_X10_type τ325 a111 ((97 + (hpA τ325 a107 j109)) + l6)).bind fun q113 =>
        if q113.1 ≤ 0 then
          some (0, q113.2)
        else
          some (1, q113.2)) : Option (Int32 × St)).bind fun (x105 : Int32 × St) =>
      LL_types_325 n l0 l1 l2 l3 l4 l6 l7 x105.1 (v8_325 + 1) x105.2
def LL_types_222 : Nat → (Option Nat) → (Option Nat) → (Int32) → (Int32) → (Int32) → (Int32) → (Int32) → (St) → Option (Int32 × St)
  | 0, _, _, _, _, _, _, _, _ => none
  | n + 1, l0, l1, l2, l3, l4, v5_222, v6_222, τ222 =>
    (dnA τ222 l1).bind fun a71 =>
    (ix (10 * l2) (hpL τ222 a71)).bind fun j73 =>
    if (hpA τ222 a71 j73) ≤ v6_222 then
      some (v5_222, τ222)
    else
      (f_L_low τ222 (l3 >>> (17 &&& 31)) 3).bind fun q76 =>
      ((if ¬ q76 = 0 then
        some 9
      else
        some 16) : Option (Int32)).bind fun (x78 : Int32) =>
      (f_L_low τ222 (l4 >>> ((5 * v6_222) &&& 31)) x78).bind fun q80 =>
      (dn τ222 13 l1).bind fun a82 =>
      (ix (((10 * l2) + 1) + v6_222) (hpL τ222 a82)).bind fun j84 =>
      ((if v5_222 = 0 then
        some (0, (stA τ222 a82 j84 (1 + q80)))
      else
        (dn (stA τ222 a82 j84 (1 + q80)) 10 l0).bind fun a88 =>
        (f_X10_type (stA τ222 a82 j84 (1 + q80)) a88 32).bind fun q90 =>
        if q90.1 ≤ 0 then
          some (0, q90.2)
        else
          (dn q90.2 10 l0).bind fun a93 =>
          (f_X10_fault q90.2 a93 0).bind fun q95 =>
          ((if ¬ v6_222 = 0 then
            some (-1)
          else
            (f_X10_count q90.2 a93 10).bind fun q99 =>
            some q99) : Option (Int32)).bind fun (x97 : Int32) =>
          if ¬ q95 = x97 then
            some (0, q90.2)
          else
            some (1, q90.2)) : Option (Int32 × St)).bind fun (x86 : Int32 × St) =>
      (LL_types_325 FU l0 l1 l2 l3 l4 v6_222 (1 + q80) x86.1 0 x86.2).bind fun x103 =>
      LL_types_222 n l0 l1 l2 l3 l4 x103.1 (v6_222 + 1) x103.2
def f_L_types (σ : St) (p1 : Option Nat) (p2 : Option Nat) (p3 : Int32) (p4 : Int32) (p5 : Int32) : Option (Int32 × St) :=
  (dn σ 10 p1).bind fun a1 =>
  (f_X10_clear σ a1).bind fun q3 =>
  ((if q3.1 < 0 then
    some 0
  else
    some 1) : Option (Int32)).bind fun (x5 : Int32) =>
  (f_L_low q3.2 p4 3).bind fun q7 =>
  ((if ¬ q7 = 0 then
    some 0
  else
    some 1) : Option (Int32)).bind fun (x9 : Int32) =>
  (dn q3.2 13 p2).bind fun a11 =>
  (ix ((10 * p3) + 6) (hpL q3.2 a11)).bind fun j13 =>
  (f_L_low (stA q3.2 a11 j13 x9) (p4 >>> (2 &&& 31)) 4).bind fun q15 =>
  ((if ¬ q15 = 0 then
    some 0
  else
    (f_L_low (stA q3.2 a11 j13 x9) (p4 >>> (4 &&& 31)) 6).bind fun q19 =>
    some q19) : Option (Int32)).bind fun (x17 : Int32) =>
  (ix ((10 * p3) + 5) (hpL (stA q3.2 a11 j13 x9) a11)).bind fun j21 =>
  (f_L_low (stA (stA q3.2 a11 j13 x9) a11 j21 x17) (p4 >>> (7 &&& 31)) 3).bind fun q23 =>
  (ix (10 * p3) (hpL (stA (stA q3.2 a11 j13 x9) a11 j21 x17) a11)).bind fun j25 =>
  (f_L_low (stA (stA (stA q3.2 a11 j13 x9) a11 j21 x17) a11 j25 (1 + q23)) (p4 >>> (9 &&& 31)) 20).bind fun q27 =>
  (ix ((10 * p3) + 4) (hpL (stA (stA (stA q3.2 a11 j13 x9) a11 j21 x17) a11 j25 (1 + q23)) a11)).bind fun j29 =>
  (f_L_low (stA (stA (stA (stA q3.2 a11 j13 x9) a11 j21 x17) a11 j25 (1 + q23)) a11 j29 q27) (p4 >>> (14 &&& 31)) 3).bind fun q31 =>
  ((if ¬ q31 = 0 then
    some 0
  else
    some 1) : Option (Int32)).bind fun (x33 : Int32) =>
  (ix ((10 * p3) + 7) (hpL (stA (stA (stA (stA q3.2 a11 j13 x9) a11 j21 x17) a11 j25 (1 + q23)) a11 j29 q27) a11)).bind fun j35 =>
  ((if x5 = 0 then
    some (0, (stA (stA (stA (stA (stA q3.2 a11 j13 x9) a11 j21 x17) a11 j25 (1 + q23)) a11 j29 q27) a11 j35 x33))
  else
    (dnA (stA (stA (stA (stA (stA q3.2 a11 j13 x9) a11 j21 x17) a11 j25 (1 + q23)) a11 j29 q27) a11 j35 x33) p2).bind fun a39 =>
    (ix ((10 * p3) + 6) (hpL (stA (stA (stA (stA (stA q3.2 a11 j13 x9) a11 j21 x17) a11 j25 (1 + q23)) a11 j29 q27) a11 j35 x33) a39)).bind fun j41 =>
    if (hpA (stA (stA (stA (stA (stA q3.2 a11 j13 x9) a11 j21 x17) a11 j25 (1 + q23)) a11 j29 q27) a11 j35 x33) a39 j41) = 0 then
      some (1, (stA (stA (stA (stA (stA q3.2 a11 j13 x9) a11 j21 x17) a11 j25 (1 + q23)) a11 j29 q27) a11 j35 x33))
    else
      (dn (stA (stA (stA (stA (stA q3.2 a11 j13 x9) a11 j21 x17) a11 j25 (1 + q23)) a11 j29 q27) a11 j35 x33) 10 p1).bind fun a44 =>
      (f_X10_type (stA (stA (stA (stA (stA q3.2 a11 j13 x9) a11 j21 x17) a11 j25 (1 + q23)) a11 j29 q27) a11 j35 x33) a44 126).bind fun q46 =>
      if q46.1 ≤ 0 then
        some (0, q46.2)
      else
        some (1, q46.2)) : Option (Int32 × St)).bind fun (x37 : Int32 × St) =>
  (LL_types_160 FU p1 p2 p3 p4 p5 x37.1 0 x37.2).bind fun x50 =>
  (LL_types_222 FU p1 p2 p3 p4 p5 x50.1 0 x50.2).bind fun x70 =>
  if x70.1 = 0 then
    some (0, x70.2)
  else
    (dnA x70.2 p2).bind fun a117 =>
    (ix ((10 * p3) + 7) (hpL x70.2 a117)).bind fun j119 =>
    sb (if (hpA x70.2 a117 j119) = 0 then
      some (.inr x70.2)
    else
      (dn x70.2 10 p1).bind fun a123 =>
      (f_X10_type x70.2 a123 47).bind fun q125 =>
      if q125.1 ≤ 0 then
        some (.inl (0, q125.2))
      else
        some (.inr q125.2)) fun (wx121 : St) =>
    (dn wx121 10 p1).bind fun a128 =>
    (f_X10_fault wx121 a128 0).bind fun q130 =>
    if ¬ q130 = (-1) then
      some (0, wx121)
    else
      some (1, wx121)
def LL_inserts_37 : Nat → (Option Nat) → (Option Nat) → (Int32) → (Int32) → (Int32) → (Int32) → (St) → Option (St)
  | 0, _, _, _, _, _, _, _ => none
  | n + 1, l0, l1, l2, l3, l4, v5_37, τ37 =>
    if v5_37 < (10 * l2) then
      some τ37
    else
      (dnA τ37 l1).bind fun a11 =>
      (ix v5_37 (hpL τ37 a11)).bind fun j13 =>
      (dn τ37 13 l1).bind fun a15 =>
      (ix (v5_37 + 10) (hpL τ37 a15)).bind fun j17 =>
      LL_inserts_37 n l0 l1 l2 l3 l4 (v5_37 + (-1)) (stA τ37 a15 j17 (hpA τ37 a11 j13))
def f_L_inserts (σ : St) (p1 : Option Nat) (p2 : Option Nat) (p3 : Int32) (p4 : Int32) (p5 : Int32) : Option (Int32 × St) :=
  (dnA σ p2).bind fun a1 =>
  (ix 60 (hpL σ a1)).bind fun j3 =>
  if ¬ (hpA σ a1 j3) = 6 then
    (ix 60 (hpL σ a1)).bind fun j6 =>
    (LL_inserts_37 FU p1 p2 p3 p4 p5 ((10 * (hpA σ a1 j6)) - 1) σ).bind fun x9 =>
    (dnA x9 p2).bind fun a19 =>
    (ix 60 (hpL x9 a19)).bind fun j21 =>
    (dn x9 13 p2).bind fun a23 =>
    (ix 60 (hpL x9 a23)).bind fun j25 =>
    (f_L_types (stA x9 a23 j25 ((hpA x9 a19 j21) + 1)) p1 p2 p3 p4 p5).bind fun q27 =>
    if q27.1 = 0 then
      some (0, q27.2)
    else
      (dn q27.2 10 p1).bind fun a30 =>
      (f_X10_insert q27.2 a30 p3).bind fun q32 =>
      (dnA q32.2 p2).bind fun a34 =>
      (ix 60 (hpL q32.2 a34)).bind fun j36 =>
      if ¬ q32.1 = (hpA q32.2 a34 j36) then
        some (0, q32.2)
      else
        some (1, q32.2)
  else
    (dn σ 10 p1).bind fun a39 =>
    (f_X10_insert σ a39 7).bind fun q41 =>
    if ¬ q41.1 = (-2) then
      some (0, q41.2)
    else
      some (1, q41.2)
def f_L_sets (σ : St) (p1 : Option Nat) (p2 : Option Nat) (p3 : Int32) : Option (Int32 × St) :=
  (f_L_low σ p3 5).bind fun q1 =>
  ((if ¬ q1 = 0 then
    if ¬ q1 = 1 then
      some 0
    else
      some 4
  else
    some 12) : Option (Int32)).bind fun (x3 : Int32) =>
  ((if ¬ q1 = 0 then
    if ¬ q1 = 2 then
      if ¬ q1 = 3 then
        some 30
      else
        some 8
    else
      some 6
  else
    some 60) : Option (Int32)).bind fun (x6 : Int32) =>
  (dnA σ p2).bind fun a10 =>
  (ix q1 (hpL σ a10)).bind fun j12 =>
  (f_L_low σ (p3 >>> (3 &&& 31)) ((x6 - x3) + 1)).bind fun q14 =>
  (dn σ 13 p2).bind fun a16 =>
  (ix q1 (hpL σ a16)).bind fun j18 =>
  (ix q1 (hpL (stA σ a16 j18 (x3 + q14)) a10)).bind fun j20 =>
  (dn (stA σ a16 j18 (x3 + q14)) 10 p1).bind fun a22 =>
  (f_X10_set (stA σ a16 j18 (x3 + q14)) a22 q1 (hpA (stA σ a16 j18 (x3 + q14)) a10 j20)).bind fun q24 =>
  if ¬ q24.1 = (hpA σ a10 j12) then
    some (0, q24.2)
  else
    (dn q24.2 10 p1).bind fun a27 =>
    (f_X10_set q24.2 a27 q1 (x6 + 1)).bind fun q29 =>
    if ¬ q29.1 = (-2) then
      some (0, q29.2)
    else
      (dn q29.2 10 p1).bind fun a32 =>
      (f_X10_set q29.2 a32 q1 (x3 - 1)).bind fun q34 =>
      if ¬ q34.1 = (-2) then
        some (0, q34.2)
      else
        (dn q34.2 10 p1).bind fun a37 =>
        (f_X10_set q34.2 a37 5 10).bind fun q39 =>
        if ¬ q39.1 = (-2) then
          some (0, q39.2)
        else
          some (1, q39.2)
def f_L_isFirst (σ : St) (p1 : Option Nat) (p2 : Int32) : Option (Int32) :=
  if p2 = 0 then
    some 1
  else
    (dnA σ p1).bind fun a2 =>
    (ix ((10 * p2) - 3) (hpL σ a2)).bind fun j4 =>
    if ¬ (hpA σ a2 j4) = 1 then
      some 0
    else
      some 1
def f_L_comes (σ : St) (p1 : Option Nat) (p2 : Option Nat) (p3 : Int32) (p4 : Int32) (p5 : Int32) (p6 : Int32) (p7 : Int32) : Option (St) :=
  (dnA σ p2).bind fun a1 =>
  (ix 0 (hpL σ a1)).bind fun j3 =>
  ((if p5 ≤ ((hpA σ a1 j3) - 6) then
    some p5
  else
    (ix 0 (hpL σ a1)).bind fun j7 =>
    some ((hpA σ a1 j7) - 6)) : Option (Int32)).bind fun (x5 : Int32) =>
  (dnA σ p1).bind fun a9 =>
  (ix 63 (hpL σ a9)).bind fun j11 =>
  (dn σ 13 p1).bind fun a13 =>
  (ix (hpA σ a9 j11) (hpL σ a13)).bind fun j15 =>
  (ix 63 (hpL (stA σ a13 j15 ((((p3 ||| (p4 <<< (4 &&& 31))) ||| (x5 <<< (8 &&& 31))) ||| (p6 <<< (24 &&& 31))) ||| (p7 <<< (25 &&& 31)))) a9)).bind fun j17 =>
  (ix 63 (hpL (stA σ a13 j15 ((((p3 ||| (p4 <<< (4 &&& 31))) ||| (x5 <<< (8 &&& 31))) ||| (p6 <<< (24 &&& 31))) ||| (p7 <<< (25 &&& 31)))) a13)).bind fun j19 =>
  some (stA (stA σ a13 j15 ((((p3 ||| (p4 <<< (4 &&& 31))) ||| (x5 <<< (8 &&& 31))) ||| (p6 <<< (24 &&& 31))) ||| (p7 <<< (25 &&& 31)))) a13 j19 ((hpA (stA σ a13 j15 ((((p3 ||| (p4 <<< (4 &&& 31))) ||| (x5 <<< (8 &&& 31))) ||| (p6 <<< (24 &&& 31))) ||| (p7 <<< (25 &&& 31)))) a9 j17) + 1))
def f_L_first (σ : St) (p1 : Int32) : Option (Int32) :=
  some ((p1 >>> (8 &&& 31)) &&& 255)
def f_L_length (σ : St) (p1 : Int32) : Option (Int32) :=
  some ((p1 >>> (16 &&& 31)) &&& 255)
def LL_breaks_227 : Nat → (Option Nat) → (Option Nat) → (Option Nat) → (Int32) → (Int32) → (Int32) → (Int32) → (Int32) → (Int32) → (St) → Option (Int32 × Int32 × St)
  | 0, _, _, _, _, _, _, _, _, _, _ => none
  | n + 1, l0, l1, l2, l3, l4, l9, v7_227, v8_227, v10_227, τ227 =>
    if v10_227 ≤ 0 then
      some (v7_227, v8_227, τ227)
    else
      (dnA τ227 l2).bind fun a100 =>
      (ix 63 (hpL τ227 a100)).bind fun j102 =>
      (ix ((hpA τ227 a100 j102) - 1) (hpL τ227 a100)).bind fun j104 =>
      (f_L_first τ227 (hpA τ227 a100 j104)).bind fun q106 =>
      (f_L_length τ227 (hpA τ227 a100 j104)).bind fun q108 =>
      (dnA τ227 l1).bind fun a110 =>
      (ix 0 (hpL τ227 a110)).bind fun j112 =>
      ((if ¬ (q106 + q108) = (hpA τ227 a110 j112) then
        some (v7_227, τ227)
      else
        (ix 3 (hpL τ227 a110)).bind fun j116 =>
        (f_L_comes τ227 l2 l1 l3 (v7_227 + 1) (l4 + (hpA τ227 a110 j116)) 1 v8_227).bind fun q118 =>
        some ((v7_227 + 1), q118)) : Option (Int32 × St)).bind fun (x114 : Int32 × St) =>
      (dnA x114.2 l2).bind fun a120 =>
      (ix 63 (hpL x114.2 a120)).bind fun j122 =>
      (ix ((hpA x114.2 a120 j122) - 1) (hpL x114.2 a120)).bind fun j124 =>
      (dn x114.2 13 l2).bind fun a126 =>
      (ix ((hpA x114.2 a120 j122) - 1) (hpL x114.2 a126)).bind fun j128 =>
      LL_breaks_227 n l0 l1 l2 l3 l4 l9 x114.1 (v8_227 + 1) (v10_227 + (-1)) (stA x114.2 a126 j128 ((hpA x114.2 a120 j124) + 65536))
def LL_breaks_119 : Nat → (Option Nat) → (Option Nat) → (Option Nat) → (Int32) → (Int32) → (Int32) → (Int32) → (Int32) → (St) → Option (St)
  | 0, _, _, _, _, _, _, _, _, _ => none
  | n + 1, l0, l1, l2, l3, l4, v7_119, v8_119, v9_119, τ119 =>
    (dnA τ119 l0).bind fun a45 =>
    (ix (10 * l3) (hpL τ119 a45)).bind fun j47 =>
    if (hpA τ119 a45 j47) ≤ v9_119 then
      some τ119
    else
      (ix (((10 * l3) + 1) + v9_119) (hpL τ119 a45)).bind fun j50 =>
      (dnA τ119 l2).bind fun a52 =>
      (ix 63 (hpL τ119 a52)).bind fun j54 =>
      (ix ((hpA τ119 a52 j54) - 1) (hpL τ119 a52)).bind fun j56 =>
      (f_L_length τ119 (hpA τ119 a52 j56)).bind fun q58 =>
      ((if q58 ≤ 0 then
        (f_L_length τ119 (hpA τ119 a52 j56)).bind fun q62 =>
        if q62 ≤ 0 then
          some (v7_119, τ119)
        else
          (ix 63 (hpL τ119 a52)).bind fun j65 =>
          (ix ((hpA τ119 a52 j65) - 1) (hpL τ119 a52)).bind fun j67 =>
          (dn τ119 13 l2).bind fun a69 =>
          (ix ((hpA τ119 a52 j65) - 1) (hpL τ119 a69)).bind fun j71 =>
          some (v7_119, (stA τ119 a69 j71 ((hpA τ119 a52 j67) + 65536)))
      else
        (f_L_first τ119 (hpA τ119 a52 j56)).bind fun q73 =>
        (f_L_length τ119 (hpA τ119 a52 j56)).bind fun q75 =>
        (dnA τ119 l1).bind fun a77 =>
        (ix 0 (hpL τ119 a77)).bind fun j79 =>
        if (((q73 + q75) + 1) + (hpA τ119 a45 j50)) ≤ (hpA τ119 a77 j79) then
          (f_L_length τ119 (hpA τ119 a52 j56)).bind fun q82 =>
          if q82 ≤ 0 then
            some (v7_119, τ119)
          else
            (ix 63 (hpL τ119 a52)).bind fun j85 =>
            (ix ((hpA τ119 a52 j85) - 1) (hpL τ119 a52)).bind fun j87 =>
            (dn τ119 13 l2).bind fun a89 =>
            (ix ((hpA τ119 a52 j85) - 1) (hpL τ119 a89)).bind fun j91 =>
            some (v7_119, (stA τ119 a89 j91 ((hpA τ119 a52 j87) + 65536)))
        else
          (ix 3 (hpL τ119 a77)).bind fun j93 =>
          (f_L_comes τ119 l2 l1 l3 (v7_119 + 1) (l4 + (hpA τ119 a77 j93)) 0 v8_119).bind fun q95 =>
          some ((v7_119 + 1), q95)) : Option (Int32 × St)).bind fun (x60 : Int32 × St) =>
      (LL_breaks_227 FU l0 l1 l2 l3 l4 v9_119 x60.1 v8_119 (hpA τ119 a45 j50) x60.2).bind fun x98 =>
      LL_breaks_119 n l0 l1 l2 l3 l4 x98.1 (x98.2.1 + 1) (v9_119 + 1) x98.2.2
def LL_breaks_7 : Nat → (Option Nat) → (Option Nat) → (Option Nat) → (Int32) → (St) → Option (St)
  | 0, _, _, _, _, _ => none
  | n + 1, l0, l1, l2, v3_7, τ7 =>
    (dnA τ7 l0).bind fun a7 =>
    (ix 60 (hpL τ7 a7)).bind fun j9 =>
    if (hpA τ7 a7 j9) ≤ v3_7 then
      some τ7
    else
      (ix ((10 * v3_7) + 5) (hpL τ7 a7)).bind fun j12 =>
      (dnA τ7 l1).bind fun a14 =>
      (ix 2 (hpL τ7 a14)).bind fun j16 =>
      (ix ((10 * v3_7) + 6) (hpL τ7 a7)).bind fun j18 =>
      ((if ¬ (hpA τ7 a7 j18) = 1 then
        some 0
      else
        (f_L_isFirst τ7 l0 v3_7).bind fun q22 =>
        if ¬ q22 = 0 then
          some 0
        else
          some 1) : Option (Int32)).bind fun (x20 : Int32) =>
      (dnA τ7 l2).bind fun a25 =>
      (ix 63 (hpL τ7 a25)).bind fun j27 =>
      ((if ¬ (hpA τ7 a25 j27) = 0 then
        (ix 63 (hpL τ7 a25)).bind fun j31 =>
        (ix ((hpA τ7 a25 j31) - 1) (hpL τ7 a25)).bind fun j33 =>
        some (hpA τ7 a25 j33)
      else
        some 0) : Option (Int32)).bind fun (x29 : Int32) =>
      ((if x20 = 0 then
        some ((hpA τ7 a7 j12) * (hpA τ7 a14 j16))
      else
        (f_L_first τ7 x29).bind fun q37 =>
        (f_L_length τ7 x29).bind fun q39 =>
        some ((q37 + q39) + 1)) : Option (Int32)).bind fun (x35 : Int32) =>
      (f_L_comes τ7 l2 l1 v3_7 0 x35 0 0).bind fun q41 =>
      (LL_breaks_119 FU l0 l1 l2 v3_7 ((hpA τ7 a7 j12) * (hpA τ7 a14 j16)) 0 0 0 q41).bind fun x44 =>
      LL_breaks_7 n l0 l1 l2 (v3_7 + 1) x44
def f_L_breaks (σ : St) (p1 : Option Nat) (p2 : Option Nat) (p3 : Option Nat) : Option (St) :=
  (dn σ 13 p3).bind fun a1 =>
  (ix 63 (hpL σ a1)).bind fun j3 =>
  (LL_breaks_7 FU p1 p2 p3 0 (stA σ a1 j3 0)).bind fun x6 =>
  some x6
def LL_areLines_91 : Nat → (St) → (Option Nat) → (Option Nat) → (Option Nat) → (Int32) → (Int32) → (Int32) → (Int32) → (Int32) → (Int32) → (Int32) → (Int32) → Option (Int32)
  | 0, _, _, _, _, _, _, _, _, _, _, _, _ => none
  | n + 1, σ, l0, l1, l2, l3, l4, l5, l6, l8, l9, v7_91, v10_91 =>
    (dnA σ l1).bind fun a23 =>
    (ix (10 * l5) (hpL σ a23)).bind fun j25 =>
    if (hpA σ a23 j25) ≤ v10_91 then
      some v7_91
    else
      (ix (((10 * l5) + 1) + v10_91) (hpL σ a23)).bind fun j28 =>
      LL_areLines_91 n σ l0 l1 l2 l3 l4 l5 l6 l8 l9 (v7_91 + (hpA σ a23 j28)) (v10_91 + 1)
def LL_areLines_129 : Nat → (St) → (Option Nat) → (Option Nat) → (Option Nat) → (Int32) → (Int32) → (Int32) → (Int32) → (Int32) → (Int32) → (Int32) → (Int32) → Option (Int32 × Int32)
  | 0, _, _, _, _, _, _, _, _, _, _, _, _ => none
  | n + 1, σ, l0, l1, l2, l3, l4, l5, l6, l7, v8_129, v9_129, v10_129 =>
    (dnA σ l2).bind fun a32 =>
    (ix 63 (hpL σ a32)).bind fun j34 =>
    if (hpA σ a32 j34) ≤ v10_129 then
      some (v8_129, v9_129)
    else
      (ix v10_129 (hpL σ a32)).bind fun j37 =>
      ((if ¬ ((hpA σ a32 j37) &&& 15) = l5 then
        some 0
      else
        some 1) : Option (Int32)).bind fun (x39 : Int32) =>
      ((if 0 ≤ v9_129 then
        some v9_129
      else
        (ix v10_129 (hpL σ a32)).bind fun j43 =>
        if ¬ ((hpA σ a32 j43) &&& 15) = l5 then
          some v9_129
        else
          some v10_129) : Option (Int32)).bind fun (x41 : Int32) =>
      LL_areLines_129 n σ l0 l1 l2 l3 l4 l5 l6 l7 (v8_129 + x39) x41 (v10_129 + 1)
def LL_areLines_8 : Nat → (St) → (Option Nat) → (Option Nat) → (Option Nat) → (Int32) → (Int32) → (Int32) → Option ((Int32) ⊕ (Int32 × Int32))
  | 0, _, _, _, _, _, _, _ => none
  | n + 1, σ, l0, l1, l2, v3_8, v4_8, v5_8 =>
    (dnA σ l1).bind fun a3 =>
    (ix 60 (hpL σ a3)).bind fun j5 =>
    if (hpA σ a3 j5) ≤ v5_8 then
      some (.inr (v3_8, v4_8))
    else
      (ix ((10 * v5_8) + 6) (hpL σ a3)).bind fun j8 =>
      ((if ¬ (hpA σ a3 j8) = 1 then
        some 0
      else
        (f_L_isFirst σ l1 v5_8).bind fun q12 =>
        if ¬ q12 = 0 then
          some 0
        else
          some 1) : Option (Int32)).bind fun (x10 : Int32) =>
      ((if x10 = 0 then
        some 1
      else
        some 0) : Option (Int32)).bind fun (x15 : Int32) =>
      (f_L_isFirst σ l1 v5_8).bind fun q17 =>
      ((if q17 = 0 then
        some 0
      else
        some 1) : Option (Int32)).bind fun (x19 : Int32) =>
      (LL_areLines_91 FU σ l0 l1 l2 (v3_8 + x15) (v4_8 + x19) v5_8 x10 0 (-1) 0 0).bind fun x22 =>
      (LL_areLines_129 FU σ l0 l1 l2 (v3_8 + x15) (v4_8 + x19) v5_8 x10 x22 0 (-1) 0).bind fun x31 =>
      (dn σ 10 l0).bind fun a46 =>
      (f_X10_line σ a46 v5_8 0).bind fun q48 =>
      if ¬ q48 = x22 then
        some (.inl 0)
      else
        (f_X10_line σ a46 v5_8 1).bind fun q51 =>
        (ix (10 * v5_8) (hpL σ a3)).bind fun j53 =>
        if ¬ q51 = (hpA σ a3 j53) then
          some (.inl 0)
        else
          (f_X10_line σ a46 v5_8 2).bind fun q56 =>
          (ix ((10 * v5_8) + 5) (hpL σ a3)).bind fun j58 =>
          if ¬ q56 = (hpA σ a3 j58) then
            some (.inl 0)
          else
            (f_X10_line σ a46 v5_8 3).bind fun q61 =>
            (ix ((10 * v5_8) + 6) (hpL σ a3)).bind fun j63 =>
            if ¬ q61 = (hpA σ a3 j63) then
              some (.inl 0)
            else
              (f_X10_line σ a46 v5_8 4).bind fun q66 =>
              ((if x10 = 0 then
                some 0
              else
                some 1) : Option (Int32)).bind fun (x68 : Int32) =>
              if ¬ q66 = x68 then
                some (.inl 0)
              else
                (f_X10_line σ a46 v5_8 5).bind fun q71 =>
                (ix ((10 * v5_8) + 7) (hpL σ a3)).bind fun j73 =>
                if q71 = (hpA σ a3 j73) then
                  (f_X10_line σ a46 v5_8 6).bind fun q76 =>
                  if ¬ q76 = (v3_8 + x15) then
                    some (.inl 0)
                  else
                    (f_X10_line σ a46 v5_8 7).bind fun q79 =>
                    if ¬ q79 = x31.2 then
                      some (.inl 0)
                    else
                      (f_X10_line σ a46 v5_8 8).bind fun q82 =>
                      if ¬ q82 = x31.1 then
                        some (.inl 0)
                      else
                        (f_X10_line σ a46 v5_8 9).bind fun q85 =>
                        if ¬ q85 = (v4_8 + x19) then
                          some (.inl 0)
                        else
                          (ix (10 * v5_8) (hpL σ a3)).bind fun j88 =>
                          (f_X10_letter σ a46 v5_8 ((x22 + (hpA σ a3 j88)) - 1)).bind fun q90 =>
                          if ¬ q90 = (-1) then
                            some (.inl 0)
                          else
                            (f_X10_letter σ a46 v5_8 (-1)).bind fun q93 =>
                            if q93 = (-2) then
                              LL_areLines_8 n σ l0 l1 l2 (v3_8 + x15) (v4_8 + x19) (v5_8 + 1)
                            else
                              some (.inl 0)
                else
                  some (.inl 0)
def f_L_areLines (σ : St) (p1 : Option Nat) (p2 : Option Nat) (p3 : Option Nat) : Option (Int32) :=
  sb (LL_areLines_8 FU σ p1 p2 p3 0 (-1) 0) fun wx2 =>
  (dn σ 10 p1).bind fun a96 =>
  (f_X10_count σ a96 0).bind fun q98 =>
  (dnA σ p2).bind fun a100 =>
  (ix 60 (hpL σ a100)).bind fun j102 =>
  if ¬ q98 = (hpA σ a100 j102) then
    some 0
  else
    (f_X10_count σ a96 1).bind fun q105 =>
    if ¬ q105 = (wx2.2 + 1) then
      some 0
    else
      (f_X10_count σ a96 7).bind fun q108 =>
      if ¬ q108 = wx2.1 then
        some 0
      else
        (ix 60 (hpL σ a100)).bind fun j111 =>
        (f_X10_line σ a96 (hpA σ a100 j111) 0).bind fun q113 =>
        if ¬ q113 = (-2) then
          some 0
        else
          (f_X10_line σ a96 0 10).bind fun q116 =>
          if ¬ q116 = (-2) then
            some 0
          else
            some 1
def LL_areRows_262 : Nat → (St) → (Option Nat) → (Option Nat) → (Option Nat) → (Option Nat) → (Int32) → (Int32) → (Int32) → (Int32) → (Int32) → (Int32) → (Int32) → (Int32) → (Int32) → (Int32) → (Int32) → Option (((Int32) ⊕ (Int32 × Int32 × Int32)) ⊕ (Unit))
  | 0, _, _, _, _, _, _, _, _, _, _, _, _, _, _, _, _ => none
  | n + 1, σ, l0, l1, l2, l3, l4, l5, l6, l7, l8, l9, l10, l14, l15, l16, v17_262 =>
    (dnA σ l2).bind fun a78 =>
    (ix 0 (hpL σ a78)).bind fun j80 =>
    if (hpA σ a78 j80) ≤ v17_262 then
      some (.inr ())
    else
      (dnA σ l3).bind fun a83 =>
      (ix l7 (hpL σ a83)).bind fun j85 =>
      (f_L_first σ (hpA σ a83 j85)).bind fun q87 =>
      ((if v17_262 < q87 then
        some 0
      else
        if l10 ≤ v17_262 then
          some 0
        else
          some 1) : Option (Int32)).bind fun (x89 : Int32) =>
      (dn σ 10 l0).bind fun a92 =>
      (f_X10_at σ a92 l14 l15 v17_262).bind fun q94 =>
      ((if x89 = 0 then
        some 32
      else
        (ix l7 (hpL σ a83)).bind fun j98 =>
        (f_L_first σ (hpA σ a83 j98)).bind fun q100 =>
        (f_X10_letter σ a92 l8 ((l16 + v17_262) - q100)).bind fun q102 =>
        some q102) : Option (Int32)).bind fun (x96 : Int32) =>
      if q94 = x96 then
        LL_areRows_262 n σ l0 l1 l2 l3 l4 l5 l6 l7 l8 l9 l10 l14 l15 l16 (v17_262 + 1)
      else
        some (.inl (.inl 0))
def LL_areRows_12 : Nat → (St) → (Option Nat) → (Option Nat) → (Option Nat) → (Option Nat) → (Int32) → (Int32) → (Int32) → (Int32) → Option ((Int32) ⊕ (Int32 × Int32 × Int32))
  | 0, _, _, _, _, _, _, _, _, _ => none
  | n + 1, σ, l0, l1, l2, l3, v4_12, v5_12, v6_12, v7_12 =>
    (dnA σ l3).bind fun a3 =>
    (ix 63 (hpL σ a3)).bind fun j5 =>
    if (hpA σ a3 j5) ≤ v7_12 then
      some (.inr (v4_12, v5_12, v6_12))
    else
      (ix v7_12 (hpL σ a3)).bind fun j8 =>
      (ix v7_12 (hpL σ a3)).bind fun j10 =>
      (ix v7_12 (hpL σ a3)).bind fun j12 =>
      (f_L_first σ (hpA σ a3 j12)).bind fun q14 =>
      (ix v7_12 (hpL σ a3)).bind fun j16 =>
      (f_L_length σ (hpA σ a3 j16)).bind fun q18 =>
      (dnA σ l1).bind fun a20 =>
      (ix ((10 * ((hpA σ a3 j8) &&& 15)) + 6) (hpL σ a20)).bind fun j22 =>
      ((if ¬ (hpA σ a20 j22) = 1 then
        some 0
      else
        (f_L_isFirst σ l1 ((hpA σ a3 j8) &&& 15)).bind fun q26 =>
        if ¬ q26 = 0 then
          some 0
        else
          some 1) : Option (Int32)).bind fun (x24 : Int32) =>
      (dn σ 10 l0).bind fun a29 =>
      (f_X10_line σ a29 ((hpA σ a3 j8) &&& 15) 6).bind fun q31 =>
      ((if ¬ (((hpA σ a3 j10) >>> (4 &&& 31)) &&& 15) = 0 then
        some 0
      else
        if ¬ x24 = 0 then
          some 0
        else
          (nz 5).bind fun w36 =>
          if ¬ (q31 - q31 / 5 * 5) = 0 then
            some 0
          else
            some q31) : Option (Int32)).bind fun (x33 : Int32) =>
      (f_X10_row σ a29 v7_12 0).bind fun q39 =>
      if ¬ q39 = ((hpA σ a3 j8) &&& 15) then
        some (.inl 0)
      else
        (f_X10_row σ a29 v7_12 1).bind fun q42 =>
        if ¬ q42 = (((hpA σ a3 j10) >>> (4 &&& 31)) &&& 15) then
          some (.inl 0)
        else
          (f_X10_row σ a29 v7_12 4).bind fun q45 =>
          (ix v7_12 (hpL σ a3)).bind fun j47 =>
          (f_L_first σ (hpA σ a3 j47)).bind fun q49 =>
          if ¬ q45 = q49 then
            some (.inl 0)
          else
            (f_X10_row σ a29 v7_12 5).bind fun q52 =>
            (ix v7_12 (hpL σ a3)).bind fun j54 =>
            (f_L_length σ (hpA σ a3 j54)).bind fun q56 =>
            if ¬ q52 = q56 then
              some (.inl 0)
            else
              (f_X10_row σ a29 v7_12 6).bind fun q59 =>
              if ¬ q59 = x33 then
                some (.inl 0)
              else
                (f_X10_row σ a29 v7_12 7).bind fun q62 =>
                (ix v7_12 (hpL σ a3)).bind fun j64 =>
                if ¬ q62 = (((hpA σ a3 j64) >>> (24 &&& 31)) &&& 1) then
                  some (.inl 0)
                else
                  (f_X10_row σ a29 v7_12 8).bind fun q67 =>
                  if q67 = (q14 + q18) then
                    (f_X10_row σ a29 v7_12 2).bind fun q70 =>
                    (f_X10_row σ a29 v7_12 3).bind fun q72 =>
                    (ix v7_12 (hpL σ a3)).bind fun j74 =>
                    sb (LL_areRows_262 FU σ l0 l1 l2 l3 v4_12 v5_12 v6_12 v7_12 ((hpA σ a3 j8) &&& 15) (((hpA σ a3 j10) >>> (4 &&& 31)) &&& 15) (q14 + q18) q70 q72 (((hpA σ a3 j74) >>> (25 &&& 31)) &&& 127) 0) fun wx77 =>
                    ((if (((hpA σ a3 j10) >>> (4 &&& 31)) &&& 15) ≤ 0 then
                      some 0
                    else
                      some 1) : Option (Int32)).bind fun (x105 : Int32) =>
                    (ix v7_12 (hpL σ a3)).bind fun j107 =>
                    ((if (q14 + q18) ≤ v6_12 then
                      some v6_12
                    else
                      some (q14 + q18)) : Option (Int32)).bind fun (x109 : Int32) =>
                    LL_areRows_12 n σ l0 l1 l2 l3 (v4_12 + x105) (v5_12 + (((hpA σ a3 j107) >>> (24 &&& 31)) &&& 1)) x109 (v7_12 + 1)
                  else
                    some (.inl 0)
def f_L_areRows (σ : St) (p1 : Option Nat) (p2 : Option Nat) (p3 : Option Nat) (p4 : Option Nat) : Option (Int32) :=
  sb (LL_areRows_12 FU σ p1 p2 p3 p4 0 0 0 0) fun wx2 =>
  (dn σ 10 p1).bind fun a111 =>
  (f_X10_count σ a111 2).bind fun q113 =>
  (dnA σ p4).bind fun a115 =>
  (ix 63 (hpL σ a115)).bind fun j117 =>
  if ¬ q113 = (hpA σ a115 j117) then
    some 0
  else
    (f_X10_count σ a111 4).bind fun q120 =>
    if ¬ q120 = wx2.1 then
      some 0
    else
      (f_X10_count σ a111 5).bind fun q123 =>
      if ¬ q123 = wx2.2.1 then
        some 0
      else
        (f_X10_count σ a111 8).bind fun q126 =>
        if ¬ q126 = wx2.2.2 then
          some 0
        else
          (ix 63 (hpL σ a115)).bind fun j129 =>
          (f_X10_row σ a111 (hpA σ a115 j129) 0).bind fun q131 =>
          if ¬ q131 = (-1) then
            some 0
          else
            (f_X10_row σ a111 (-1) 0).bind fun q134 =>
            if ¬ q134 = (-2) then
              some 0
            else
              (f_X10_row σ a111 0 9).bind fun q137 =>
              if ¬ q137 = (-2) then
                some 0
              else
                some 1
def LL_law_393 : Nat → (Option Nat) → (Option Nat) → (Option Nat) → (Option Nat) → (Option Nat) → (Int32) → (Int32) → (Int32) → (Int32) → (St) → Option (St)
  | 0, _, _, _, _, _, _, _, _, _, _ => none
  | n + 1, l0, l1, l2, l3, l4, l5, l6, l8, v10_393, τ393 =>
    (dnA τ393 l2).bind fun a127 =>
    (ix 60 (hpL τ393 a127)).bind fun j129 =>
    if (10 * (hpA τ393 a127 j129)) ≤ v10_393 then
      some τ393
    else
      (f_L_low τ393 l6 3).bind fun q132 =>
      if ¬ q132 = 0 then
        some τ393
      else
        (ix (v10_393 + 10) (hpL τ393 a127)).bind fun j135 =>
        (dn τ393 13 l2).bind fun a137 =>
        (ix v10_393 (hpL τ393 a137)).bind fun j139 =>
        LL_law_393 n l0 l1 l2 l3 l4 l5 l6 l8 (v10_393 + 1) (stA τ393 a137 j139 (hpA τ393 a127 j135))
def LL_law_122 : Nat → (Option Nat) → (Option Nat) → (Option Nat) → (Option Nat) → (Option Nat) → (Int32) → (St) → Option ((Int32 × St) ⊕ (St))
  | 0, _, _, _, _, _, _, _ => none
  | n + 1, l0, l1, l2, l3, l4, v5_122, τ122 =>
    if 12 ≤ v5_122 then
      some (.inr τ122)
    else
      (f_L_cell τ122 l0 (2 * v5_122)).bind fun q57 =>
      (f_L_cell τ122 l0 ((2 * v5_122) + 1)).bind fun q59 =>
      (dnA τ122 l2).bind fun a61 =>
      (ix 60 (hpL τ122 a61)).bind fun j63 =>
      ((if ¬ (hpA τ122 a61 j63) = 0 then
        (ix 60 (hpL τ122 a61)).bind fun j67 =>
        (f_L_low τ122 q59 (hpA τ122 a61 j67)).bind fun q69 =>
        some q69
      else
        some 0) : Option (Int32)).bind fun (x65 : Int32) =>
      (ix 60 (hpL τ122 a61)).bind fun j71 =>
      ((if ¬ (hpA τ122 a61 j71) = 0 then
        (f_L_low τ122 (q57 >>> (22 &&& 31)) 8).bind fun q75 =>
        some q75
      else
        some 9) : Option (Int32)).bind fun (x73 : Int32) =>
      ((if x73 = 0 then
        (f_L_low τ122 q57 2).bind fun q78 =>
        ((if ¬ q78 = 0 then
          some 7
        else
          some 6) : Option (Int32)).bind fun (x80 : Int32) =>
        (ix ((10 * x65) + x80) (hpL τ122 a61)).bind fun j82 =>
        (dn τ122 13 l2).bind fun a84 =>
        (ix ((10 * x65) + x80) (hpL τ122 a84)).bind fun j86 =>
        ((if ¬ x80 = 6 then
          some 0
        else
          some 1) : Option (Int32)).bind fun (x88 : Int32) =>
        (dn (stA τ122 a84 j86 (1 - (hpA τ122 a61 j82))) 10 l1).bind fun a90 =>
        (f_X10_toggle (stA τ122 a84 j86 (1 - (hpA τ122 a61 j82))) a90 x65 x88).bind fun q92 =>
        (dnA q92.2 l2).bind fun a94 =>
        (ix ((10 * x65) + x80) (hpL q92.2 a94)).bind fun j96 =>
        ((if ¬ q92.1 = (hpA q92.2 a94 j96) then
          some 0
        else
          some 1) : Option (Int32)).bind fun (x98 : Int32) =>
        some (x98, q92.2)
      else if x73 = 1 then
        (ix (10 * x65) (hpL τ122 a61)).bind fun j100 =>
        (f_L_types τ122 l1 l2 x65 q57 q59).bind fun q102 =>
        ((if q102.1 = 0 then
          some (0, q102.2)
        else
          (dn q102.2 10 l1).bind fun a106 =>
          (f_X10_replace q102.2 a106 x65).bind fun q108 =>
          if ¬ q108.1 = (hpA τ122 a61 j100) then
            some (0, q108.2)
          else
            some (1, q108.2)) : Option (Int32 × St)).bind fun (x104 : Int32 × St) =>
        some (x104.1, x104.2)
      else if x73 = 2 then
        (f_L_sets τ122 l1 l3 q57).bind fun q111 =>
        some (q111.1, q111.2)
      else if x73 = 3 then
        (f_L_sets τ122 l1 l3 q57).bind fun q113 =>
        some (q113.1, q113.2)
      else if x73 = 4 then
        (ix 60 (hpL τ122 a61)).bind fun j115 =>
        (f_L_low τ122 q57 3).bind fun q117 =>
        ((if ¬ q117 = 0 then
          some 0
        else
          some 1) : Option (Int32)).bind fun (x119 : Int32) =>
        (dn τ122 13 l2).bind fun a121 =>
        (ix 60 (hpL τ122 a121)).bind fun j123 =>
        (LL_law_393 FU l0 l1 l2 l3 l4 v5_122 q57 x65 (10 * x65) (stA τ122 a121 j123 ((hpA τ122 a61 j115) - x119))).bind fun x126 =>
        (f_L_low x126 q57 3).bind fun q141 =>
        ((if 0 < q141 then
          some (1, x126)
        else
          (dn x126 10 l1).bind fun a145 =>
          (f_X10_remove x126 a145 x65).bind fun q147 =>
          (dnA q147.2 l2).bind fun a149 =>
          (ix 60 (hpL q147.2 a149)).bind fun j151 =>
          if ¬ q147.1 = (hpA q147.2 a149 j151) then
            some (0, q147.2)
          else
            some (1, q147.2)) : Option (Int32 × St)).bind fun (x143 : Int32 × St) =>
        some (x143.1, x143.2)
      else 
        (ix 60 (hpL τ122 a61)).bind fun j154 =>
        ((if ¬ (hpA τ122 a61 j154) = 0 then
          (ix 60 (hpL τ122 a61)).bind fun j158 =>
          (f_L_low τ122 q59 ((hpA τ122 a61 j158) + 1)).bind fun q160 =>
          some q160
        else
          some 0) : Option (Int32)).bind fun (x156 : Int32) =>
        (f_L_inserts τ122 l1 l2 x156 q57 (q59 >>> (1 &&& 31))).bind fun q162 =>
        some (q162.1, q162.2)) : Option (Int32 × St)).bind fun (x77 : Int32 × St) =>
      (f_L_breaks x77.2 l2 l3 l4).bind fun q164 =>
      if x77.1 = 0 then
        some (.inl (0, q164))
      else
        (f_L_areLines q164 l1 l2 l4).bind fun q167 =>
        if q167 = 0 then
          some (.inl (0, q164))
        else
          (f_L_areRows q164 l1 l2 l3 l4).bind fun q170 =>
          if ¬ q170 = 0 then
            LL_law_122 n l0 l1 l2 l3 l4 (v5_122 + 1) q164
          else
            some (.inl (0, q164))
def f_L_law (σ : St) (p1 : Option Nat) : Option (Int32 × St) :=
  (nwO σ 10).bind fun σ1 =>
  (dn σ1 10 (some (hpN σ))).bind fun a3 =>
  (f_X10_init σ1 a3).bind fun q5 =>
  (nwA q5 13 64).bind fun σ7 =>
  (nwA σ7 13 5).bind fun σ9 =>
  (nwA σ9 13 64).bind fun σ11 =>
  (f_L_begins σ11 (some (hpN σ7))).bind fun q13 =>
  (dn q13 10 (some (hpN σ))).bind fun a15 =>
  (f_X10_fault q13 a15 0).bind fun q17 =>
  if ¬ q17 = 0 then
    some (0, q13)
  else
    (f_X10_fault q13 a15 1).bind fun q20 =>
    if ¬ q20 = 0 then
      some (0, q13)
    else
      (f_X10_insert q13 a15 0).bind fun q23 =>
      if ¬ q23.1 = (-2000) then
        some (0, q23.2)
      else
        (dn q23.2 10 (some (hpN σ))).bind fun a26 =>
        (f_X10_insert q23.2 a26 1).bind fun q28 =>
        if ¬ q28.1 = (-2) then
          some (0, q28.2)
        else
          (dn q28.2 10 (some (hpN σ))).bind fun a31 =>
          (f_X10_replace q28.2 a31 0).bind fun q33 =>
          if ¬ q33.1 = (-2) then
            some (0, q33.2)
          else
            (dn q33.2 10 (some (hpN σ))).bind fun a36 =>
            (f_X10_remove q33.2 a36 0).bind fun q38 =>
            if ¬ q38.1 = (-2) then
              some (0, q38.2)
            else
              (dn q38.2 10 (some (hpN σ))).bind fun a41 =>
              (f_X10_toggle q38.2 a41 0 1).bind fun q43 =>
              if ¬ q43.1 = (-2) then
                some (0, q43.2)
              else
                (dn q43.2 10 (some (hpN σ))).bind fun a46 =>
                (f_X10_at q43.2 a46 0 0 0).bind fun q48 =>
                if ¬ q48 = (-2) then
                  some (0, q43.2)
                else
                  (f_L_areLines q43.2 (some (hpN σ)) (some (hpN q5)) (some (hpN σ9))).bind fun q51 =>
                  if ¬ q51 = 0 then
                    sb (LL_law_122 FU p1 (some (hpN σ)) (some (hpN q5)) (some (hpN σ7)) (some (hpN σ9)) 0 q43.2) fun wx55 =>
                    some (1, wx55)
                  else
                    some (0, q43.2)
