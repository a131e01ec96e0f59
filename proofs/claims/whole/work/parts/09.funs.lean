def f_X10_element (σ : St) (p1 : Option Nat) (p2 : Int32) : Option (Int32) :=
  if p1 = none then
    some 0
  else
    if p2 < 0 then
      some 0
    else
      (dnA σ p1).bind fun a3 =>
      if p2 < (nI (hpL σ a3)) then
        (ix p2 (hpL σ a3)).bind fun j6 =>
        some (hpA σ a3 j6)
      else
        some 0
def LX5_init_27 : Nat → (Nat) → (Int32) → (St) → Option (St)
  | 0, _, _, _ => none
  | n + 1, t, v1, τ =>
    (dn τ 5 (some t)).bind fun a11 =>
    (dnA τ (hpR τ 161 a11)).bind fun a13 =>
    if (nI (hpL τ a13)) ≤ v1 then
      some τ
    else
      (f_X10_element τ (some (hpG τ 0)) v1).bind fun q16 =>
      (dn τ 13 (hpR τ 161 a11)).bind fun a18 =>
      (ix v1 (hpL τ a18)).bind fun j20 =>
      LX5_init_27 n t (v1 + 1) (stA τ a18 j20 q16)
def f_X5_init (σ : St) (t : Nat) : Option (St) :=
  (nwA σ 14 24).bind fun σ1 =>
  (dn σ1 5 (some t)).bind fun a3 =>
  (nwA (stR σ1 160 a3 (some (hpN σ))) 13 5).bind fun σ5 =>
  (dn σ5 5 (some t)).bind fun a7 =>
  (LX5_init_27 FU t 0 (stI (stR σ5 161 a7 (some (hpN (stR σ1 160 a3 (some (hpN σ)))))) 162 a7 0)).bind fun x10 =>
  some x10
def LX0_init_20 : Nat → (Nat) → (Int32) → (St) → Option (St)
  | 0, _, _, _ => none
  | n + 1, t, v1, τ =>
    (dn τ 0 (some t)).bind fun a7 =>
    (dn τ 17 (hpR τ 0 a7)).bind fun a9 =>
    if (nI (hpL τ a9)) ≤ v1 then
      some τ
    else
      (nwO τ 5).bind fun σ12 =>
      (dn σ12 5 (some (hpN τ))).bind fun a14 =>
      (f_X5_init σ12 a14).bind fun q16 =>
      (dn q16 17 (hpR τ 0 a7)).bind fun a18 =>
      (ix v1 (hpL q16 a18)).bind fun j20 =>
      (dm q16 5 (some (hpN τ))).bind fun w22 =>
      LX0_init_20 n t (v1 + 1) (stB q16 a18 j20 (some (hpN τ)))
def f_X0_init (σ : St) (t : Nat) : Option (St) :=
  (nwA σ 17 8).bind fun σ1 =>
  (dn σ1 0 (some t)).bind fun a3 =>
  (LX0_init_20 FU t 0 (stI (stR σ1 0 a3 (some (hpN σ))) 1 a3 0)).bind fun x6 =>
  some x6
def f_X0_stateAt (σ : St) (t : Nat) (p1 : Int32) : Option (Option Nat) :=
  if p1 < 0 then
    some none
  else
    (dn σ 17 (hpR σ 0 t)).bind fun a2 =>
    if p1 < (nI (hpL σ a2)) then
      (ix p1 (hpL σ a2)).bind fun j5 =>
      some (hpB σ a2 j5)
    else
      some none
def LX0_dropOldest_8 : Nat → (Nat) → (Option Nat) → (Int32) → (St) → Option (St)
  | 0, _, _, _, _ => none
  | n + 1, t, l1, v2, τ =>
    (dn τ 0 (some t)).bind fun a5 =>
    (dn τ 17 (hpR τ 0 a5)).bind fun a7 =>
    if (nI (hpL τ a7)) ≤ v2 then
      some τ
    else
      (ix v2 (hpL τ a7)).bind fun j10 =>
      (ix (v2 - 1) (hpL τ a7)).bind fun j12 =>
      (dm τ 5 (hpB τ a7 j10)).bind fun w14 =>
      LX0_dropOldest_8 n t l1 (v2 + 1) (stB τ a7 j12 (hpB τ a7 j10))
def f_X0_dropOldest (σ : St) (t : Nat) : Option (St) :=
  (f_X0_stateAt σ t 0).bind fun q1 =>
  (LX0_dropOldest_8 FU t q1 1 σ).bind fun x4 =>
  (dn x4 0 (some t)).bind fun a16 =>
  (dn x4 17 (hpR x4 0 a16)).bind fun a18 =>
  (if (nI (hpL x4 a18)) ≤ 0 then
    some x4
  else
    (ix ((nI (hpL x4 a18)) - 1) (hpL x4 a18)).bind fun j22 =>
    (dm x4 5 q1).bind fun w24 =>
    some (stB x4 a18 j22 q1)).bind fun (x20 : St) =>
  (dn x20 0 (some t)).bind fun a26 =>
  some (stI x20 1 a26 ((hpI x20 1 a26) - 1))
def f_X5_lineAt (σ : St) (t : Nat) (p1 : Int32) : Option (Option Nat) :=
  if p1 < 0 then
    some none
  else
    if (hpI σ 162 t) ≤ p1 then
      some none
    else
      (dn σ 14 (hpR σ 160 t)).bind fun a3 =>
      if p1 < (nI (hpL σ a3)) then
        (ix p1 (hpL σ a3)).bind fun j6 =>
        some (hpB σ a3 j6)
      else
        some none
def f_X5_setting (σ : St) (t : Nat) (p1 : Int32) : Option (Int32) :=
  (f_X10_element σ (hpR σ 161 t) p1).bind fun q1 =>
  some q1
def LX5_becomeLike_10 : Nat → (Nat) → (Option Nat) → (Int32) → (St) → Option (St)
  | 0, _, _, _, _ => none
  | n + 1, t, l1, v2, τ =>
    (dn τ 5 (some t)).bind fun a5 =>
    (dn τ 14 (hpR τ 160 a5)).bind fun a7 =>
    if (nI (hpL τ a7)) ≤ v2 then
      some τ
    else
      (dn τ 5 l1).bind fun a10 =>
      (f_X5_lineAt τ a10 v2).bind fun q12 =>
      (ix v2 (hpL τ a7)).bind fun j14 =>
      (dm τ 2 q12).bind fun w16 =>
      LX5_becomeLike_10 n t l1 (v2 + 1) (stB τ a7 j14 q12)
def LX5_becomeLike_38 : Nat → (Nat) → (Option Nat) → (Int32) → (St) → Option (St)
  | 0, _, _, _, _ => none
  | n + 1, t, l1, v2, τ =>
    (dn τ 5 (some t)).bind fun a20 =>
    (dnA τ (hpR τ 161 a20)).bind fun a22 =>
    if (nI (hpL τ a22)) ≤ v2 then
      some τ
    else
      (dn τ 5 l1).bind fun a25 =>
      (f_X5_setting τ a25 v2).bind fun q27 =>
      (dn τ 13 (hpR τ 161 a20)).bind fun a29 =>
      (ix v2 (hpL τ a29)).bind fun j31 =>
      LX5_becomeLike_38 n t l1 (v2 + 1) (stA τ a29 j31 q27)
def f_X5_becomeLike (σ : St) (t : Nat) (p1 : Option Nat) : Option (St) :=
  (dn σ 5 p1).bind fun a1 =>
  (LX5_becomeLike_10 FU t p1 0 (stI σ 162 t (hpI σ 162 a1))).bind fun x4 =>
  (LX5_becomeLike_38 FU t p1 0 x4).bind fun x19 =>
  some x19
def f_X0_keepState (σ : St) (t : Nat) (p1 : Option Nat) : Option (St) :=
  (dn σ 17 (hpR σ 0 t)).bind fun a1 =>
  (if (hpI σ 1 t) < (nI (hpL σ a1)) then
    some σ
  else
    (f_X0_dropOldest σ t).bind fun q5 =>
    some q5).bind fun (x3 : St) =>
  (dn x3 0 (some t)).bind fun a7 =>
  (f_X0_stateAt x3 a7 (hpI x3 1 a7)).bind fun q9 =>
  if q9 = none then
    some x3
  else
    (dn x3 5 q9).bind fun a12 =>
    (f_X5_becomeLike x3 a12 p1).bind fun q14 =>
    (dn q14 0 (some t)).bind fun a16 =>
    some (stI q14 1 a16 ((hpI q14 1 a16) + 1))
def f_X0_bringBack (σ : St) (t : Nat) (p1 : Option Nat) : Option (St) :=
  (f_X0_stateAt σ t ((hpI σ 1 t) - 1)).bind fun q1 =>
  if q1 = none then
    some σ
  else
    (dn σ 5 p1).bind fun a4 =>
    (f_X5_becomeLike σ a4 q1).bind fun q6 =>
    (dn q6 0 (some t)).bind fun a8 =>
    some (stI q6 1 a8 ((hpI q6 1 a8) - 1))
def f_X1_init (σ : St) (t : Nat) : Option (St) :=
  (nwA σ 18 480).bind fun σ1 =>
  (dn σ1 1 (some t)).bind fun a3 =>
  (nwA (stR σ1 32 a3 (some (hpN σ))) 15 24).bind fun σ5 =>
  (dn σ5 1 (some t)).bind fun a7 =>
  (nwA (stR σ5 33 a7 (some (hpN (stR σ1 32 a3 (some (hpN σ)))))) 19 24).bind fun σ9 =>
  (dn σ9 1 (some t)).bind fun a11 =>
  (nwA (stR σ9 34 a11 (some (hpN (stR σ5 33 a7 (some (hpN (stR σ1 32 a3 (some (hpN σ))))))))) 16 480).bind fun σ13 =>
  (dn σ13 1 (some t)).bind fun a15 =>
  some (stI (stI (stI (stI (stI (stR σ13 35 a15 (some (hpN (stR σ9 34 a11 (some (hpN (stR σ5 33 a7 (some (hpN (stR σ1 32 a3 (some (hpN σ)))))))))))) 36 a15 0) 37 a15 0) 38 a15 0) 39 a15 0) 40 a15 0)
def f_X1_rowAt (σ : St) (t : Nat) (p1 : Int32) : Option (Option Nat) :=
  if p1 < 0 then
    some none
  else
    if (hpI σ 36 t) ≤ p1 then
      some none
    else
      (dn σ 18 (hpR σ 32 t)).bind fun a3 =>
      if p1 < (nI (hpL σ a3)) then
        (ix p1 (hpL σ a3)).bind fun j6 =>
        some (hpB σ a3 j6)
      else
        some none
def f_X1_spanAt (σ : St) (t : Nat) (p1 : Int32) : Option (Option Nat) :=
  if p1 < 0 then
    some none
  else
    if (hpI σ 39 t) ≤ p1 then
      some none
    else
      (dn σ 15 (hpR σ 33 t)).bind fun a3 =>
      if p1 < (nI (hpL σ a3)) then
        (ix p1 (hpL σ a3)).bind fun j6 =>
        some (hpB σ a3 j6)
      else
        some none
def f_X1_stanzaAt (σ : St) (t : Nat) (p1 : Int32) : Option (Option Nat) :=
  if p1 < 0 then
    some none
  else
    if (hpI σ 37 t) ≤ p1 then
      some none
    else
      (dn σ 19 (hpR σ 34 t)).bind fun a3 =>
      if p1 < (nI (hpL σ a3)) then
        (ix p1 (hpL σ a3)).bind fun j6 =>
        some (hpB σ a3 j6)
      else
        some none
def f_X1_pageAt (σ : St) (t : Nat) (p1 : Int32) : Option (Option Nat) :=
  if p1 < 0 then
    some none
  else
    if (hpI σ 38 t) ≤ p1 then
      some none
    else
      (dn σ 16 (hpR σ 35 t)).bind fun a3 =>
      if p1 < (nI (hpL σ a3)) then
        (ix p1 (hpL σ a3)).bind fun j6 =>
        some (hpB σ a3 j6)
      else
        some none
def LX1_rowAtPlace_5 : Nat → (St) → (Nat) → (Option Nat) → (Int32) → (Int32) → Option ((Option Nat) ⊕ (Unit))
  | 0, _, _, _, _, _ => none
  | n + 1, σ, t, l1, l2, v3 =>
    (dn σ 4 l1).bind fun a5 =>
    if ((hpI σ 128 a5) + (hpI σ 129 a5)) ≤ v3 then
      some (.inr ())
    else
      (f_X1_rowAt σ t v3).bind fun q8 =>
      sb (if q8 = none then
        some (.inr ())
      else
        (dn σ 6 q8).bind fun a12 =>
        if ¬ (hpI σ 195 a12) = l2 then
          some (.inr ())
        else
          some (.inl (.inl q8))) fun (wx10 : Unit) =>
      LX1_rowAtPlace_5 n σ t l1 l2 (v3 + 1)
def f_X1_rowAtPlace (σ : St) (t : Nat) (p1 : Option Nat) (p2 : Int32) : Option (Option Nat) :=
  (dn σ 4 p1).bind fun a1 =>
  sb (LX1_rowAtPlace_5 FU σ t p1 p2 (hpI σ 128 a1)) fun wx4 =>
  some none
def f_X1_runOvers (σ : St) (t : Nat) : Option (Int32) :=
  some ((hpI σ 36 t) - (hpI σ 39 t))
def f_X10_oneIf (σ : St) (p1 : Int32) : Option (Int32) :=
  if p1 = 0 then
    some 0
  else
    some 1
def LX1_cuts_4 : Nat → (St) → (Nat) → (Int32) → (Int32) → Option (Int32)
  | 0, _, _, _, _ => none
  | n + 1, σ, t, v1, v2 =>
    if (hpI σ 36 t) ≤ v2 then
      some v1
    else
      (f_X1_rowAt σ t v2).bind fun q4 =>
      (if q4 = none then
        some 0
      else
        (dn σ 6 q4).bind fun a8 =>
        if (hpI σ 200 a8) = 0 then
          some 0
        else
          some 1).bind fun (x6 : Int32) =>
      (f_X10_oneIf σ x6).bind fun q12 =>
      LX1_cuts_4 n σ t (v1 + q12) (v2 + 1)
def f_X1_cuts (σ : St) (t : Nat) : Option (Int32) :=
  (LX1_cuts_4 FU σ t 0 0).bind fun x2 =>
  some x2
def LX1_markedPages_4 : Nat → (St) → (Nat) → (Int32) → (Int32) → Option (Int32)
  | 0, _, _, _, _ => none
  | n + 1, σ, t, v1, v2 =>
    if (hpI σ 38 t) ≤ v2 then
      some v1
    else
      (f_X1_pageAt σ t v2).bind fun q4 =>
      (if q4 = none then
        some 0
      else
        (dn σ 4 q4).bind fun a8 =>
        if (hpI σ 132 a8) = 0 then
          some 0
        else
          some 1).bind fun (x6 : Int32) =>
      (f_X10_oneIf σ x6).bind fun q12 =>
      LX1_markedPages_4 n σ t (v1 + q12) (v2 + 1)
def f_X1_markedPages (σ : St) (t : Nat) : Option (Int32) :=
  (LX1_markedPages_4 FU σ t 0 0).bind fun x2 =>
  some x2
def f_X1_lastNumber (σ : St) (t : Nat) : Option (Int32) :=
  (f_X1_spanAt σ t ((hpI σ 39 t) - 1)).bind fun q1 =>
  if q1 = none then
    some 0
  else
    (dn σ 3 q1).bind fun a4 =>
    some (hpI σ 97 a4)
def f_X6_end (σ : St) (t : Nat) : Option (Int32) :=
  some ((hpI σ 196 t) + (hpI σ 198 t))
def f_X1_widthOf (σ : St) (t : Nat) (p1 : Int32) : Option (Int32) :=
  (f_X1_rowAt σ t p1).bind fun q1 =>
  if q1 = none then
    some 0
  else
    (dn σ 6 q1).bind fun a4 =>
    (f_X6_end σ a4).bind fun q6 =>
    some q6
def LX1_greatestWidth_5 : Nat → (St) → (Nat) → (Int32) → (Int32) → (Int32) → (Int32) → Option (Int32)
  | 0, _, _, _, _, _, _ => none
  | n + 1, σ, t, l1, l2, v3, v4 =>
    if (l1 + l2) ≤ v4 then
      some v3
    else
      (f_X1_widthOf σ t v4).bind fun q4 =>
      LX1_greatestWidth_5 n σ t l1 l2 (jmax v3 q4) (v4 + 1)
def f_X1_greatestWidth (σ : St) (t : Nat) (p1 : Int32) (p2 : Int32) : Option (Int32) :=
  (LX1_greatestWidth_5 FU σ t p1 p2 0 p1).bind fun x2 =>
  some x2
def f_X10_aim (σ : St) (p1 : Int32) (p2 : Int32) (p3 : Int32) (p4 : Int32) : Option (Int32) :=
  if 1 ≤ p4 then
    if p1 = 1 then
      (nz p4).bind fun w2 =>
      some ((p2 * (p3 + 1)) / p4)
    else if p1 = 2 then
      (nz (p4 + 1)).bind fun w4 =>
      some (jmin p2 (((2 * p2) * (jmin (p3 + 1) (p4 - p3))) / (p4 + 1)))
    else if p1 = 3 then
      (nz p4).bind fun w6 =>
      some ((p2 * (jmax (p3 + 1) (p4 - p3))) / p4)
    else 
      some p2
  else
    some 0
def LX1_distanceFrom_19 : Nat → (St) → (Nat) → (Int32) → (Option Nat) → (Int32) → (Int32) → (Int32) → Option (Int32)
  | 0, _, _, _, _, _, _, _ => none
  | n + 1, σ, t, l1, l2, l3, v4, v5 =>
    (dn σ 7 l2).bind fun a7 =>
    if (hpI σ 226 a7) ≤ v5 then
      some v4
    else
      (f_X1_widthOf σ t ((hpI σ 225 a7) + v5)).bind fun q10 =>
      (f_X10_aim σ l1 l3 v5 (hpI σ 226 a7)).bind fun q12 =>
      LX1_distanceFrom_19 n σ t l1 l2 l3 (v4 + (jabs (q10 - q12))) (v5 + 1)
def f_X1_distanceFrom (σ : St) (t : Nat) (p1 : Int32) (p2 : Option Nat) : Option (Int32) :=
  (dn σ 7 p2).bind fun a1 =>
  (f_X1_greatestWidth σ t (hpI σ 225 a1) (hpI σ 226 a1)).bind fun q3 =>
  (LX1_distanceFrom_19 FU σ t p1 p2 q3 0 0).bind fun x6 =>
  some x6
def f_X5_beginsStanza (σ : St) (t : Nat) (p1 : Int32) : Option (Int32) :=
  (f_X5_lineAt σ t (p1 - 1)).bind fun q1 =>
  if q1 = none then
    some 1
  else
    (dn σ 2 q1).bind fun a4 =>
    if (hpI σ 67 a4) = 0 then
      some 0
    else
      some 1
def f_X7_init (σ : St) (t : Nat) : Option (Unit) :=
  some ()
def f_X1_addStanza (σ : St) (t : Nat) (p1 : Int32) : Option (Option Nat × St) :=
  sb (if (hpI σ 37 t) < 0 then
    some (.inr ())
  else
    (dn σ 19 (hpR σ 34 t)).bind fun a3 =>
    if (hpI σ 37 t) < (nI (hpL σ a3)) then
      (ix (hpI σ 37 t) (hpL σ a3)).bind fun j6 =>
      (if (hpB σ a3 j6) = none then
        (nwO σ 7).bind fun σ10 =>
        (dn σ10 7 (some (hpN σ))).bind fun a12 =>
        (f_X7_init σ10 a12).bind fun q14 =>
        (dn σ10 1 (some t)).bind fun a16 =>
        (dn σ10 19 (hpR σ10 34 a16)).bind fun a18 =>
        (ix (hpI σ10 37 a16) (hpL σ10 a18)).bind fun j20 =>
        (dm σ10 7 (some (hpN σ))).bind fun w22 =>
        some ((some (hpN σ)), (stB σ10 a18 j20 (some (hpN σ))))
      else
        some ((hpB σ a3 j6), σ)).bind fun (x8 : (Option Nat) × St) =>
      (dn x8.2 1 (some t)).bind fun a25 =>
      (dn (stI x8.2 37 a25 ((hpI x8.2 37 a25) + 1)) 7 x8.1).bind fun a27 =>
      some (.inl (x8.1, (stI (stI (stI (stI x8.2 37 a25 ((hpI x8.2 37 a25) + 1)) 224 a27 p1) 225 a27 (hpI (stI (stI x8.2 37 a25 ((hpI x8.2 37 a25) + 1)) 224 a27 p1) 36 a25)) 226 a27 0)))
    else
      some (.inr ())) fun (wx1 : Unit) =>
  (nwO σ 7).bind fun σ29 =>
  (dn σ29 7 (some (hpN σ))).bind fun a31 =>
  (f_X7_init σ29 a31).bind fun q33 =>
  some ((some (hpN σ)), σ29)
def f_X1_lastStanza (σ : St) (t : Nat) (p1 : Int32) : Option (Option Nat × St) :=
  (f_X1_stanzaAt σ t ((hpI σ 37 t) - 1)).bind fun q1 =>
  if q1 = none then
    (f_X1_addStanza σ t p1).bind fun q4 =>
    some (q4.1, q4.2)
  else
    some (q1, σ)
def f_X3_init (σ : St) (t : Nat) : Option (Unit) :=
  some ()
def f_X1_addSpan (σ : St) (t : Nat) (p1 : Option Nat) (p2 : Int32) : Option (Option Nat × St) :=
  (f_X1_lastNumber σ t).bind fun q1 =>
  sb (if (hpI σ 39 t) < 0 then
    some (.inr ())
  else
    (dn σ 15 (hpR σ 33 t)).bind fun a5 =>
    if (hpI σ 39 t) < (nI (hpL σ a5)) then
      (ix (hpI σ 39 t) (hpL σ a5)).bind fun j8 =>
      (if (hpB σ a5 j8) = none then
        (nwO σ 3).bind fun σ12 =>
        (dn σ12 3 (some (hpN σ))).bind fun a14 =>
        (f_X3_init σ12 a14).bind fun q16 =>
        (dn σ12 1 (some t)).bind fun a18 =>
        (dn σ12 15 (hpR σ12 33 a18)).bind fun a20 =>
        (ix (hpI σ12 39 a18) (hpL σ12 a20)).bind fun j22 =>
        (dm σ12 3 (some (hpN σ))).bind fun w24 =>
        some ((some (hpN σ)), (stB σ12 a20 j22 (some (hpN σ))))
      else
        some ((hpB σ a5 j8), σ)).bind fun (x10 : (Option Nat) × St) =>
      (dn x10.2 1 (some t)).bind fun a27 =>
      (dn (stI x10.2 39 a27 ((hpI x10.2 39 a27) + 1)) 2 p1).bind fun a29 =>
      (if (hpI (stI x10.2 39 a27 ((hpI x10.2 39 a27) + 1)) 66 a29) = 0 then
        some 0
      else
        if p2 = 0 then
          some 0
        else
          some 1).bind fun (x31 : Int32) =>
      (dn (stI x10.2 39 a27 ((hpI x10.2 39 a27) + 1)) 3 x10.1).bind fun a34 =>
      (gz x31).bind fun z36 =>
      (if (hpI (stI (stI x10.2 39 a27 ((hpI x10.2 39 a27) + 1)) 96 a34 x31) 96 a34) = 0 then
        some (q1 + 1)
      else
        some q1).bind fun (x38 : Int32) =>
      some (.inl (x10.1, (stI (stI (stI (stI (stI x10.2 39 a27 ((hpI x10.2 39 a27) + 1)) 96 a34 x31) 97 a34 x38) 98 a34 ((hpI (stI (stI (stI x10.2 39 a27 ((hpI x10.2 39 a27) + 1)) 96 a34 x31) 97 a34 x38) 37 a27) - 1)) 99 a34 (hpI (stI (stI (stI (stI x10.2 39 a27 ((hpI x10.2 39 a27) + 1)) 96 a34 x31) 97 a34 x38) 98 a34 ((hpI (stI (stI (stI x10.2 39 a27 ((hpI x10.2 39 a27) + 1)) 96 a34 x31) 97 a34 x38) 37 a27) - 1)) 36 a27))))
    else
      some (.inr ())) fun (wx3 : Unit) =>
  (nwO σ 3).bind fun σ40 =>
  (dn σ40 3 (some (hpN σ))).bind fun a42 =>
  (f_X3_init σ40 a42).bind fun q44 =>
  some ((some (hpN σ)), σ40)
def f_X6_init (σ : St) (t : Nat) : Option (Unit) :=
  some ()
def f_X1_addRow (σ : St) (t : Nat) (p1 : Int32) (p2 : Int32) (p3 : Int32) : Option (Option Nat × St) :=
  (f_X1_rowAt σ t ((hpI σ 36 t) - 1)).bind fun q1 =>
  (if q1 = none then
    some 0
  else
    (dn σ 6 q1).bind fun a5 =>
    if ¬ (hpI σ 192 a5) = p1 then
      some 0
    else
      some ((hpI σ 193 a5) + 1)).bind fun (x3 : Int32) =>
  sb (if (hpI σ 36 t) < 0 then
    some (.inr ())
  else
    (dn σ 18 (hpR σ 32 t)).bind fun a11 =>
    if (hpI σ 36 t) < (nI (hpL σ a11)) then
      (ix (hpI σ 36 t) (hpL σ a11)).bind fun j14 =>
      (if (hpB σ a11 j14) = none then
        (nwO σ 6).bind fun σ18 =>
        (dn σ18 6 (some (hpN σ))).bind fun a20 =>
        (f_X6_init σ18 a20).bind fun q22 =>
        (dn σ18 1 (some t)).bind fun a24 =>
        (dn σ18 18 (hpR σ18 32 a24)).bind fun a26 =>
        (ix (hpI σ18 36 a24) (hpL σ18 a26)).bind fun j28 =>
        (dm σ18 6 (some (hpN σ))).bind fun w30 =>
        some ((some (hpN σ)), (stB σ18 a26 j28 (some (hpN σ))))
      else
        some ((hpB σ a11 j14), σ)).bind fun (x16 : (Option Nat) × St) =>
      (dn x16.2 1 (some t)).bind fun a33 =>
      (dn (stI x16.2 36 a33 ((hpI x16.2 36 a33) + 1)) 6 x16.1).bind fun a35 =>
      some (.inl (x16.1, (stI (stI (stI (stI (stI (stI (stI (stI x16.2 36 a33 ((hpI x16.2 36 a33) + 1)) 192 a35 p1) 193 a35 x3) 196 a35 p2) 197 a35 p3) 198 a35 0) 199 a35 0) 200 a35 0)))
    else
      some (.inr ())) fun (wx9 : Unit) =>
  (nwO σ 6).bind fun σ37 =>
  (dn σ37 6 (some (hpN σ))).bind fun a39 =>
  (f_X6_init σ37 a39).bind fun q41 =>
  some ((some (hpN σ)), σ37)
def f_X1_addFirstRow (σ : St) (t : Nat) (p1 : Option Nat) (p2 : Int32) (p3 : Option Nat) (p4 : Option Nat) (p5 : Int32) : Option (Option Nat × St) :=
  (dn σ 3 p3).bind fun a1 =>
  (if (hpI σ 96 a1) = 0 then
    (dn σ 2 p1).bind fun a5 =>
    (dn σ 5 p4).bind fun a7 =>
    (f_X5_setting σ a7 2).bind fun q9 =>
    some ((hpI σ 65 a5) * q9)
  else
    (f_X1_widthOf σ t ((hpI σ 36 t) - 1)).bind fun q11 =>
    some (q11 + 1)).bind fun (x3 : Int32) =>
  (f_X1_addRow σ t p2 (jmin x3 (p5 - 6)) 0).bind fun q13 =>
  (dn q13.2 3 p3).bind fun a15 =>
  (if ¬ (hpI q13.2 96 a15) = 0 then
    some 0
  else
    (nz 5).bind fun w19 =>
    if ¬ ((hpI q13.2 97 a15) - (hpI q13.2 97 a15) / 5 * 5) = 0 then
      some 0
    else
      some (hpI q13.2 97 a15)).bind fun (x17 : Int32) =>
  (dn q13.2 6 q13.1).bind fun a22 =>
  some (q13.1, (stI q13.2 199 a22 x17))
def f_X9_lengthOf (σ : St) (t : Nat) (p1 : Int32) : Option (Int32) :=
  (f_X10_element σ (hpR σ 289 t) p1).bind fun q1 =>
  some q1
def LX1_putWord_9 : Nat → (Nat) → (Int32) → (Int32) → (Option Nat) → (Int32) → (Int32) → (St) → Option ((Option Nat) × Int32 × St)
  | 0, _, _, _, _, _, _, _ => none
  | n + 1, t, l3, l4, v5, v6, v7, τ =>
    if 16 ≤ v7 then
      some (v5, v6, τ)
    else
      (dn τ 6 v5).bind fun a4 =>
      if v6 ≤ (l4 - (hpI τ 196 a4)) then
        some (v5, v6, τ)
      else
        (dn (stI τ 198 a4 (l4 - (hpI τ 196 a4))) 1 (some t)).bind fun a7 =>
        (f_X1_addRow (stI τ 198 a4 (l4 - (hpI τ 196 a4))) a7 (hpI (stI τ 198 a4 (l4 - (hpI τ 196 a4))) 192 a4) l3 ((hpI (stI τ 198 a4 (l4 - (hpI τ 196 a4))) 197 a4) + (hpI (stI τ 198 a4 (l4 - (hpI τ 196 a4))) 198 a4))).bind fun q9 =>
        (dn q9.2 6 q9.1).bind fun a11 =>
        LX1_putWord_9 n t l3 l4 q9.1 (v6 - (hpI (stI τ 198 a4 (l4 - (hpI τ 196 a4))) 198 a4)) (v7 + 1) (stI q9.2 200 a11 1)
def f_X1_putWord (σ : St) (t : Nat) (p1 : Int32) (p2 : Option Nat) (p3 : Int32) (p4 : Int32) : Option (Option Nat × St) :=
  (LX1_putWord_9 FU t p3 p4 p2 p1 0 σ).bind fun x2 =>
  (dn x2.2.2 6 x2.1).bind fun a13 =>
  some (x2.1, (stI x2.2.2 198 a13 x2.2.1))
def LX1_putWords_9 : Nat → (Nat) → (Option Nat) → (Int32) → (Int32) → (Option Nat) → (Int32) → (Int32) → (St) → Option (St)
  | 0, _, _, _, _, _, _, _, _ => none
  | n + 1, t, l1, l3, l4, v5, v6, v7, τ =>
    (dn τ 9 l1).bind fun a3 =>
    if (hpI τ 291 a3) ≤ v7 then
      some τ
    else
      (f_X9_lengthOf τ a3 v7).bind fun q6 =>
      (dn τ 6 v5).bind fun a8 =>
      (if (hpI τ 198 a8) ≤ 0 then
        (if (hpI τ 198 a8) ≤ 0 then
          some (v5, τ)
        else
          (dn τ 1 (some t)).bind fun a14 =>
          (f_X1_addRow τ a14 (hpI τ 192 a8) l3 v6).bind fun q16 =>
          some (q16.1, q16.2)).bind fun (x12 : (Option Nat) × St) =>
        (dn x12.2 1 (some t)).bind fun a18 =>
        (f_X1_putWord x12.2 a18 q6 x12.1 l3 l4).bind fun q20 =>
        some (q20.1, q20.2)
      else
        (f_X6_end τ a8).bind fun q22 =>
        if l4 < ((q22 + 1) + q6) then
          (if (hpI τ 198 a8) ≤ 0 then
            some (v5, τ)
          else
            (dn τ 1 (some t)).bind fun a27 =>
            (f_X1_addRow τ a27 (hpI τ 192 a8) l3 v6).bind fun q29 =>
            some (q29.1, q29.2)).bind fun (x25 : (Option Nat) × St) =>
          (dn x25.2 1 (some t)).bind fun a31 =>
          (f_X1_putWord x25.2 a31 q6 x25.1 l3 l4).bind fun q33 =>
          some (q33.1, q33.2)
        else
          some (v5, (stI τ 198 a8 ((hpI τ 198 a8) + (1 + q6))))).bind fun (x10 : (Option Nat) × St) =>
      LX1_putWords_9 n t l1 l3 l4 x10.1 (v6 + (q6 + 1)) (v7 + 1) x10.2
def f_X1_putWords (σ : St) (t : Nat) (p1 : Option Nat) (p2 : Option Nat) (p3 : Int32) (p4 : Int32) : Option (St) :=
  (LX1_putWords_9 FU t p1 p3 p4 p2 0 0 σ).bind fun x2 =>
  some x2
def LX1_breakLines_17 : Nat → (Nat) → (Option Nat) → (Int32) → (Int32) → (St) → Option (St)
  | 0, _, _, _, _, _ => none
  | n + 1, t, l1, l2, v3, τ =>
    (dn τ 5 l1).bind fun a3 =>
    if (hpI τ 162 a3) ≤ v3 then
      some τ
    else
      (f_X5_lineAt τ a3 v3).bind fun q6 =>
      (if q6 = none then
        some τ
      else
        (f_X5_beginsStanza τ a3 v3).bind fun q10 =>
        (if q10 = 0 then
          (dn τ 1 (some t)).bind fun a14 =>
          (f_X1_lastStanza τ a14 v3).bind fun q16 =>
          some (q16.1, q16.2)
        else
          (dn τ 1 (some t)).bind fun a18 =>
          (f_X1_addStanza τ a18 v3).bind fun q20 =>
          some (q20.1, q20.2)).bind fun (x12 : (Option Nat) × St) =>
        (dn x12.2 7 x12.1).bind fun a22 =>
        (if v3 ≤ (hpI x12.2 224 a22) then
          some 0
        else
          some 1).bind fun (x24 : Int32) =>
        (dn x12.2 1 (some t)).bind fun a26 =>
        (f_X1_addSpan x12.2 a26 q6 x24).bind fun q28 =>
        (dn q28.2 1 (some t)).bind fun a30 =>
        (f_X1_addFirstRow q28.2 a30 q6 v3 q28.1 l1 l2).bind fun q32 =>
        (dn q32.2 2 q6).bind fun a34 =>
        (dn q32.2 5 l1).bind fun a36 =>
        (f_X5_setting q32.2 a36 2).bind fun q38 =>
        (f_X5_setting q32.2 a36 3).bind fun q40 =>
        (dn q32.2 1 (some t)).bind fun a42 =>
        (f_X1_putWords q32.2 a42 (hpR q32.2 64 a34) q32.1 (jmin (((hpI q32.2 65 a34) * q38) + q40) (l2 - 6)) l2).bind fun q44 =>
        (dn q44 1 (some t)).bind fun a46 =>
        (dn q44 3 q28.1).bind fun a48 =>
        (dn (stI q44 100 a48 ((hpI q44 36 a46) - (hpI q44 99 a48))) 7 x12.1).bind fun a50 =>
        some (stI (stI q44 100 a48 ((hpI q44 36 a46) - (hpI q44 99 a48))) 226 a50 ((hpI (stI q44 100 a48 ((hpI q44 36 a46) - (hpI q44 99 a48))) 226 a50) + (hpI (stI q44 100 a48 ((hpI q44 36 a46) - (hpI q44 99 a48))) 100 a48)))).bind fun (x8 : St) =>
      LX1_breakLines_17 n t l1 l2 (v3 + 1) x8
def f_X1_breakLines (σ : St) (t : Nat) (p1 : Option Nat) (p2 : Int32) : Option (St) :=
  (LX1_breakLines_17 FU t p1 p2 0 (stI (stI (stI σ 36 t 0) 39 t 0) 37 t 0)).bind fun x2 =>
  some x2
def f_X1_closePage (σ : St) (t : Nat) (p1 : Int32) : Option (St) :=
  some (stI σ 40 t p1)
def f_X1_passOver (σ : St) (t : Nat) (p1 : Option Nat) (p2 : Int32) (p3 : Int32) : Option (St) :=
  (dn σ 7 p1).bind fun a1 =>
  (f_X1_spanAt σ t (hpI σ 224 a1)).bind fun q3 =>
  if (hpI σ 38 t) = 0 then
    some σ
  else
    if q3 = none then
      some σ
    else
      (if p3 < (hpI σ 226 a1) then
        some 0
      else
        if p2 < (hpI σ 226 a1) then
          some 0
        else
          some 1).bind fun (x7 : Int32) =>
      (dn σ 3 q3).bind fun a10 =>
      sb (if ((p2 - (hpI σ 40 t)) - 1) < (hpI σ 100 a10) then
        some (.inr ())
      else
        if x7 = 0 then
          some (.inl (stI σ 40 t ((hpI σ 40 t) + 1)))
        else
          if (hpI σ 226 a1) ≤ ((p2 - (hpI σ 40 t)) - 1) then
            some (.inl (stI σ 40 t ((hpI σ 40 t) + 1)))
          else
            some (.inr ())) fun (wx12 : Unit) =>
      (f_X1_closePage σ t p2).bind fun q16 =>
      some q16
def f_X4_init (σ : St) (t : Nat) : Option (Unit) :=
  some ()
def f_X1_addPage (σ : St) (t : Nat) (p1 : Int32) : Option (Option Nat × St) :=
  sb (if (hpI σ 38 t) < 0 then
    some (.inr ())
  else
    (dn σ 16 (hpR σ 35 t)).bind fun a3 =>
    if (hpI σ 38 t) < (nI (hpL σ a3)) then
      (ix (hpI σ 38 t) (hpL σ a3)).bind fun j6 =>
      (if (hpB σ a3 j6) = none then
        (nwO σ 4).bind fun σ10 =>
        (dn σ10 4 (some (hpN σ))).bind fun a12 =>
        (f_X4_init σ10 a12).bind fun q14 =>
        (dn σ10 1 (some t)).bind fun a16 =>
        (dn σ10 16 (hpR σ10 35 a16)).bind fun a18 =>
        (ix (hpI σ10 38 a16) (hpL σ10 a18)).bind fun j20 =>
        (dm σ10 4 (some (hpN σ))).bind fun w22 =>
        some ((some (hpN σ)), (stB σ10 a18 j20 (some (hpN σ))))
      else
        some ((hpB σ a3 j6), σ)).bind fun (x8 : (Option Nat) × St) =>
      (dn x8.2 1 (some t)).bind fun a25 =>
      (dn (stI x8.2 38 a25 ((hpI x8.2 38 a25) + 1)) 4 x8.1).bind fun a27 =>
      some (.inl (x8.1, (stI (stI (stI (stI (stI (stI x8.2 38 a25 ((hpI x8.2 38 a25) + 1)) 128 a27 p1) 129 a27 0) 130 a27 0) 131 a27 0) 132 a27 0)))
    else
      some (.inr ())) fun (wx1 : Unit) =>
  (nwO σ 4).bind fun σ29 =>
  (dn σ29 4 (some (hpN σ))).bind fun a31 =>
  (f_X4_init σ29 a31).bind fun q33 =>
  some ((some (hpN σ)), σ29)
def f_X1_putRow (σ : St) (t : Nat) (p1 : Option Nat) (p2 : Int32) (p3 : Int32) : Option (St) :=
  (if p3 ≤ (hpI σ 40 t) then
    some none
  else
    (f_X1_pageAt σ t ((hpI σ 38 t) - 1)).bind fun q3 =>
    some q3).bind fun (x1 : (Option Nat)) =>
  (if x1 = none then
    (f_X1_addPage σ t p2).bind fun q7 =>
    (dn q7.2 1 (some t)).bind fun a9 =>
    some (q7.1, (stI q7.2 40 a9 0))
  else
    some (x1, σ)).bind fun (x5 : (Option Nat) × St) =>
  (dn x5.2 1 (some t)).bind fun a12 =>
  (dn x5.2 6 p1).bind fun a14 =>
  (dn (stI (stI (stI x5.2 194 a14 ((hpI x5.2 38 a12) - 1)) 195 a14 (hpI (stI x5.2 194 a14 ((hpI x5.2 38 a12) - 1)) 40 a12)) 40 a12 ((hpI (stI (stI x5.2 194 a14 ((hpI x5.2 38 a12) - 1)) 195 a14 (hpI (stI x5.2 194 a14 ((hpI x5.2 38 a12) - 1)) 40 a12)) 40 a12) + 1)) 4 x5.1).bind fun a16 =>
  (if ¬ (hpI (stI (stI (stI (stI (stI x5.2 194 a14 ((hpI x5.2 38 a12) - 1)) 195 a14 (hpI (stI x5.2 194 a14 ((hpI x5.2 38 a12) - 1)) 40 a12)) 40 a12 ((hpI (stI (stI x5.2 194 a14 ((hpI x5.2 38 a12) - 1)) 195 a14 (hpI (stI x5.2 194 a14 ((hpI x5.2 38 a12) - 1)) 40 a12)) 40 a12) + 1)) 129 a16 ((hpI (stI (stI (stI x5.2 194 a14 ((hpI x5.2 38 a12) - 1)) 195 a14 (hpI (stI x5.2 194 a14 ((hpI x5.2 38 a12) - 1)) 40 a12)) 40 a12 ((hpI (stI (stI x5.2 194 a14 ((hpI x5.2 38 a12) - 1)) 195 a14 (hpI (stI x5.2 194 a14 ((hpI x5.2 38 a12) - 1)) 40 a12)) 40 a12) + 1)) 129 a16) + 1)) 130 a16 (hpI (stI (stI (stI (stI x5.2 194 a14 ((hpI x5.2 38 a12) - 1)) 195 a14 (hpI (stI x5.2 194 a14 ((hpI x5.2 38 a12) - 1)) 40 a12)) 40 a12 ((hpI (stI (stI x5.2 194 a14 ((hpI x5.2 38 a12) - 1)) 195 a14 (hpI (stI x5.2 194 a14 ((hpI x5.2 38 a12) - 1)) 40 a12)) 40 a12) + 1)) 129 a16 ((hpI (stI (stI (stI x5.2 194 a14 ((hpI x5.2 38 a12) - 1)) 195 a14 (hpI (stI x5.2 194 a14 ((hpI x5.2 38 a12) - 1)) 40 a12)) 40 a12 ((hpI (stI (stI x5.2 194 a14 ((hpI x5.2 38 a12) - 1)) 195 a14 (hpI (stI x5.2 194 a14 ((hpI x5.2 38 a12) - 1)) 40 a12)) 40 a12) + 1)) 129 a16) + 1)) 40 a12)) 193 a14) = 0 then
    some 0
  else
    some 1).bind fun (x18 : Int32) =>
  (f_X10_oneIf (stI (stI (stI (stI (stI x5.2 194 a14 ((hpI x5.2 38 a12) - 1)) 195 a14 (hpI (stI x5.2 194 a14 ((hpI x5.2 38 a12) - 1)) 40 a12)) 40 a12 ((hpI (stI (stI x5.2 194 a14 ((hpI x5.2 38 a12) - 1)) 195 a14 (hpI (stI x5.2 194 a14 ((hpI x5.2 38 a12) - 1)) 40 a12)) 40 a12) + 1)) 129 a16 ((hpI (stI (stI (stI x5.2 194 a14 ((hpI x5.2 38 a12) - 1)) 195 a14 (hpI (stI x5.2 194 a14 ((hpI x5.2 38 a12) - 1)) 40 a12)) 40 a12 ((hpI (stI (stI x5.2 194 a14 ((hpI x5.2 38 a12) - 1)) 195 a14 (hpI (stI x5.2 194 a14 ((hpI x5.2 38 a12) - 1)) 40 a12)) 40 a12) + 1)) 129 a16) + 1)) 130 a16 (hpI (stI (stI (stI (stI x5.2 194 a14 ((hpI x5.2 38 a12) - 1)) 195 a14 (hpI (stI x5.2 194 a14 ((hpI x5.2 38 a12) - 1)) 40 a12)) 40 a12 ((hpI (stI (stI x5.2 194 a14 ((hpI x5.2 38 a12) - 1)) 195 a14 (hpI (stI x5.2 194 a14 ((hpI x5.2 38 a12) - 1)) 40 a12)) 40 a12) + 1)) 129 a16 ((hpI (stI (stI (stI x5.2 194 a14 ((hpI x5.2 38 a12) - 1)) 195 a14 (hpI (stI x5.2 194 a14 ((hpI x5.2 38 a12) - 1)) 40 a12)) 40 a12 ((hpI (stI (stI x5.2 194 a14 ((hpI x5.2 38 a12) - 1)) 195 a14 (hpI (stI x5.2 194 a14 ((hpI x5.2 38 a12) - 1)) 40 a12)) 40 a12) + 1)) 129 a16) + 1)) 40 a12)) x18).bind fun q20 =>
  some (stI (stI (stI (stI (stI (stI x5.2 194 a14 ((hpI x5.2 38 a12) - 1)) 195 a14 (hpI (stI x5.2 194 a14 ((hpI x5.2 38 a12) - 1)) 40 a12)) 40 a12 ((hpI (stI (stI x5.2 194 a14 ((hpI x5.2 38 a12) - 1)) 195 a14 (hpI (stI x5.2 194 a14 ((hpI x5.2 38 a12) - 1)) 40 a12)) 40 a12) + 1)) 129 a16 ((hpI (stI (stI (stI x5.2 194 a14 ((hpI x5.2 38 a12) - 1)) 195 a14 (hpI (stI x5.2 194 a14 ((hpI x5.2 38 a12) - 1)) 40 a12)) 40 a12 ((hpI (stI (stI x5.2 194 a14 ((hpI x5.2 38 a12) - 1)) 195 a14 (hpI (stI x5.2 194 a14 ((hpI x5.2 38 a12) - 1)) 40 a12)) 40 a12) + 1)) 129 a16) + 1)) 130 a16 (hpI (stI (stI (stI (stI x5.2 194 a14 ((hpI x5.2 38 a12) - 1)) 195 a14 (hpI (stI x5.2 194 a14 ((hpI x5.2 38 a12) - 1)) 40 a12)) 40 a12 ((hpI (stI (stI x5.2 194 a14 ((hpI x5.2 38 a12) - 1)) 195 a14 (hpI (stI x5.2 194 a14 ((hpI x5.2 38 a12) - 1)) 40 a12)) 40 a12) + 1)) 129 a16 ((hpI (stI (stI (stI x5.2 194 a14 ((hpI x5.2 38 a12) - 1)) 195 a14 (hpI (stI x5.2 194 a14 ((hpI x5.2 38 a12) - 1)) 40 a12)) 40 a12 ((hpI (stI (stI x5.2 194 a14 ((hpI x5.2 38 a12) - 1)) 195 a14 (hpI (stI x5.2 194 a14 ((hpI x5.2 38 a12) - 1)) 40 a12)) 40 a12) + 1)) 129 a16) + 1)) 40 a12)) 131 a16 ((hpI (stI (stI (stI (stI (stI x5.2 194 a14 ((hpI x5.2 38 a12) - 1)) 195 a14 (hpI (stI x5.2 194 a14 ((hpI x5.2 38 a12) - 1)) 40 a12)) 40 a12 ((hpI (stI (stI x5.2 194 a14 ((hpI x5.2 38 a12) - 1)) 195 a14 (hpI (stI x5.2 194 a14 ((hpI x5.2 38 a12) - 1)) 40 a12)) 40 a12) + 1)) 129 a16 ((hpI (stI (stI (stI x5.2 194 a14 ((hpI x5.2 38 a12) - 1)) 195 a14 (hpI (stI x5.2 194 a14 ((hpI x5.2 38 a12) - 1)) 40 a12)) 40 a12 ((hpI (stI (stI x5.2 194 a14 ((hpI x5.2 38 a12) - 1)) 195 a14 (hpI (stI x5.2 194 a14 ((hpI x5.2 38 a12) - 1)) 40 a12)) 40 a12) + 1)) 129 a16) + 1)) 130 a16 (hpI (stI (stI (stI (stI x5.2 194 a14 ((hpI x5.2 38 a12) - 1)) 195 a14 (hpI (stI x5.2 194 a14 ((hpI x5.2 38 a12) - 1)) 40 a12)) 40 a12 ((hpI (stI (stI x5.2 194 a14 ((hpI x5.2 38 a12) - 1)) 195 a14 (hpI (stI x5.2 194 a14 ((hpI x5.2 38 a12) - 1)) 40 a12)) 40 a12) + 1)) 129 a16 ((hpI (stI (stI (stI x5.2 194 a14 ((hpI x5.2 38 a12) - 1)) 195 a14 (hpI (stI x5.2 194 a14 ((hpI x5.2 38 a12) - 1)) 40 a12)) 40 a12 ((hpI (stI (stI x5.2 194 a14 ((hpI x5.2 38 a12) - 1)) 195 a14 (hpI (stI x5.2 194 a14 ((hpI x5.2 38 a12) - 1)) 40 a12)) 40 a12) + 1)) 129 a16) + 1)) 40 a12)) 131 a16) + q20))
def LX1_putStanza_5 : Nat → (Nat) → (Option Nat) → (Int32) → (Int32) → (St) → Option (St)
  | 0, _, _, _, _, _ => none
  | n + 1, t, l1, l2, v3, τ =>
    (dn τ 7 l1).bind fun a5 =>
    if ((hpI τ 225 a5) + (hpI τ 226 a5)) ≤ v3 then
      some τ
    else
      (dn τ 1 (some t)).bind fun a8 =>
      (f_X1_rowAt τ a8 v3).bind fun q10 =>
      (if q10 = none then
        some none
      else
        (dn τ 6 q10).bind fun a14 =>
        (f_X1_spanAt τ a8 (hpI τ 192 a14)).bind fun q16 =>
        some q16).bind fun (x12 : (Option Nat)) =>
      (if x12 = none then
        some τ
      else
        (dn τ 6 q10).bind fun a21 =>
        (if ¬ (hpI τ 193 a21) = 0 then
          some 0
        else
          if v3 ≤ (hpI τ 225 a5) then
            some 0
          else
            some 1).bind fun (x23 : Int32) =>
        (if x23 = 0 then
          some τ
        else
          (dn τ 3 x12).bind fun a28 =>
          if (hpI τ 100 a28) ≤ (l2 - (hpI τ 40 a8)) then
            some τ
          else
            (f_X1_closePage τ a8 l2).bind fun q31 =>
            some q31).bind fun (x26 : St) =>
        (dn x26 1 (some t)).bind fun a33 =>
        (f_X1_putRow x26 a33 q10 v3 l2).bind fun q35 =>
        some q35).bind fun (x19 : St) =>
      LX1_putStanza_5 n t l1 l2 (v3 + 1) x19
def f_X1_putStanza (σ : St) (t : Nat) (p1 : Option Nat) (p2 : Int32) : Option (St) :=
  (dn σ 7 p1).bind fun a1 =>
  (LX1_putStanza_5 FU t p1 p2 (hpI σ 225 a1) σ).bind fun x4 =>
  some x4
def f_X1_beginsWithStanza (σ : St) (t : Nat) (p1 : Option Nat) : Option (Int32) :=
  if p1 = none then
    some 0
  else
    (dn σ 4 p1).bind fun a2 =>
    (f_X1_rowAt σ t (hpI σ 128 a2)).bind fun q4 =>
    (if q4 = none then
      some none
    else
      (dn σ 6 q4).bind fun a8 =>
      (f_X1_spanAt σ t (hpI σ 192 a8)).bind fun q10 =>
      some q10).bind fun (x6 : (Option Nat)) =>
    (if x6 = none then
      some none
    else
      (dn σ 3 x6).bind fun a15 =>
      (f_X1_stanzaAt σ t (hpI σ 98 a15)).bind fun q17 =>
      some q17).bind fun (x13 : (Option Nat)) =>
    if x13 = none then
      some 0
    else
      (dn σ 7 x13).bind fun a21 =>
      if ¬ (hpI σ 225 a21) = (hpI σ 128 a2) then
        some 0
      else
        some 1
def LX1_putOnPages_12 : Nat → (Nat) → (Int32) → (Int32) → (Int32) → (St) → Option (St)
  | 0, _, _, _, _, _ => none
  | n + 1, t, l1, l2, v3, τ =>
    (dn τ 1 (some t)).bind fun a3 =>
    if (hpI τ 37 a3) ≤ v3 then
      some τ
    else
      (f_X1_stanzaAt τ a3 v3).bind fun q6 =>
      (if q6 = none then
        some τ
      else
        (f_X1_passOver τ a3 q6 l1 l2).bind fun q10 =>
        (dn q10 1 (some t)).bind fun a12 =>
        (f_X1_putStanza q10 a12 q6 l1).bind fun q14 =>
        some q14).bind fun (x8 : St) =>
      LX1_putOnPages_12 n t l1 l2 (v3 + 1) x8
def LX1_putOnPages_55 : Nat → (Nat) → (Int32) → (St) → Option (St)
  | 0, _, _, _ => none
  | n + 1, t, v3, τ =>
    (dn τ 1 (some t)).bind fun a19 =>
    if (hpI τ 38 a19) ≤ v3 then
      some τ
    else
      (f_X1_pageAt τ a19 v3).bind fun q22 =>
      (if q22 = none then
        some τ
      else
        (f_X1_pageAt τ a19 (v3 + 1)).bind fun q26 =>
        (f_X1_beginsWithStanza τ a19 q26).bind fun q28 =>
        (dn τ 4 q22).bind fun a30 =>
        (gz q28).bind fun z32 =>
        some (stI τ 132 a30 q28)).bind fun (x24 : St) =>
      LX1_putOnPages_55 n t (v3 + 1) x24
def f_X1_putOnPages (σ : St) (t : Nat) (p1 : Int32) (p2 : Int32) : Option (St) :=
  (LX1_putOnPages_12 FU t p1 p2 0 (stI (stI σ 38 t 0) 40 t 0)).bind fun x2 =>
  (LX1_putOnPages_55 FU t 0 x2).bind fun x18 =>
  some x18
def f_X2_init (σ : St) (t : Nat) (p1 : Option Nat) (p2 : Int32) (p3 : Int32) (p4 : Int32) : Option (St) :=
  (gz p3).bind fun z1 =>
  (gz p4).bind fun z3 =>
  some (stI (stI (stI (stR σ 64 t p1) 65 t p2) 66 t p3) 67 t p4)
def f_X5_changeSetting (σ : St) (t : Nat) (p1 : Int32) (p2 : Int32) : Option (St) :=
  if p1 < 0 then
    some σ
  else
    (dnA σ (hpR σ 161 t)).bind fun a2 =>
    if (nI (hpL σ a2)) ≤ p1 then
      some σ
    else
      (dn σ 13 (hpR σ 161 t)).bind fun a5 =>
      (ix p1 (hpL σ a5)).bind fun j7 =>
      some (stA σ a5 j7 p2)
def f_X5_exchange (σ : St) (t : Nat) (p1 : Int32) (p2 : Option Nat) : Option (St) :=
  if p1 < 0 then
    some σ
  else
    if (hpI σ 162 t) ≤ p1 then
      some σ
    else
      (dn σ 14 (hpR σ 160 t)).bind fun a3 =>
      if (nI (hpL σ a3)) ≤ p1 then
        some σ
      else
        (ix p1 (hpL σ a3)).bind fun j6 =>
        (dm σ 2 p2).bind fun w8 =>
        some (stB σ a3 j6 p2)
def LX5_putIn_37 : Nat → (Nat) → (Int32) → (Option Nat) → (Int32) → (St) → Option (St)
  | 0, _, _, _, _, _ => none
  | n + 1, t, l1, l2, v3, τ =>
    if v3 ≤ l1 then
      some τ
    else
      (dn τ 5 (some t)).bind fun a10 =>
      (dn τ 14 (hpR τ 160 a10)).bind fun a12 =>
      (ix (v3 - 1) (hpL τ a12)).bind fun j14 =>
      (ix v3 (hpL τ a12)).bind fun j16 =>
      (dm τ 2 (hpB τ a12 j14)).bind fun w18 =>
      LX5_putIn_37 n t l1 l2 (v3 + (-1)) (stB τ a12 j16 (hpB τ a12 j14))
def f_X5_putIn (σ : St) (t : Nat) (p1 : Int32) (p2 : Option Nat) : Option (St) :=
  if p1 < 0 then
    some σ
  else
    if (hpI σ 162 t) < p1 then
      some σ
    else
      if (hpI σ 162 t) < 0 then
        some σ
      else
        (dn σ 14 (hpR σ 160 t)).bind fun a4 =>
        if (hpI σ 162 t) < (nI (hpL σ a4)) then
          (LX5_putIn_37 FU t p1 p2 (hpI σ 162 t) σ).bind fun x8 =>
          (dn x8 5 (some t)).bind fun a20 =>
          (dn x8 14 (hpR x8 160 a20)).bind fun a22 =>
          (ix p1 (hpL x8 a22)).bind fun j24 =>
          (dm x8 2 p2).bind fun w26 =>
          some (stI (stB x8 a22 j24 p2) 162 a20 ((hpI (stB x8 a22 j24 p2) 162 a20) + 1))
        else
          some σ
def LX5_takeOut_37 : Nat → (Nat) → (Int32) → (St) → Option (St)
  | 0, _, _, _ => none
  | n + 1, t, v2, τ =>
    (dn τ 5 (some t)).bind fun a8 =>
    if (hpI τ 162 a8) ≤ v2 then
      some τ
    else
      (dn τ 14 (hpR τ 160 a8)).bind fun a11 =>
      (ix (v2 + 1) (hpL τ a11)).bind fun j13 =>
      (ix v2 (hpL τ a11)).bind fun j15 =>
      (dm τ 2 (hpB τ a11 j13)).bind fun w17 =>
      LX5_takeOut_37 n t (v2 + 1) (stB τ a11 j15 (hpB τ a11 j13))
def f_X5_takeOut (σ : St) (t : Nat) (p1 : Int32) : Option (St) :=
  if p1 < 0 then
    some σ
  else
    if (hpI σ 162 t) ≤ p1 then
      some σ
    else
      (dn σ 14 (hpR σ 160 t)).bind fun a3 =>
      if (hpI σ 162 t) ≤ (nI (hpL σ a3)) then
        (LX5_takeOut_37 FU t p1 (stI σ 162 t ((hpI σ 162 t) - 1))).bind fun x7 =>
        (dn x7 5 (some t)).bind fun a19 =>
        (dn x7 14 (hpR x7 160 a19)).bind fun a21 =>
        (ix (hpI x7 162 a19) (hpL x7 a21)).bind fun j23 =>
        (dm x7 2 none).bind fun w25 =>
        some (stB x7 a21 j23 none)
      else
        some σ
def f_X5_moveLine (σ : St) (t : Nat) (p1 : Int32) (p2 : Int32) : Option (St) :=
  (f_X5_lineAt σ t p1).bind fun q1 =>
  (f_X5_takeOut σ t p1).bind fun q3 =>
  (dn q3 5 (some t)).bind fun a5 =>
  (f_X5_putIn q3 a5 p2 q1).bind fun q7 =>
  some q7
def LX5_moveLines_3 : Nat → (Nat) → (Int32) → (Int32) → (Int32) → (Int32) → (St) → Option (St)
  | 0, _, _, _, _, _, _ => none
  | n + 1, t, l1, l2, l3, v4, τ =>
    if l2 ≤ v4 then
      some τ
    else
      (if l1 ≤ l3 then
        (dn τ 5 (some t)).bind fun a6 =>
        (f_X5_moveLine τ a6 l1 ((l3 + l2) - 1)).bind fun q8 =>
        some q8
      else
        (dn τ 5 (some t)).bind fun a10 =>
        (f_X5_moveLine τ a10 (l1 + v4) (l3 + v4)).bind fun q12 =>
        some q12).bind fun (x4 : St) =>
      LX5_moveLines_3 n t l1 l2 l3 (v4 + 1) x4
def f_X5_moveLines (σ : St) (t : Nat) (p1 : Int32) (p2 : Int32) (p3 : Int32) : Option (St) :=
  (LX5_moveLines_3 FU t p1 p2 p3 0 σ).bind fun x2 =>
  some x2
def f_X8_init (σ : St) (t : Nat) : Option (St) :=
  (nwA σ 12 80).bind fun σ1 =>
  (dn σ1 8 (some t)).bind fun a3 =>
  some (stI (stR σ1 256 a3 (some (hpN σ))) 257 a3 0)
def f_X8_append (σ : St) (t : Nat) (p1 : Int32) : Option (St) :=
  if (hpI σ 257 t) < 0 then
    some σ
  else
    (dn σ 12 (hpR σ 256 t)).bind fun a2 =>
    if (nI (hpL σ a2)) ≤ (hpI σ 257 t) then
      some σ
    else
      (ix (hpI σ 257 t) (hpL σ a2)).bind fun j5 =>
      some (stI (stA σ a2 j5 ((p1).toInt8.toInt32).toInt8.toInt32) 257 t ((hpI (stA σ a2 j5 ((p1).toInt8.toInt32).toInt8.toInt32) 257 t) + 1))
def f_X8_byteAt (σ : St) (t : Nat) (p1 : Int32) : Option (Int32) :=
  if p1 < 0 then
    some (-1)
  else
    if (hpI σ 257 t) ≤ p1 then
      some (-1)
    else
      (dn σ 12 (hpR σ 256 t)).bind fun a3 =>
      if p1 < (nI (hpL σ a3)) then
        (ix p1 (hpL σ a3)).bind fun j6 =>
        some (hpA σ a3 j6)
      else
        some (-1)
def LX8_behindBlanks_2 : Nat → (St) → (Nat) → (Int32) → Option (Int32)
  | 0, _, _, _ => none
  | n + 1, σ, t, v2 =>
    if (hpI σ 257 t) ≤ v2 then
      some v2
    else
      (f_X8_byteAt σ t v2).bind fun q4 =>
      if ¬ q4 = 32 then
        some v2
      else
        LX8_behindBlanks_2 n σ t (v2 + 1)
def f_X8_behindBlanks (σ : St) (t : Nat) (p1 : Int32) : Option (Int32) :=
  (LX8_behindBlanks_2 FU σ t p1).bind fun x2 =>
  some x2
def f_X10_isLetter (σ : St) (p1 : Int32) : Option (Int32) :=
  if p1 < 97 then
    some 0
  else
    if 122 < p1 then
      some 0
    else
      some 1
def LX8_behindLetters_2 : Nat → (St) → (Nat) → (Int32) → Option (Int32)
  | 0, _, _, _ => none
  | n + 1, σ, t, v2 =>
    if (hpI σ 257 t) ≤ v2 then
      some v2
    else
      (f_X8_byteAt σ t v2).bind fun q4 =>
      (f_X10_isLetter σ q4).bind fun q6 =>
      if q6 = 0 then
        some v2
      else
        LX8_behindLetters_2 n σ t (v2 + 1)
def f_X8_behindLetters (σ : St) (t : Nat) (p1 : Int32) : Option (Int32) :=
  (LX8_behindLetters_2 FU σ t p1).bind fun x2 =>
  some x2
def LX8_lineFault_26 : Nat → (St) → (Nat) → (Int32) → (Int32) → Option (Int32)
  | 0, _, _, _, _ => none
  | n + 1, σ, t, v1, v2 =>
    if 5 ≤ v2 then
      some v1
    else
      (f_X8_byteAt σ t v1).bind fun q12 =>
      if ¬ q12 = 62 then
        some v1
      else
        (f_X8_behindBlanks σ t (v1 + 1)).bind fun q15 =>
        LX8_lineFault_26 n σ t q15 (v2 + 1)
def LX8_lineFault_70 : Nat → (St) → (Nat) → (Int32) → (Int32) → Option ((Int32) ⊕ (Int32))
  | 0, _, _, _, _ => none
  | n + 1, σ, t, v1, v2 =>
    if 80 ≤ v2 then
      some (.inr v1)
    else
      (f_X8_byteAt σ t v1).bind fun q25 =>
      (f_X10_isLetter σ q25).bind fun q27 =>
      if q27 = 0 then
        some (.inr v1)
      else
        (f_X8_behindLetters σ t v1).bind fun q30 =>
        if (q30 - v1) ≤ 16 then
          (f_X8_behindBlanks σ t q30).bind fun q33 =>
          LX8_lineFault_70 n σ t q33 (v2 + 1)
        else
          some (.inl (v1 + 16))
def f_X8_lineFault (σ : St) (t : Nat) : Option (Int32) :=
  (f_X8_behindBlanks σ t 0).bind fun q1 =>
  (f_X8_byteAt σ t q1).bind fun q3 =>
  (if ¬ q3 = 126 then
    some q1
  else
    (f_X8_behindBlanks σ t (q1 + 1)).bind fun q7 =>
    some q7).bind fun (x5 : Int32) =>
  (LX8_lineFault_26 FU σ t x5 0).bind fun x10 =>
  (f_X8_byteAt σ t x10).bind fun q17 =>
  (f_X10_isLetter σ q17).bind fun q19 =>
  if ¬ q19 = 0 then
    sb (LX8_lineFault_70 FU σ t x10 0) fun wx23 =>
    (f_X8_byteAt σ t wx23).bind fun q35 =>
    (if ¬ q35 = 47 then
      some wx23
    else
      (f_X8_behindBlanks σ t (wx23 + 1)).bind fun q39 =>
      some q39).bind fun (x37 : Int32) =>
    if (hpI σ 257 t) ≤ x37 then
      some (-1)
    else
      some x37
  else
    some x10
def f_X10_shapeName (σ : St) (p1 : Int32) : Option (Nat) :=
  if p1 = 0 then
    some 0
  else if p1 = 1 then
    some 1
  else if p1 = 2 then
    some 2
  else if p1 = 3 then
    some 3
  else 
    some 4
def LX8_isBetween_15 : Nat → (St) → (Nat) → (Int32) → (Nat) → (Int32) → Option ((Int32) ⊕ (Unit))
  | 0, _, _, _, _, _ => none
  | n + 1, σ, t, l1, l3, v4 =>
    (kS l3).bind fun j6 =>
    if (nI (strLen.getD l3 0)) ≤ v4 then
      some (.inr ())
    else
      (f_X8_byteAt σ t (l1 + v4)).bind fun q9 =>
      (ixS v4 l3).bind fun j11 =>
      if q9 = ((strByt.getD l3 []).getD j11 0) then
        LX8_isBetween_15 n σ t l1 l3 (v4 + 1)
      else
        some (.inl 0)
def f_X8_isBetween (σ : St) (t : Nat) (p1 : Int32) (p2 : Int32) (p3 : Nat) : Option (Int32) :=
  (kS p3).bind fun j1 =>
  if (p2 - p1) = (nI (strLen.getD p3 0)) then
    sb (LX8_isBetween_15 FU σ t p1 p3 0) fun wx5 =>
    some 1
  else
    some 0
def LX8_namedShape_14 : Nat → (St) → (Nat) → (Int32) → (Int32) → (Int32) → Option ((Int32) ⊕ (Unit))
  | 0, _, _, _, _, _ => none
  | n + 1, σ, t, l1, l2, v3 =>
    if 4 ≤ v3 then
      some (.inr ())
    else
      (f_X10_shapeName σ v3).bind fun q8 =>
      (f_X8_isBetween σ t l1 l2 q8).bind fun q10 =>
      if q10 = 0 then
        LX8_namedShape_14 n σ t l1 l2 (v3 + 1)
      else
        some (.inl v3)
def f_X8_namedShape (σ : St) (t : Nat) : Option (Int32) :=
  (f_X8_behindBlanks σ t 0).bind fun q1 =>
  (f_X8_behindLetters σ t q1).bind fun q3 =>
  sb (LX8_namedShape_14 FU σ t q1 q3 0) fun wx6 =>
  some (-1)
def f_X8_shapeFault (σ : St) (t : Nat) : Option (Int32) :=
  (f_X8_namedShape σ t).bind fun q1 =>
  if ¬ q1 = (-1) then
    (f_X8_behindBlanks σ t 0).bind fun q4 =>
    (f_X8_behindLetters σ t q4).bind fun q6 =>
    (f_X8_behindBlanks σ t q6).bind fun q8 =>
    if (hpI σ 257 t) ≤ q8 then
      some (-1)
    else
      some q8
  else
    (f_X8_behindBlanks σ t 0).bind fun q11 =>
    some q11
def f_X9_init (σ : St) (t : Nat) : Option (St) :=
  (nwA σ 12 80).bind fun σ1 =>
  (dn σ1 9 (some t)).bind fun a3 =>
  (nwA (stR σ1 288 a3 (some (hpN σ))) 13 40).bind fun σ5 =>
  (dn σ5 9 (some t)).bind fun a7 =>
  some (stI (stI (stI (stR σ5 289 a7 (some (hpN (stR σ1 288 a3 (some (hpN σ)))))) 290 a7 0) 291 a7 0) 292 a7 0)
def f_X9_append (σ : St) (t : Nat) (p1 : Int32) : Option (St) :=
  if (hpI σ 290 t) < 0 then
    some σ
  else
    (dn σ 12 (hpR σ 288 t)).bind fun a2 =>
    if (nI (hpL σ a2)) ≤ (hpI σ 290 t) then
      some σ
    else
      (ix (hpI σ 290 t) (hpL σ a2)).bind fun j5 =>
      some (stI (stA σ a2 j5 ((p1).toInt8.toInt32).toInt8.toInt32) 290 t ((hpI (stA σ a2 j5 ((p1).toInt8.toInt32).toInt8.toInt32) 290 t) + 1))
def f_X9_add (σ : St) (t : Nat) (p1 : Int32) (p2 : Int32) : Option (St) :=
  (if p2 = 0 then
    some σ
  else
    (if (hpI σ 291 t) ≤ 0 then
      some σ
    else
      (f_X9_append σ t 32).bind fun q5 =>
      some q5).bind fun (x3 : St) =>
    (dn x3 9 (some t)).bind fun a7 =>
    some (stI x3 291 a7 ((hpI x3 291 a7) + 1))).bind fun (x1 : St) =>
  (dn x1 9 (some t)).bind fun a9 =>
  (f_X9_append x1 a9 p1).bind fun q11 =>
  (dn q11 9 (some t)).bind fun a13 =>
  if (hpI (stI q11 292 a13 ((hpI q11 292 a13) + 1)) 291 a13) ≤ 0 then
    some (stI q11 292 a13 ((hpI q11 292 a13) + 1))
  else
    (dnA (stI q11 292 a13 ((hpI q11 292 a13) + 1)) (hpR (stI q11 292 a13 ((hpI q11 292 a13) + 1)) 289 a13)).bind fun a16 =>
    if (nI (hpL (stI q11 292 a13 ((hpI q11 292 a13) + 1)) a16)) < (hpI (stI q11 292 a13 ((hpI q11 292 a13) + 1)) 291 a13) then
      some (stI q11 292 a13 ((hpI q11 292 a13) + 1))
    else
      (ix ((hpI (stI q11 292 a13 ((hpI q11 292 a13) + 1)) 291 a13) - 1) (hpL (stI q11 292 a13 ((hpI q11 292 a13) + 1)) a16)).bind fun j19 =>
      (dn (stI q11 292 a13 ((hpI q11 292 a13) + 1)) 13 (hpR (stI q11 292 a13 ((hpI q11 292 a13) + 1)) 289 a13)).bind fun a21 =>
      (ix ((hpI (stI q11 292 a13 ((hpI q11 292 a13) + 1)) 291 a13) - 1) (hpL (stI q11 292 a13 ((hpI q11 292 a13) + 1)) a21)).bind fun j23 =>
      some (stA (stI q11 292 a13 ((hpI q11 292 a13) + 1)) a21 j23 ((hpA (stI q11 292 a13 ((hpI q11 292 a13) + 1)) a16 j19) + 1))
def LX8_toLine_18 : Nat → (Nat) → (Option Nat) → (Int32) → (Int32) → (Int32) → (Int32) → (St) → Option (Int32 × Int32 × Int32 × St)
  | 0, _, _, _, _, _, _, _ => none
  | n + 1, t, l1, v2, v3, v4, v5, τ =>
    (dn τ 8 (some t)).bind fun a9 =>
    if (hpI τ 257 a9) ≤ v5 then
      some (v2, v3, v4, τ)
    else
      (f_X8_byteAt τ a9 v5).bind fun q12 =>
      (f_X10_isLetter τ q12).bind fun q14 =>
      (if q14 = 0 then
        if ¬ q12 = 126 then
          if ¬ q12 = 62 then
            if ¬ q12 = 47 then
              some (v2, v3, v4, τ)
            else
              some (v2, 1, v4, τ)
          else
            some (v2, v3, (v4 + 1), τ)
        else
          some (1, v3, v4, τ)
      else
        (f_X8_byteAt τ a9 (v5 - 1)).bind fun q21 =>
        (f_X10_isLetter τ q21).bind fun q23 =>
        (if ¬ q23 = 0 then
          some 0
        else
          some 1).bind fun (x25 : Int32) =>
        (dn τ 9 l1).bind fun a27 =>
        (f_X9_add τ a27 q12 x25).bind fun q29 =>
        some (v2, v3, v4, q29)).bind fun (x16 : Int32 × Int32 × Int32 × St) =>
      LX8_toLine_18 n t l1 x16.1 x16.2.1 x16.2.2.1 (v5 + 1) x16.2.2.2
def f_X8_toLine (σ : St) (t : Nat) : Option (Option Nat × St) :=
  (nwO σ 9).bind fun σ1 =>
  (dn σ1 9 (some (hpN σ))).bind fun a3 =>
  (f_X9_init σ1 a3).bind fun q5 =>
  (LX8_toLine_18 FU t (some (hpN σ)) 0 0 0 0 q5).bind fun x8 =>
  (nwO x8.2.2.2 2).bind fun σ31 =>
  (dn σ31 2 (some (hpN x8.2.2.2))).bind fun a33 =>
  (f_X2_init σ31 a33 (some (hpN σ)) x8.2.2.1 x8.1 x8.2.1).bind fun q35 =>
  some ((some (hpN x8.2.2.2)), q35)
def f_X9_byteAt (σ : St) (t : Nat) (p1 : Int32) : Option (Int32) :=
  if p1 < 0 then
    some (-1)
  else
    if (hpI σ 290 t) ≤ p1 then
      some (-1)
    else
      (dn σ 12 (hpR σ 288 t)).bind fun a3 =>
      if p1 < (nI (hpL σ a3)) then
        (ix p1 (hpL σ a3)).bind fun j6 =>
        some (hpA σ a3 j6)
      else
        some (-1)
def f_X10_init (σ : St) (t : Nat) : Option (St) :=
  (nwO σ 8).bind fun σ1 =>
  (dn σ1 8 (some (hpN σ))).bind fun a3 =>
  (f_X8_init σ1 a3).bind fun q5 =>
  (dn q5 10 (some t)).bind fun a7 =>
  (nwO (stR q5 320 a7 (some (hpN σ))) 5).bind fun σ9 =>
  (dn σ9 5 (some (hpN (stR q5 320 a7 (some (hpN σ)))))).bind fun a11 =>
  (f_X5_init σ9 a11).bind fun q13 =>
  (dn q13 10 (some t)).bind fun a15 =>
  (nwO (stR q13 321 a15 (some (hpN (stR q5 320 a7 (some (hpN σ)))))) 0).bind fun σ17 =>
  (dn σ17 0 (some (hpN (stR q13 321 a15 (some (hpN (stR q5 320 a7 (some (hpN σ))))))))).bind fun a19 =>
  (f_X0_init σ17 a19).bind fun q21 =>
  (dn q21 10 (some t)).bind fun a23 =>
  (nwO (stR q21 322 a23 (some (hpN (stR q13 321 a15 (some (hpN (stR q5 320 a7 (some (hpN σ))))))))) 1).bind fun σ25 =>
  (dn σ25 1 (some (hpN (stR q21 322 a23 (some (hpN (stR q13 321 a15 (some (hpN (stR q5 320 a7 (some (hpN σ)))))))))))).bind fun a27 =>
  (f_X1_init σ25 a27).bind fun q29 =>
  (dn q29 10 (some t)).bind fun a31 =>
  (nwO (stR q29 323 a31 (some (hpN (stR q21 322 a23 (some (hpN (stR q13 321 a15 (some (hpN (stR q5 320 a7 (some (hpN σ)))))))))))) 1).bind fun σ33 =>
  (dn σ33 1 (some (hpN (stR q29 323 a31 (some (hpN (stR q21 322 a23 (some (hpN (stR q13 321 a15 (some (hpN (stR q5 320 a7 (some (hpN σ))))))))))))))).bind fun a35 =>
  (f_X1_init σ33 a35).bind fun q37 =>
  (dn q37 10 (some t)).bind fun a39 =>
  some (stR q37 324 a39 (some (hpN (stR q29 323 a31 (some (hpN (stR q21 322 a23 (some (hpN (stR q13 321 a15 (some (hpN (stR q5 320 a7 (some (hpN σ)))))))))))))))
def f_X10_type (σ : St) (t : Nat) (p1 : Int32) : Option (Int32 × St) :=
  if p1 < 0 then
    some ((-2), σ)
  else
    if p1 ≤ 127 then
      (dn σ 8 (hpR σ 320 t)).bind fun a3 =>
      if (hpI σ 257 a3) < 80 then
        (f_X8_append σ a3 p1).bind fun q6 =>
        (dn q6 10 (some t)).bind fun a8 =>
        (dn q6 8 (hpR q6 320 a8)).bind fun a10 =>
        some ((hpI q6 257 a10), q6)
      else
        some ((-4), σ)
    else
      some ((-2), σ)
def f_X10_clear (σ : St) (t : Nat) : Option (Int32 × St) :=
  (dn σ 8 (hpR σ 320 t)).bind fun a1 =>
  some ((hpI σ 257 a1), (stI σ 257 a1 0))
def f_X10_fault (σ : St) (t : Nat) (p1 : Int32) : Option (Int32) :=
  if p1 = 0 then
    (dn σ 8 (hpR σ 320 t)).bind fun a2 =>
    (f_X8_lineFault σ a2).bind fun q4 =>
    some q4
  else
    (dn σ 8 (hpR σ 320 t)).bind fun a6 =>
    (f_X8_shapeFault σ a6).bind fun q8 =>
    some q8
def f_X10_layOut (σ : St) (t : Nat) : Option (St) :=
  (dn σ 5 (hpR σ 321 t)).bind fun a1 =>
  (f_X5_setting σ a1 0).bind fun q3 =>
  (dn σ 1 (hpR σ 323 t)).bind fun a5 =>
  (f_X1_breakLines σ a5 (hpR σ 321 t) q3).bind fun q7 =>
  (dn q7 10 (some t)).bind fun a9 =>
  (dn q7 5 (hpR q7 321 a9)).bind fun a11 =>
  (f_X5_setting q7 a11 1).bind fun q13 =>
  (f_X5_setting q7 a11 4).bind fun q15 =>
  (dn q7 1 (hpR q7 323 a9)).bind fun a17 =>
  (f_X1_putOnPages q7 a17 q13 q15).bind fun q19 =>
  some q19
def f_X10_insert (σ : St) (t : Nat) (p1 : Int32) : Option (Int32 × St) :=
  if p1 < 0 then
    some ((-2), σ)
  else
    (dn σ 5 (hpR σ 321 t)).bind fun a2 =>
    if p1 ≤ (hpI σ 162 a2) then
      (dn σ 8 (hpR σ 320 t)).bind fun a5 =>
      (f_X8_lineFault σ a5).bind fun q7 =>
      if q7 = (-1) then
        if (hpI σ 162 a2) < 24 then
          (dn σ 0 (hpR σ 322 t)).bind fun a11 =>
          (f_X0_keepState σ a11 (hpR σ 321 t)).bind fun q13 =>
          (dn q13 10 (some t)).bind fun a15 =>
          (dn q13 8 (hpR q13 320 a15)).bind fun a17 =>
          (f_X8_toLine q13 a17).bind fun q19 =>
          (dn q19.2 5 (hpR q13 321 a15)).bind fun a21 =>
          (f_X5_putIn q19.2 a21 p1 q19.1).bind fun q23 =>
          (dn q23 10 (some t)).bind fun a25 =>
          (f_X10_layOut q23 a25).bind fun q27 =>
          (dn q27 10 (some t)).bind fun a29 =>
          (dn q27 5 (hpR q27 321 a29)).bind fun a31 =>
          some ((hpI q27 162 a31), q27)
        else
          some ((-4), σ)
      else
        some (((-2000) - q7), σ)
    else
      some ((-2), σ)
def f_X10_replace (σ : St) (t : Nat) (p1 : Int32) : Option (Int32 × St) :=
  (dn σ 5 (hpR σ 321 t)).bind fun a1 =>
  (f_X5_lineAt σ a1 p1).bind fun q3 =>
  if q3 = none then
    some ((-2), σ)
  else
    (dn σ 8 (hpR σ 320 t)).bind fun a6 =>
    (f_X8_lineFault σ a6).bind fun q8 =>
    if q8 = (-1) then
      (dn σ 0 (hpR σ 322 t)).bind fun a11 =>
      (f_X0_keepState σ a11 (hpR σ 321 t)).bind fun q13 =>
      (dn q13 10 (some t)).bind fun a15 =>
      (dn q13 8 (hpR q13 320 a15)).bind fun a17 =>
      (f_X8_toLine q13 a17).bind fun q19 =>
      (dn q19.2 5 (hpR q13 321 a15)).bind fun a21 =>
      (f_X5_exchange q19.2 a21 p1 q19.1).bind fun q23 =>
      (dn q23 10 (some t)).bind fun a25 =>
      (f_X10_layOut q23 a25).bind fun q27 =>
      (dn q27 2 q3).bind fun a29 =>
      (dn q27 9 (hpR q27 64 a29)).bind fun a31 =>
      some ((hpI q27 291 a31), q27)
    else
      some (((-2000) - q8), σ)
def f_X10_remove (σ : St) (t : Nat) (p1 : Int32) : Option (Int32 × St) :=
  (dn σ 5 (hpR σ 321 t)).bind fun a1 =>
  (f_X5_lineAt σ a1 p1).bind fun q3 =>
  if q3 = none then
    some ((-2), σ)
  else
    (dn σ 0 (hpR σ 322 t)).bind fun a6 =>
    (f_X0_keepState σ a6 (hpR σ 321 t)).bind fun q8 =>
    (dn q8 10 (some t)).bind fun a10 =>
    (dn q8 5 (hpR q8 321 a10)).bind fun a12 =>
    (f_X5_takeOut q8 a12 p1).bind fun q14 =>
    (dn q14 10 (some t)).bind fun a16 =>
    (f_X10_layOut q14 a16).bind fun q18 =>
    (dn q18 10 (some t)).bind fun a20 =>
    (dn q18 5 (hpR q18 321 a20)).bind fun a22 =>
    some ((hpI q18 162 a22), q18)
def f_X10_move (σ : St) (t : Nat) (p1 : Int32) (p2 : Int32) (p3 : Int32) : Option (Int32 × St) :=
  if p2 < 1 then
    some ((-2), σ)
  else
    (dn σ 5 (hpR σ 321 t)).bind fun a2 =>
    if p2 ≤ (hpI σ 162 a2) then
      if p1 < 0 then
        some ((-2), σ)
      else
        if ((hpI σ 162 a2) - p2) < p1 then
          some ((-2), σ)
        else
          if p3 < 0 then
            some ((-2), σ)
          else
            if p3 ≤ ((hpI σ 162 a2) - p2) then
              (dn σ 0 (hpR σ 322 t)).bind fun a9 =>
              (f_X0_keepState σ a9 (hpR σ 321 t)).bind fun q11 =>
              (dn q11 10 (some t)).bind fun a13 =>
              (dn q11 5 (hpR q11 321 a13)).bind fun a15 =>
              (f_X5_moveLines q11 a15 p1 p2 p3).bind fun q17 =>
              (dn q17 10 (some t)).bind fun a19 =>
              (f_X10_layOut q17 a19).bind fun q21 =>
              (dn q21 10 (some t)).bind fun a23 =>
              (dn q21 1 (hpR q21 323 a23)).bind fun a25 =>
              some ((hpI q21 37 a25), q21)
            else
              some ((-2), σ)
    else
      some ((-2), σ)
def f_X10_toggle (σ : St) (t : Nat) (p1 : Int32) (p2 : Int32) : Option (Int32 × St) :=
  (dn σ 5 (hpR σ 321 t)).bind fun a1 =>
  (f_X5_lineAt σ a1 p1).bind fun q3 =>
  if q3 = none then
    some ((-2), σ)
  else
    (dn σ 0 (hpR σ 322 t)).bind fun a6 =>
    (f_X0_keepState σ a6 (hpR σ 321 t)).bind fun q8 =>
    (if p2 = 0 then
      (dn q8 2 q3).bind fun a12 =>
      some (hpI q8 66 a12)
    else
      (dn q8 2 q3).bind fun a14 =>
      if ¬ (hpI q8 66 a14) = 0 then
        some 0
      else
        some 1).bind fun (x10 : Int32) =>
    (if p2 = 0 then
      (dn q8 2 q3).bind fun a19 =>
      if ¬ (hpI q8 67 a19) = 0 then
        some 0
      else
        some 1
    else
      (dn q8 2 q3).bind fun a22 =>
      some (hpI q8 67 a22)).bind fun (x17 : Int32) =>
    (dn q8 10 (some t)).bind fun a24 =>
    (nwO q8 2).bind fun σ26 =>
    (dn σ26 2 q3).bind fun a28 =>
    (dn σ26 2 (some (hpN q8))).bind fun a30 =>
    (f_X2_init σ26 a30 (hpR σ26 64 a28) (hpI σ26 65 a28) x10 x17).bind fun q32 =>
    (dn q32 5 (hpR q8 321 a24)).bind fun a34 =>
    (f_X5_exchange q32 a34 p1 (some (hpN q8))).bind fun q36 =>
    (dn q36 10 (some t)).bind fun a38 =>
    (f_X10_layOut q36 a38).bind fun q40 =>
    (if p2 = 0 then
      some x17
    else
      some x10).bind fun (x42 : Int32) =>
    (f_X10_oneIf q40 x42).bind fun q44 =>
    some (q44, q40)
def f_X10_line (σ : St) (t : Nat) (p1 : Int32) (p2 : Int32) : Option (Int32) :=
  (dn σ 5 (hpR σ 321 t)).bind fun a1 =>
  (f_X5_lineAt σ a1 p1).bind fun q3 =>
  (dn σ 1 (hpR σ 323 t)).bind fun a5 =>
  (f_X1_spanAt σ a5 p1).bind fun q7 =>
  if q3 = none then
    some (-2)
  else
    if q7 = none then
      some (-2)
    else
      if p2 = 0 then
        (dn σ 2 q3).bind fun a11 =>
        (dn σ 9 (hpR σ 64 a11)).bind fun a13 =>
        some (hpI σ 292 a13)
      else if p2 = 1 then
        (dn σ 2 q3).bind fun a15 =>
        (dn σ 9 (hpR σ 64 a15)).bind fun a17 =>
        some (hpI σ 291 a17)
      else if p2 = 2 then
        (dn σ 2 q3).bind fun a19 =>
        some (hpI σ 65 a19)
      else if p2 = 3 then
        (dn σ 2 q3).bind fun a21 =>
        (f_X10_oneIf σ (hpI σ 66 a21)).bind fun q23 =>
        some q23
      else if p2 = 4 then
        (dn σ 3 q7).bind fun a25 =>
        (f_X10_oneIf σ (hpI σ 96 a25)).bind fun q27 =>
        some q27
      else if p2 = 5 then
        (dn σ 2 q3).bind fun a29 =>
        (f_X10_oneIf σ (hpI σ 67 a29)).bind fun q31 =>
        some q31
      else if p2 = 6 then
        (dn σ 3 q7).bind fun a33 =>
        some (hpI σ 97 a33)
      else if p2 = 7 then
        (dn σ 3 q7).bind fun a35 =>
        some (hpI σ 99 a35)
      else if p2 = 8 then
        (dn σ 3 q7).bind fun a37 =>
        some (hpI σ 100 a37)
      else if p2 = 9 then
        (dn σ 3 q7).bind fun a39 =>
        some (hpI σ 98 a39)
      else 
        some (-2)
def f_X10_letter (σ : St) (t : Nat) (p1 : Int32) (p2 : Int32) : Option (Int32) :=
  (dn σ 5 (hpR σ 321 t)).bind fun a1 =>
  (f_X5_lineAt σ a1 p1).bind fun q3 =>
  if q3 = none then
    some (-2)
  else
    if 0 ≤ p2 then
      (dn σ 2 q3).bind fun a7 =>
      (dn σ 9 (hpR σ 64 a7)).bind fun a9 =>
      (f_X9_byteAt σ a9 p2).bind fun q11 =>
      some q11
    else
      some (-2)
def f_X10_set (σ : St) (t : Nat) (p1 : Int32) (p2 : Int32) : Option (Int32 × St) :=
  if p1 < 0 then
    some ((-2), σ)
  else
    if 5 ≤ p1 then
      some ((-2), σ)
    else
      (f_X10_element σ (some (hpG σ 1)) p1).bind fun q3 =>
      if p2 < q3 then
        some ((-2), σ)
      else
        (f_X10_element σ (some (hpG σ 2)) p1).bind fun q6 =>
        if p2 ≤ q6 then
          (dn σ 5 (hpR σ 321 t)).bind fun a9 =>
          (f_X5_setting σ a9 p1).bind fun q11 =>
          (dn σ 0 (hpR σ 322 t)).bind fun a13 =>
          (f_X0_keepState σ a13 (hpR σ 321 t)).bind fun q15 =>
          (dn q15 10 (some t)).bind fun a17 =>
          (dn q15 5 (hpR q15 321 a17)).bind fun a19 =>
          (f_X5_changeSetting q15 a19 p1 p2).bind fun q21 =>
          (dn q21 10 (some t)).bind fun a23 =>
          (f_X10_layOut q21 a23).bind fun q25 =>
          some (q11, q25)
        else
          some ((-2), σ)
def f_X10_undo (σ : St) (t : Nat) : Option (Int32 × St) :=
  (dn σ 0 (hpR σ 322 t)).bind fun a1 =>
  if ¬ (hpI σ 1 a1) = 0 then
    (f_X0_bringBack σ a1 (hpR σ 321 t)).bind fun q4 =>
    (dn q4 10 (some t)).bind fun a6 =>
    (f_X10_layOut q4 a6).bind fun q8 =>
    (dn q8 10 (some t)).bind fun a10 =>
    (dn q8 0 (hpR q8 322 a10)).bind fun a12 =>
    some ((hpI q8 1 a12), q8)
  else
    some ((-3), σ)
def f_X10_row (σ : St) (t : Nat) (p1 : Int32) (p2 : Int32) : Option (Int32) :=
  if p1 < 0 then
    some (-2)
  else
    if p2 < 0 then
      some (-2)
    else
      if p2 < 9 then
        (dn σ 1 (hpR σ 323 t)).bind fun a4 =>
        (f_X1_rowAt σ a4 p1).bind fun q6 =>
        if q6 = none then
          some (-1)
        else
          if p2 = 0 then
            (dn σ 6 q6).bind fun a9 =>
            some (hpI σ 192 a9)
          else if p2 = 1 then
            (dn σ 6 q6).bind fun a11 =>
            some (hpI σ 193 a11)
          else if p2 = 2 then
            (dn σ 6 q6).bind fun a13 =>
            some (hpI σ 194 a13)
          else if p2 = 3 then
            (dn σ 6 q6).bind fun a15 =>
            some (hpI σ 195 a15)
          else if p2 = 4 then
            (dn σ 6 q6).bind fun a17 =>
            some (hpI σ 196 a17)
          else if p2 = 5 then
            (dn σ 6 q6).bind fun a19 =>
            some (hpI σ 198 a19)
          else if p2 = 6 then
            (dn σ 6 q6).bind fun a21 =>
            some (hpI σ 199 a21)
          else if p2 = 7 then
            (dn σ 6 q6).bind fun a23 =>
            (f_X10_oneIf σ (hpI σ 200 a23)).bind fun q25 =>
            some q25
          else 
            (dn σ 6 q6).bind fun a27 =>
            (f_X6_end σ a27).bind fun q29 =>
            some q29
      else
        some (-2)
def f_X10_byteInRow (σ : St) (t : Nat) (p1 : Option Nat) (p2 : Int32) : Option (Int32) :=
  if p1 = none then
    some 32
  else
    (dn σ 6 p1).bind fun a2 =>
    if p2 < (hpI σ 196 a2) then
      some 32
    else
      (f_X6_end σ a2).bind fun q5 =>
      if p2 < q5 then
        (dn σ 5 (hpR σ 321 t)).bind fun a8 =>
        (f_X5_lineAt σ a8 (hpI σ 192 a2)).bind fun q10 =>
        if q10 = none then
          some 32
        else
          (dn σ 2 q10).bind fun a13 =>
          (dn σ 9 (hpR σ 64 a13)).bind fun a15 =>
          (f_X9_byteAt σ a15 (((hpI σ 197 a2) + p2) - (hpI σ 196 a2))).bind fun q17 =>
          some q17
      else
        some 32
def f_X10_at (σ : St) (t : Nat) (p1 : Int32) (p2 : Int32) (p3 : Int32) : Option (Int32) :=
  (dn σ 1 (hpR σ 323 t)).bind fun a1 =>
  (f_X1_pageAt σ a1 p1).bind fun q3 =>
  if q3 = none then
    some (-2)
  else
    if p2 < 0 then
      some (-2)
    else
      (dn σ 5 (hpR σ 321 t)).bind fun a7 =>
      (f_X5_setting σ a7 1).bind fun q9 =>
      if p2 < q9 then
        if p3 < 0 then
          some (-2)
        else
          (f_X5_setting σ a7 0).bind fun q13 =>
          if p3 < q13 then
            (f_X1_rowAtPlace σ a1 q3 p2).bind fun q16 =>
            (f_X10_byteInRow σ t q16 p3).bind fun q18 =>
            some q18
          else
            some (-2)
      else
        some (-2)
def f_X10_page (σ : St) (t : Nat) (p1 : Int32) (p2 : Int32) : Option (Int32) :=
  (dn σ 1 (hpR σ 323 t)).bind fun a1 =>
  (f_X1_pageAt σ a1 p1).bind fun q3 =>
  if q3 = none then
    some (-2)
  else
    if p2 = 0 then
      (dn σ 4 q3).bind fun a6 =>
      some (hpI σ 129 a6)
    else if p2 = 1 then
      (dn σ 4 q3).bind fun a8 =>
      some (hpI σ 130 a8)
    else if p2 = 2 then
      (dn σ 4 q3).bind fun a10 =>
      (f_X10_oneIf σ (hpI σ 132 a10)).bind fun q12 =>
      some q12
    else if p2 = 3 then
      (dn σ 4 q3).bind fun a14 =>
      some (hpI σ 128 a14)
    else if p2 = 4 then
      (dn σ 4 q3).bind fun a16 =>
      some (hpI σ 131 a16)
    else 
      some (-2)
def f_X10_distance (σ : St) (t : Nat) (p1 : Int32) : Option (Int32) :=
  (dn σ 1 (hpR σ 323 t)).bind fun a1 =>
  (f_X1_stanzaAt σ a1 p1).bind fun q3 =>
  if q3 = none then
    some (-2)
  else
    (dn σ 8 (hpR σ 320 t)).bind fun a6 =>
    (f_X8_shapeFault σ a6).bind fun q8 =>
    if q8 = (-1) then
      (f_X8_namedShape σ a6).bind fun q11 =>
      (f_X1_distanceFrom σ a1 q11 q3).bind fun q13 =>
      some q13
    else
      some ((-2000) - q8)
def LX10_shape_32 : Nat → (St) → (Nat) → (Option Nat) → (Int32) → (Int32) → (Int32) → Option (Int32)
  | 0, _, _, _, _, _, _ => none
  | n + 1, σ, t, l2, v3, v4, v5 =>
    if 4 ≤ v5 then
      some v3
    else
      (dn σ 1 (hpR σ 323 t)).bind fun a11 =>
      (f_X1_distanceFrom σ a11 v5 l2).bind fun q13 =>
      (if v4 ≤ q13 then
        some (v3, v4)
      else
        some (v5, q13)).bind fun (x15 : Int32 × Int32) =>
      LX10_shape_32 n σ t l2 x15.1 x15.2 (v5 + 1)
def f_X10_shape (σ : St) (t : Nat) (p1 : Int32) : Option (Int32) :=
  (dn σ 1 (hpR σ 323 t)).bind fun a1 =>
  (f_X1_stanzaAt σ a1 p1).bind fun q3 =>
  if q3 = none then
    some (-2)
  else
    (f_X1_distanceFrom σ a1 0 q3).bind fun q6 =>
    (LX10_shape_32 FU σ t q3 0 q6 1).bind fun x9 =>
    some x9
def f_X10_numberWithWidth (σ : St) (t : Nat) (p1 : Int32) (p2 : Int32) : Option (Int32 × St) :=
  (dn σ 1 (hpR σ 324 t)).bind fun a1 =>
  (f_X1_breakLines σ a1 (hpR σ 321 t) p1).bind fun q3 =>
  if ¬ p2 = 1 then
    if ¬ p2 = 2 then
      (dn q3 10 (some t)).bind fun a7 =>
      (dn q3 5 (hpR q3 321 a7)).bind fun a9 =>
      (f_X5_setting q3 a9 1).bind fun q11 =>
      (f_X5_setting q3 a9 4).bind fun q13 =>
      (dn q3 1 (hpR q3 324 a7)).bind fun a15 =>
      (f_X1_putOnPages q3 a15 q11 q13).bind fun q17 =>
      (dn q17 10 (some t)).bind fun a19 =>
      (dn q17 1 (hpR q17 324 a19)).bind fun a21 =>
      some ((hpI q17 38 a21), q17)
    else
      (dn q3 10 (some t)).bind fun a23 =>
      (dn q3 1 (hpR q3 324 a23)).bind fun a25 =>
      (f_X1_cuts q3 a25).bind fun q27 =>
      some (q27, q3)
  else
    (dn q3 10 (some t)).bind fun a29 =>
    (dn q3 1 (hpR q3 324 a29)).bind fun a31 =>
    (f_X1_runOvers q3 a31).bind fun q33 =>
    some (q33, q3)
def LX10_bestWidth_38 : Nat → (Nat) → (Int32) → (Int32) → (Int32) → (Int32) → (St) → Option (Int32 × St)
  | 0, _, _, _, _, _, _ => none
  | n + 1, t, l1, v2, v3, v4, τ =>
    (f_X10_element τ (some (hpG τ 2)) 0).bind fun q10 =>
    if q10 < v4 then
      some (v2, τ)
    else
      (dn τ 10 (some t)).bind fun a13 =>
      (f_X10_numberWithWidth τ a13 v4 l1).bind fun q15 =>
      (if v2 = (-1) then
        some (v4, q15.1)
      else
        if v3 ≤ q15.1 then
          some (v2, v3)
        else
          some (v4, q15.1)).bind fun (x17 : Int32 × Int32) =>
      LX10_bestWidth_38 n t l1 x17.1 x17.2 (v4 + 1) q15.2
def f_X10_bestWidth (σ : St) (t : Nat) (p1 : Int32) : Option (Int32 × St) :=
  if p1 < 0 then
    some ((-2), σ)
  else
    if p1 ≤ 2 then
      (dn σ 5 (hpR σ 321 t)).bind fun a3 =>
      if ¬ (hpI σ 162 a3) = 0 then
        (f_X10_element σ (some (hpG σ 1)) 0).bind fun q6 =>
        (LX10_bestWidth_38 FU t p1 (-1) 0 q6 σ).bind fun x9 =>
        some (x9.1, x9.2)
      else
        some ((-3), σ)
    else
      some ((-2), σ)
def LX10_leastHeight_41 : Nat → (Nat) → (Int32) → (Int32) → (St) → Option ((Int32 × St) ⊕ (St))
  | 0, _, _, _, _ => none
  | n + 1, t, l1, v2, τ =>
    (f_X10_element τ (some (hpG τ 2)) 1).bind fun q15 =>
    if q15 < v2 then
      some (.inr τ)
    else
      (dn τ 10 (some t)).bind fun a18 =>
      (dn τ 5 (hpR τ 321 a18)).bind fun a20 =>
      (f_X5_setting τ a20 4).bind fun q22 =>
      (dn τ 1 (hpR τ 324 a18)).bind fun a24 =>
      (f_X1_putOnPages τ a24 v2 q22).bind fun q26 =>
      (dn q26 10 (some t)).bind fun a28 =>
      (dn q26 1 (hpR q26 324 a28)).bind fun a30 =>
      if l1 < (hpI q26 38 a30) then
        LX10_leastHeight_41 n t l1 (v2 + 1) q26
      else
        some (.inl (v2, q26))
def f_X10_leastHeight (σ : St) (t : Nat) (p1 : Int32) : Option (Int32 × St) :=
  if p1 < 1 then
    some ((-2), σ)
  else
    if p1 ≤ 99 then
      (dn σ 5 (hpR σ 321 t)).bind fun a3 =>
      (f_X5_setting σ a3 0).bind fun q5 =>
      (dn σ 1 (hpR σ 324 t)).bind fun a7 =>
      (f_X1_breakLines σ a7 (hpR σ 321 t) q5).bind fun q9 =>
      (f_X10_element q9 (some (hpG q9 1)) 1).bind fun q11 =>
      sb (LX10_leastHeight_41 FU t p1 q11 q9) fun wx14 =>
      some ((-1), wx14)
    else
      some ((-2), σ)
def f_X10_countedSetting (σ : St) (t : Nat) (p1 : Int32) (p2 : Int32) : Option (Int32) :=
  if p2 < 11 then
    some (-2)
  else
    if p2 < 16 then
      (dn σ 5 (hpR σ 321 t)).bind fun a3 =>
      (f_X5_setting σ a3 p1).bind fun q5 =>
      some q5
    else
      some (-2)
def f_X10_count (σ : St) (t : Nat) (p1 : Int32) : Option (Int32) :=
  if p1 = 0 then
    (dn σ 5 (hpR σ 321 t)).bind fun a1 =>
    some (hpI σ 162 a1)
  else if p1 = 1 then
    (dn σ 1 (hpR σ 323 t)).bind fun a3 =>
    some (hpI σ 37 a3)
  else if p1 = 2 then
    (dn σ 1 (hpR σ 323 t)).bind fun a5 =>
    some (hpI σ 36 a5)
  else if p1 = 3 then
    (dn σ 1 (hpR σ 323 t)).bind fun a7 =>
    some (hpI σ 38 a7)
  else if p1 = 4 then
    (dn σ 1 (hpR σ 323 t)).bind fun a9 =>
    (f_X1_runOvers σ a9).bind fun q11 =>
    some q11
  else if p1 = 5 then
    (dn σ 1 (hpR σ 323 t)).bind fun a13 =>
    (f_X1_cuts σ a13).bind fun q15 =>
    some q15
  else if p1 = 6 then
    (dn σ 1 (hpR σ 323 t)).bind fun a17 =>
    (f_X1_markedPages σ a17).bind fun q19 =>
    some q19
  else if p1 = 7 then
    (dn σ 1 (hpR σ 323 t)).bind fun a21 =>
    (f_X1_lastNumber σ a21).bind fun q23 =>
    some q23
  else if p1 = 8 then
    (dn σ 1 (hpR σ 323 t)).bind fun a25 =>
    (f_X1_greatestWidth σ a25 0 (hpI σ 36 a25)).bind fun q27 =>
    some q27
  else if p1 = 9 then
    (dn σ 0 (hpR σ 322 t)).bind fun a29 =>
    some (hpI σ 1 a29)
  else if p1 = 10 then
    (dn σ 8 (hpR σ 320 t)).bind fun a31 =>
    some (hpI σ 257 a31)
  else 
    (f_X10_countedSetting σ t (p1 - 11) p1).bind fun q33 =>
    some q33
def f_X10_mixed (σ : St) (p1 : Int64) (p2 : Int32) : Option (Int64) :=
  some ((31 * p1) + ((p2).toInt64))
def LX10_withLines_16 : Nat → (St) → (Nat) → (Int32) → (Int64) → (Int32) → Option (Int64)
  | 0, _, _, _, _, _ => none
  | n + 1, σ, t, l3, v1, v4 =>
    if 10 ≤ v4 then
      some v1
    else
      (f_X10_line σ t l3 v4).bind fun q9 =>
      (f_X10_mixed σ v1 q9).bind fun q11 =>
      LX10_withLines_16 n σ t l3 q11 (v4 + 1)
def LX10_withLines_2 : Nat → (St) → (Nat) → (Int64) → (Int32) → Option (Int64)
  | 0, _, _, _, _ => none
  | n + 1, σ, t, v1, v3 =>
    (dn σ 5 (hpR σ 321 t)).bind fun a3 =>
    if (hpI σ 162 a3) ≤ v3 then
      some v1
    else
      (LX10_withLines_16 FU σ t v3 v1 0).bind fun x7 =>
      LX10_withLines_2 n σ t x7 (v3 + 1)
def f_X10_withLines (σ : St) (t : Nat) (p1 : Int64) : Option (Int64) :=
  (LX10_withLines_2 FU σ t p1 0).bind fun x2 =>
  some x2
def LX10_withRows_16 : Nat → (St) → (Nat) → (Int32) → (Int64) → (Int32) → Option (Int64)
  | 0, _, _, _, _, _ => none
  | n + 1, σ, t, l3, v1, v4 =>
    if 9 ≤ v4 then
      some v1
    else
      (f_X10_row σ t l3 v4).bind fun q9 =>
      (f_X10_mixed σ v1 q9).bind fun q11 =>
      LX10_withRows_16 n σ t l3 q11 (v4 + 1)
def LX10_withRows_2 : Nat → (St) → (Nat) → (Int64) → (Int32) → Option (Int64)
  | 0, _, _, _, _ => none
  | n + 1, σ, t, v1, v3 =>
    (dn σ 1 (hpR σ 323 t)).bind fun a3 =>
    if (hpI σ 36 a3) ≤ v3 then
      some v1
    else
      (LX10_withRows_16 FU σ t v3 v1 0).bind fun x7 =>
      LX10_withRows_2 n σ t x7 (v3 + 1)
def f_X10_withRows (σ : St) (t : Nat) (p1 : Int64) : Option (Int64) :=
  (LX10_withRows_2 FU σ t p1 0).bind fun x2 =>
  some x2
def LX10_withPages_16 : Nat → (St) → (Nat) → (Int32) → (Int64) → (Int32) → Option (Int64)
  | 0, _, _, _, _, _ => none
  | n + 1, σ, t, l3, v1, v4 =>
    if 5 ≤ v4 then
      some v1
    else
      (f_X10_page σ t l3 v4).bind fun q9 =>
      (f_X10_mixed σ v1 q9).bind fun q11 =>
      LX10_withPages_16 n σ t l3 q11 (v4 + 1)
def LX10_withPages_2 : Nat → (St) → (Nat) → (Int64) → (Int32) → Option (Int64)
  | 0, _, _, _, _ => none
  | n + 1, σ, t, v1, v3 =>
    (dn σ 1 (hpR σ 323 t)).bind fun a3 =>
    if (hpI σ 38 a3) ≤ v3 then
      some v1
    else
      (LX10_withPages_16 FU σ t v3 v1 0).bind fun x7 =>
      LX10_withPages_2 n σ t x7 (v3 + 1)
def f_X10_withPages (σ : St) (t : Nat) (p1 : Int64) : Option (Int64) :=
  (LX10_withPages_2 FU σ t p1 0).bind fun x2 =>
  some x2
def LX10_withPlaces_38 : Nat → (St) → (Nat) → (Int32) → (Int32) → (Option Nat) → (Int64) → (Int32) → Option (Int64)
  | 0, _, _, _, _, _, _, _ => none
  | n + 1, σ, t, l3, l4, l5, v1, v6 =>
    if l3 ≤ v6 then
      some v1
    else
      (f_X10_byteInRow σ t l5 v6).bind fun q15 =>
      (f_X10_mixed σ v1 q15).bind fun q17 =>
      LX10_withPlaces_38 n σ t l3 l4 l5 q17 (v6 + 1)
def LX10_withPlaces_12 : Nat → (St) → (Nat) → (Int32) → (Int64) → (Int32) → Option (Int64)
  | 0, _, _, _, _, _ => none
  | n + 1, σ, t, l3, v1, v4 =>
    (dn σ 1 (hpR σ 323 t)).bind fun a7 =>
    if (hpI σ 36 a7) ≤ v4 then
      some v1
    else
      (f_X1_rowAt σ a7 v4).bind fun q10 =>
      (LX10_withPlaces_38 FU σ t l3 v4 q10 v1 0).bind fun x13 =>
      LX10_withPlaces_12 n σ t l3 x13 (v4 + 1)
def f_X10_withPlaces (σ : St) (t : Nat) (p1 : Int64) : Option (Int64) :=
  (dn σ 5 (hpR σ 321 t)).bind fun a1 =>
  (f_X5_setting σ a1 0).bind fun q3 =>
  (LX10_withPlaces_12 FU σ t q3 p1 0).bind fun x6 =>
  some x6
def LX10_digest_6 : Nat → (St) → (Nat) → (Int64) → (Int32) → Option (Int64)
  | 0, _, _, _, _ => none
  | n + 1, σ, t, v1, v3 =>
    if 16 ≤ v3 then
      some v1
    else
      (f_X10_count σ t v3).bind fun q4 =>
      (f_X10_mixed σ v1 q4).bind fun q6 =>
      LX10_digest_6 n σ t q6 (v3 + 1)
def LX10_digest_54 : Nat → (St) → (Nat) → (Int64) → (Int32) → Option (Int64)
  | 0, _, _, _, _ => none
  | n + 1, σ, t, v1, v3 =>
    (dn σ 1 (hpR σ 323 t)).bind fun a18 =>
    if (hpI σ 37 a18) ≤ v3 then
      some v1
    else
      (f_X10_shape σ t v3).bind fun q21 =>
      (f_X10_mixed σ v1 q21).bind fun q23 =>
      LX10_digest_54 n σ t q23 (v3 + 1)
def LX10_digest_83 : Nat → (St) → (Nat) → (Int64) → (Int32) → Option (Int64)
  | 0, _, _, _, _ => none
  | n + 1, σ, t, v1, v3 =>
    (dn σ 8 (hpR σ 320 t)).bind fun a27 =>
    if (hpI σ 257 a27) ≤ v3 then
      some v1
    else
      (f_X8_byteAt σ a27 v3).bind fun q30 =>
      (f_X10_mixed σ v1 q30).bind fun q32 =>
      LX10_digest_83 n σ t q32 (v3 + 1)
def f_X10_digest (σ : St) (t : Nat) : Option (Int64) :=
  (LX10_digest_6 FU σ t 805 0).bind fun x2 =>
  (f_X10_withLines σ t x2).bind fun q8 =>
  (f_X10_withRows σ t q8).bind fun q10 =>
  (f_X10_withPages σ t q10).bind fun q12 =>
  (f_X10_withPlaces σ t q12).bind fun q14 =>
  (LX10_digest_54 FU σ t q14 0).bind fun x17 =>
  (LX10_digest_83 FU σ t x17 0).bind fun x26 =>
  some x26
def f_X11_init (σ : St) (t : Nat) : Option (St) :=
  (nwA σ 13 2046).bind fun σ1 =>
  (dn σ1 11 (some t)).bind fun a3 =>
  (nwA (stR σ1 352 a3 (some (hpN σ))) 13 16368).bind fun σ5 =>
  (dn σ5 11 (some t)).bind fun a7 =>
  (nwA (stR σ5 353 a7 (some (hpN (stR σ1 352 a3 (some (hpN σ)))))) 13 80).bind fun σ9 =>
  (dn σ9 11 (some t)).bind fun a11 =>
  (nwA (stR σ9 355 a11 (some (hpN (stR σ5 353 a7 (some (hpN (stR σ1 352 a3 (some (hpN σ))))))))) 13 85).bind fun σ13 =>
  (dn σ13 11 (some t)).bind fun a15 =>
  (nwA (stR σ13 359 a15 (some (hpN (stR σ9 355 a11 (some (hpN (stR σ5 353 a7 (some (hpN (stR σ1 352 a3 (some (hpN σ)))))))))))) 13 960).bind fun σ17 =>
  (dn σ17 11 (some t)).bind fun a19 =>
  (nwA (stR σ17 361 a19 (some (hpN (stR σ13 359 a15 (some (hpN (stR σ9 355 a11 (some (hpN (stR σ5 353 a7 (some (hpN (stR σ1 352 a3 (some (hpN σ))))))))))))))) 13 960).bind fun σ21 =>
  (dn σ21 11 (some t)).bind fun a23 =>
  (nwA (stR σ21 362 a23 (some (hpN (stR σ17 361 a19 (some (hpN (stR σ13 359 a15 (some (hpN (stR σ9 355 a11 (some (hpN (stR σ5 353 a7 (some (hpN (stR σ1 352 a3 (some (hpN σ)))))))))))))))))) 13 960).bind fun σ25 =>
  (dn σ25 11 (some t)).bind fun a27 =>
  (nwA (stR σ25 363 a27 (some (hpN (stR σ21 362 a23 (some (hpN (stR σ17 361 a19 (some (hpN (stR σ13 359 a15 (some (hpN (stR σ9 355 a11 (some (hpN (stR σ5 353 a7 (some (hpN (stR σ1 352 a3 (some (hpN σ))))))))))))))))))))) 13 960).bind fun σ29 =>
  (dn σ29 11 (some t)).bind fun a31 =>
  (nwA (stR σ29 364 a31 (some (hpN (stR σ25 363 a27 (some (hpN (stR σ21 362 a23 (some (hpN (stR σ17 361 a19 (some (hpN (stR σ13 359 a15 (some (hpN (stR σ9 355 a11 (some (hpN (stR σ5 353 a7 (some (hpN (stR σ1 352 a3 (some (hpN σ)))))))))))))))))))))))) 13 960).bind fun σ33 =>
  (dn σ33 11 (some t)).bind fun a35 =>
  (nwA (stR σ33 365 a35 (some (hpN (stR σ29 364 a31 (some (hpN (stR σ25 363 a27 (some (hpN (stR σ21 362 a23 (some (hpN (stR σ17 361 a19 (some (hpN (stR σ13 359 a15 (some (hpN (stR σ9 355 a11 (some (hpN (stR σ5 353 a7 (some (hpN (stR σ1 352 a3 (some (hpN σ))))))))))))))))))))))))))) 13 960).bind fun σ37 =>
  (dn σ37 11 (some t)).bind fun a39 =>
  (nwA (stR σ37 366 a39 (some (hpN (stR σ33 365 a35 (some (hpN (stR σ29 364 a31 (some (hpN (stR σ25 363 a27 (some (hpN (stR σ21 362 a23 (some (hpN (stR σ17 361 a19 (some (hpN (stR σ13 359 a15 (some (hpN (stR σ9 355 a11 (some (hpN (stR σ5 353 a7 (some (hpN (stR σ1 352 a3 (some (hpN σ)))))))))))))))))))))))))))))) 13 960).bind fun σ41 =>
  (dn σ41 11 (some t)).bind fun a43 =>
  (nwA (stR σ41 367 a43 (some (hpN (stR σ37 366 a39 (some (hpN (stR σ33 365 a35 (some (hpN (stR σ29 364 a31 (some (hpN (stR σ25 363 a27 (some (hpN (stR σ21 362 a23 (some (hpN (stR σ17 361 a19 (some (hpN (stR σ13 359 a15 (some (hpN (stR σ9 355 a11 (some (hpN (stR σ5 353 a7 (some (hpN (stR σ1 352 a3 (some (hpN σ))))))))))))))))))))))))))))))))) 13 960).bind fun σ45 =>
  (dn σ45 11 (some t)).bind fun a47 =>
  (nwA (stR σ45 368 a47 (some (hpN (stR σ41 367 a43 (some (hpN (stR σ37 366 a39 (some (hpN (stR σ33 365 a35 (some (hpN (stR σ29 364 a31 (some (hpN (stR σ25 363 a27 (some (hpN (stR σ21 362 a23 (some (hpN (stR σ17 361 a19 (some (hpN (stR σ13 359 a15 (some (hpN (stR σ9 355 a11 (some (hpN (stR σ5 353 a7 (some (hpN (stR σ1 352 a3 (some (hpN σ)))))))))))))))))))))))))))))))))))) 13 24).bind fun σ49 =>
  (dn σ49 11 (some t)).bind fun a51 =>
  (nwA (stR σ49 370 a51 (some (hpN (stR σ45 368 a47 (some (hpN (stR σ41 367 a43 (some (hpN (stR σ37 366 a39 (some (hpN (stR σ33 365 a35 (some (hpN (stR σ29 364 a31 (some (hpN (stR σ25 363 a27 (some (hpN (stR σ21 362 a23 (some (hpN (stR σ17 361 a19 (some (hpN (stR σ13 359 a15 (some (hpN (stR σ9 355 a11 (some (hpN (stR σ5 353 a7 (some (hpN (stR σ1 352 a3 (some (hpN σ))))))))))))))))))))))))))))))))))))))) 13 24).bind fun σ53 =>
  (dn σ53 11 (some t)).bind fun a55 =>
  (nwA (stR σ53 371 a55 (some (hpN (stR σ49 370 a51 (some (hpN (stR σ45 368 a47 (some (hpN (stR σ41 367 a43 (some (hpN (stR σ37 366 a39 (some (hpN (stR σ33 365 a35 (some (hpN (stR σ29 364 a31 (some (hpN (stR σ25 363 a27 (some (hpN (stR σ21 362 a23 (some (hpN (stR σ17 361 a19 (some (hpN (stR σ13 359 a15 (some (hpN (stR σ9 355 a11 (some (hpN (stR σ5 353 a7 (some (hpN (stR σ1 352 a3 (some (hpN σ)))))))))))))))))))))))))))))))))))))))))) 13 24).bind fun σ57 =>
  (dn σ57 11 (some t)).bind fun a59 =>
  (nwA (stR σ57 372 a59 (some (hpN (stR σ53 371 a55 (some (hpN (stR σ49 370 a51 (some (hpN (stR σ45 368 a47 (some (hpN (stR σ41 367 a43 (some (hpN (stR σ37 366 a39 (some (hpN (stR σ33 365 a35 (some (hpN (stR σ29 364 a31 (some (hpN (stR σ25 363 a27 (some (hpN (stR σ21 362 a23 (some (hpN (stR σ17 361 a19 (some (hpN (stR σ13 359 a15 (some (hpN (stR σ9 355 a11 (some (hpN (stR σ5 353 a7 (some (hpN (stR σ1 352 a3 (some (hpN σ))))))))))))))))))))))))))))))))))))))))))))) 13 24).bind fun σ61 =>
  (dn σ61 11 (some t)).bind fun a63 =>
  (dn (stR σ61 373 a63 (some (hpN (stR σ57 372 a59 (some (hpN (stR σ53 371 a55 (some (hpN (stR σ49 370 a51 (some (hpN (stR σ45 368 a47 (some (hpN (stR σ41 367 a43 (some (hpN (stR σ37 366 a39 (some (hpN (stR σ33 365 a35 (some (hpN (stR σ29 364 a31 (some (hpN (stR σ25 363 a27 (some (hpN (stR σ21 362 a23 (some (hpN (stR σ17 361 a19 (some (hpN (stR σ13 359 a15 (some (hpN (stR σ9 355 a11 (some (hpN (stR σ5 353 a7 (some (hpN (stR σ1 352 a3 (some (hpN σ)))))))))))))))))))))))))))))))))))))))))))))))) 13 (hpR (stR σ61 373 a63 (some (hpN (stR σ57 372 a59 (some (hpN (stR σ53 371 a55 (some (hpN (stR σ49 370 a51 (some (hpN (stR σ45 368 a47 (some (hpN (stR σ41 367 a43 (some (hpN (stR σ37 366 a39 (some (hpN (stR σ33 365 a35 (some (hpN (stR σ29 364 a31 (some (hpN (stR σ25 363 a27 (some (hpN (stR σ21 362 a23 (some (hpN (stR σ17 361 a19 (some (hpN (stR σ13 359 a15 (some (hpN (stR σ9 355 a11 (some (hpN (stR σ5 353 a7 (some (hpN (stR σ1 352 a3 (some (hpN σ)))))))))))))))))))))))))))))))))))))))))))))))) 352 a63)).bind fun a65 =>
  (ix 2041 (hpL (stR σ61 373 a63 (some (hpN (stR σ57 372 a59 (some (hpN (stR σ53 371 a55 (some (hpN (stR σ49 370 a51 (some (hpN (stR σ45 368 a47 (some (hpN (stR σ41 367 a43 (some (hpN (stR σ37 366 a39 (some (hpN (stR σ33 365 a35 (some (hpN (stR σ29 364 a31 (some (hpN (stR σ25 363 a27 (some (hpN (stR σ21 362 a23 (some (hpN (stR σ17 361 a19 (some (hpN (stR σ13 359 a15 (some (hpN (stR σ9 355 a11 (some (hpN (stR σ5 353 a7 (some (hpN (stR σ1 352 a3 (some (hpN σ)))))))))))))))))))))))))))))))))))))))))))))))) a65)).bind fun j67 =>
  (dn (stA (stR σ61 373 a63 (some (hpN (stR σ57 372 a59 (some (hpN (stR σ53 371 a55 (some (hpN (stR σ49 370 a51 (some (hpN (stR σ45 368 a47 (some (hpN (stR σ41 367 a43 (some (hpN (stR σ37 366 a39 (some (hpN (stR σ33 365 a35 (some (hpN (stR σ29 364 a31 (some (hpN (stR σ25 363 a27 (some (hpN (stR σ21 362 a23 (some (hpN (stR σ17 361 a19 (some (hpN (stR σ13 359 a15 (some (hpN (stR σ9 355 a11 (some (hpN (stR σ5 353 a7 (some (hpN (stR σ1 352 a3 (some (hpN σ)))))))))))))))))))))))))))))))))))))))))))))))) a65 j67 30) 13 (hpR (stA (stR σ61 373 a63 (some (hpN (stR σ57 372 a59 (some (hpN (stR σ53 371 a55 (some (hpN (stR σ49 370 a51 (some (hpN (stR σ45 368 a47 (some (hpN (stR σ41 367 a43 (some (hpN (stR σ37 366 a39 (some (hpN (stR σ33 365 a35 (some (hpN (stR σ29 364 a31 (some (hpN (stR σ25 363 a27 (some (hpN (stR σ21 362 a23 (some (hpN (stR σ17 361 a19 (some (hpN (stR σ13 359 a15 (some (hpN (stR σ9 355 a11 (some (hpN (stR σ5 353 a7 (some (hpN (stR σ1 352 a3 (some (hpN σ)))))))))))))))))))))))))))))))))))))))))))))))) a65 j67 30) 352 a63)).bind fun a69 =>
  (ix 2042 (hpL (stA (stR σ61 373 a63 (some (hpN (stR σ57 372 a59 (some (hpN (stR σ53 371 a55 (some (hpN (stR σ49 370 a51 (some (hpN (stR σ45 368 a47 (some (hpN (stR σ41 367 a43 (some (hpN (stR σ37 366 a39 (some (hpN (stR σ33 365 a35 (some (hpN (stR σ29 364 a31 (some (hpN (stR σ25 363 a27 (some (hpN (stR σ21 362 a23 (some (hpN (stR σ17 361 a19 (some (hpN (stR σ13 359 a15 (some (hpN (stR σ9 355 a11 (some (hpN (stR σ5 353 a7 (some (hpN (stR σ1 352 a3 (some (hpN σ)))))))))))))))))))))))))))))))))))))))))))))))) a65 j67 30) a69)).bind fun j71 =>
  (dn (stA (stA (stR σ61 373 a63 (some (hpN (stR σ57 372 a59 (some (hpN (stR σ53 371 a55 (some (hpN (stR σ49 370 a51 (some (hpN (stR σ45 368 a47 (some (hpN (stR σ41 367 a43 (some (hpN (stR σ37 366 a39 (some (hpN (stR σ33 365 a35 (some (hpN (stR σ29 364 a31 (some (hpN (stR σ25 363 a27 (some (hpN (stR σ21 362 a23 (some (hpN (stR σ17 361 a19 (some (hpN (stR σ13 359 a15 (some (hpN (stR σ9 355 a11 (some (hpN (stR σ5 353 a7 (some (hpN (stR σ1 352 a3 (some (hpN σ)))))))))))))))))))))))))))))))))))))))))))))))) a65 j67 30) a69 j71 12) 13 (hpR (stA (stA (stR σ61 373 a63 (some (hpN (stR σ57 372 a59 (some (hpN (stR σ53 371 a55 (some (hpN (stR σ49 370 a51 (some (hpN (stR σ45 368 a47 (some (hpN (stR σ41 367 a43 (some (hpN (stR σ37 366 a39 (some (hpN (stR σ33 365 a35 (some (hpN (stR σ29 364 a31 (some (hpN (stR σ25 363 a27 (some (hpN (stR σ21 362 a23 (some (hpN (stR σ17 361 a19 (some (hpN (stR σ13 359 a15 (some (hpN (stR σ9 355 a11 (some (hpN (stR σ5 353 a7 (some (hpN (stR σ1 352 a3 (some (hpN σ)))))))))))))))))))))))))))))))))))))))))))))))) a65 j67 30) a69 j71 12) 352 a63)).bind fun a73 =>
  (ix 2043 (hpL (stA (stA (stR σ61 373 a63 (some (hpN (stR σ57 372 a59 (some (hpN (stR σ53 371 a55 (some (hpN (stR σ49 370 a51 (some (hpN (stR σ45 368 a47 (some (hpN (stR σ41 367 a43 (some (hpN (stR σ37 366 a39 (some (hpN (stR σ33 365 a35 (some (hpN (stR σ29 364 a31 (some (hpN (stR σ25 363 a27 (some (hpN (stR σ21 362 a23 (some (hpN (stR σ17 361 a19 (some (hpN (stR σ13 359 a15 (some (hpN (stR σ9 355 a11 (some (hpN (stR σ5 353 a7 (some (hpN (stR σ1 352 a3 (some (hpN σ)))))))))))))))))))))))))))))))))))))))))))))))) a65 j67 30) a69 j71 12) a73)).bind fun j75 =>
  (dn (stA (stA (stA (stR σ61 373 a63 (some (hpN (stR σ57 372 a59 (some (hpN (stR σ53 371 a55 (some (hpN (stR σ49 370 a51 (some (hpN (stR σ45 368 a47 (some (hpN (stR σ41 367 a43 (some (hpN (stR σ37 366 a39 (some (hpN (stR σ33 365 a35 (some (hpN (stR σ29 364 a31 (some (hpN (stR σ25 363 a27 (some (hpN (stR σ21 362 a23 (some (hpN (stR σ17 361 a19 (some (hpN (stR σ13 359 a15 (some (hpN (stR σ9 355 a11 (some (hpN (stR σ5 353 a7 (some (hpN (stR σ1 352 a3 (some (hpN σ)))))))))))))))))))))))))))))))))))))))))))))))) a65 j67 30) a69 j71 12) a73 j75 2) 13 (hpR (stA (stA (stA (stR σ61 373 a63 (some (hpN (stR σ57 372 a59 (some (hpN (stR σ53 371 a55 (some (hpN (stR σ49 370 a51 (some (hpN (stR σ45 368 a47 (some (hpN (stR σ41 367 a43 (some (hpN (stR σ37 366 a39 (some (hpN (stR σ33 365 a35 (some (hpN (stR σ29 364 a31 (some (hpN (stR σ25 363 a27 (some (hpN (stR σ21 362 a23 (some (hpN (stR σ17 361 a19 (some (hpN (stR σ13 359 a15 (some (hpN (stR σ9 355 a11 (some (hpN (stR σ5 353 a7 (some (hpN (stR σ1 352 a3 (some (hpN σ)))))))))))))))))))))))))))))))))))))))))))))))) a65 j67 30) a69 j71 12) a73 j75 2) 352 a63)).bind fun a77 =>
  (ix 2044 (hpL (stA (stA (stA (stR σ61 373 a63 (some (hpN (stR σ57 372 a59 (some (hpN (stR σ53 371 a55 (some (hpN (stR σ49 370 a51 (some (hpN (stR σ45 368 a47 (some (hpN (stR σ41 367 a43 (some (hpN (stR σ37 366 a39 (some (hpN (stR σ33 365 a35 (some (hpN (stR σ29 364 a31 (some (hpN (stR σ25 363 a27 (some (hpN (stR σ21 362 a23 (some (hpN (stR σ17 361 a19 (some (hpN (stR σ13 359 a15 (some (hpN (stR σ9 355 a11 (some (hpN (stR σ5 353 a7 (some (hpN (stR σ1 352 a3 (some (hpN σ)))))))))))))))))))))))))))))))))))))))))))))))) a65 j67 30) a69 j71 12) a73 j75 2) a77)).bind fun j79 =>
  (dn (stA (stA (stA (stA (stR σ61 373 a63 (some (hpN (stR σ57 372 a59 (some (hpN (stR σ53 371 a55 (some (hpN (stR σ49 370 a51 (some (hpN (stR σ45 368 a47 (some (hpN (stR σ41 367 a43 (some (hpN (stR σ37 366 a39 (some (hpN (stR σ33 365 a35 (some (hpN (stR σ29 364 a31 (some (hpN (stR σ25 363 a27 (some (hpN (stR σ21 362 a23 (some (hpN (stR σ17 361 a19 (some (hpN (stR σ13 359 a15 (some (hpN (stR σ9 355 a11 (some (hpN (stR σ5 353 a7 (some (hpN (stR σ1 352 a3 (some (hpN σ)))))))))))))))))))))))))))))))))))))))))))))))) a65 j67 30) a69 j71 12) a73 j75 2) a77 j79 4) 13 (hpR (stA (stA (stA (stA (stR σ61 373 a63 (some (hpN (stR σ57 372 a59 (some (hpN (stR σ53 371 a55 (some (hpN (stR σ49 370 a51 (some (hpN (stR σ45 368 a47 (some (hpN (stR σ41 367 a43 (some (hpN (stR σ37 366 a39 (some (hpN (stR σ33 365 a35 (some (hpN (stR σ29 364 a31 (some (hpN (stR σ25 363 a27 (some (hpN (stR σ21 362 a23 (some (hpN (stR σ17 361 a19 (some (hpN (stR σ13 359 a15 (some (hpN (stR σ9 355 a11 (some (hpN (stR σ5 353 a7 (some (hpN (stR σ1 352 a3 (some (hpN σ)))))))))))))))))))))))))))))))))))))))))))))))) a65 j67 30) a69 j71 12) a73 j75 2) a77 j79 4) 352 a63)).bind fun a81 =>
  (ix 2045 (hpL (stA (stA (stA (stA (stR σ61 373 a63 (some (hpN (stR σ57 372 a59 (some (hpN (stR σ53 371 a55 (some (hpN (stR σ49 370 a51 (some (hpN (stR σ45 368 a47 (some (hpN (stR σ41 367 a43 (some (hpN (stR σ37 366 a39 (some (hpN (stR σ33 365 a35 (some (hpN (stR σ29 364 a31 (some (hpN (stR σ25 363 a27 (some (hpN (stR σ21 362 a23 (some (hpN (stR σ17 361 a19 (some (hpN (stR σ13 359 a15 (some (hpN (stR σ9 355 a11 (some (hpN (stR σ5 353 a7 (some (hpN (stR σ1 352 a3 (some (hpN σ)))))))))))))))))))))))))))))))))))))))))))))))) a65 j67 30) a69 j71 12) a73 j75 2) a77 j79 4) a81)).bind fun j83 =>
  some (stA (stA (stA (stA (stA (stR σ61 373 a63 (some (hpN (stR σ57 372 a59 (some (hpN (stR σ53 371 a55 (some (hpN (stR σ49 370 a51 (some (hpN (stR σ45 368 a47 (some (hpN (stR σ41 367 a43 (some (hpN (stR σ37 366 a39 (some (hpN (stR σ33 365 a35 (some (hpN (stR σ29 364 a31 (some (hpN (stR σ25 363 a27 (some (hpN (stR σ21 362 a23 (some (hpN (stR σ17 361 a19 (some (hpN (stR σ13 359 a15 (some (hpN (stR σ9 355 a11 (some (hpN (stR σ5 353 a7 (some (hpN (stR σ1 352 a3 (some (hpN σ)))))))))))))))))))))))))))))))))))))))))))))))) a65 j67 30) a69 j71 12) a73 j75 2) a77 j79 4) a81 j83 6)
def f_X11_in (σ : St) (p1 : Int32) (p2 : Int32) (p3 : Int32) : Option (Int32) :=
  if p1 < p2 then
    some 0
  else
    if p3 < p1 then
      some 0
    else
      some 1
def f_X11_lesser (σ : St) (p1 : Int32) (p2 : Int32) : Option (Int32) :=
  if p2 ≤ p1 then
    some p2
  else
    some p1
def LX11_keeps_11 : Nat → (Nat) → (Int32) → (St) → Option (St)
  | 0, _, _, _ => none
  | n + 1, t, v1, τ =>
    if 14322 ≤ v1 then
      some τ
    else
      (dn τ 11 (some t)).bind fun a6 =>
      (dnA τ (hpR τ 353 a6)).bind fun a8 =>
      (ix (v1 + 2046) (hpL τ a8)).bind fun j10 =>
      (dn τ 13 (hpR τ 353 a6)).bind fun a12 =>
      (ix v1 (hpL τ a12)).bind fun j14 =>
      LX11_keeps_11 n t (v1 + 1) (stA τ a12 j14 (hpA τ a8 j10))
def LX11_keeps_52 : Nat → (Nat) → (Int32) → (St) → Option (St)
  | 0, _, _, _ => none
  | n + 1, t, v1, τ =>
    if 2046 ≤ v1 then
      some τ
    else
      (dn τ 11 (some t)).bind fun a21 =>
      (dnA τ (hpR τ 352 a21)).bind fun a23 =>
      (ix v1 (hpL τ a23)).bind fun j25 =>
      (dn τ 13 (hpR τ 353 a21)).bind fun a27 =>
      (ix ((2046 * (hpI τ 354 a21)) + v1) (hpL τ a27)).bind fun j29 =>
      LX11_keeps_52 n t (v1 + 1) (stA τ a27 j29 (hpA τ a23 j25))
def f_X11_keeps (σ : St) (t : Nat) : Option (St) :=
  (if ¬ (hpI σ 354 t) = 8 then
    some σ
  else
    (LX11_keeps_11 FU t 0 σ).bind fun x4 =>
    (dn x4 11 (some t)).bind fun a16 =>
    some (stI x4 354 a16 ((hpI x4 354 a16) - 1))).bind fun (x1 : St) =>
  (LX11_keeps_52 FU t 0 x1).bind fun x19 =>
  (dn x19 11 (some t)).bind fun a31 =>
  some (stI x19 354 a31 ((hpI x19 354 a31) + 1))
def LX11_undo_22 : Nat → (Nat) → (Int32) → (St) → Option (St)
  | 0, _, _, _ => none
  | n + 1, t, v1, τ =>
    if 2046 ≤ v1 then
      some τ
    else
      (dn τ 11 (some t)).bind fun a5 =>
      (dnA τ (hpR τ 353 a5)).bind fun a7 =>
      (ix ((2046 * (hpI τ 354 a5)) + v1) (hpL τ a7)).bind fun j9 =>
      (dn τ 13 (hpR τ 352 a5)).bind fun a11 =>
      (ix v1 (hpL τ a11)).bind fun j13 =>
      LX11_undo_22 n t (v1 + 1) (stA τ a11 j13 (hpA τ a7 j9))
def f_X11_undo (σ : St) (t : Nat) : Option (Int32 × St) :=
  if ¬ (hpI σ 354 t) = 0 then
    (LX11_undo_22 FU t 0 (stI σ 354 t ((hpI σ 354 t) - 1))).bind fun x3 =>
    (dn x3 11 (some t)).bind fun a15 =>
    some ((hpI x3 354 a15), x3)
  else
    some ((-3), σ)
def f_X11_type (σ : St) (t : Nat) (p1 : Int32) : Option (Int32 × St) :=
  (f_X11_in σ p1 0 127).bind fun q1 =>
  if ¬ q1 = 0 then
    if ¬ (hpI σ 356 t) = 80 then
      (dn σ 13 (hpR σ 355 t)).bind fun a5 =>
      (ix (hpI σ 356 t) (hpL σ a5)).bind fun j7 =>
      some ((hpI (stI (stA σ a5 j7 p1) 356 t ((hpI (stA σ a5 j7 p1) 356 t) + 1)) 356 t), (stI (stA σ a5 j7 p1) 356 t ((hpI (stA σ a5 j7 p1) 356 t) + 1)))
    else
      some ((-4), σ)
  else
    some ((-2), σ)
def f_X11_clear (σ : St) (t : Nat) : Option (Int32 × St) :=
  some ((hpI σ 356 t), (stI σ 356 t 0))
def f_X11_next (σ : St) (t : Nat) : Option (Int32) :=
  if (hpI σ 356 t) ≤ (hpI σ 357 t) then
    some (-1)
  else
    (dnA σ (hpR σ 355 t)).bind fun a2 =>
    (ix (hpI σ 357 t) (hpL σ a2)).bind fun j4 =>
    some (hpA σ a2 j4)
def f_X11_isLetter (σ : St) (t : Nat) : Option (Int32) :=
  (f_X11_next σ t).bind fun q1 =>
  (f_X11_in σ q1 97 122).bind fun q3 =>
  (gz q3).bind fun z5 =>
  some q3
def LX11_skips_0 : Nat → (Nat) → (St) → Option (St)
  | 0, _, _ => none
  | n + 1, t, τ =>
    (dn τ 11 (some t)).bind fun a3 =>
    (f_X11_next τ a3).bind fun q5 =>
    if ¬ q5 = 32 then
      some τ
    else
      LX11_skips_0 n t (stI τ 357 a3 ((hpI τ 357 a3) + 1))
def f_X11_skips (σ : St) (t : Nat) : Option (St) :=
  (LX11_skips_0 FU t σ).bind fun x2 =>
  some x2
def f_X11_takes (σ : St) (t : Nat) (p1 : Int32) : Option (Int32 × St) :=
  (f_X11_next σ t).bind fun q1 =>
  (if ¬ q1 = p1 then
    some 0
  else
    some 1).bind fun (x3 : Int32) =>
  if x3 = 0 then
    (gz x3).bind fun z6 =>
    some (x3, σ)
  else
    (f_X11_skips (stI σ 357 t ((hpI σ 357 t) + 1)) t).bind fun q8 =>
    (gz x3).bind fun z10 =>
    some (x3, q8)
def LX11_readsWord_36 : Nat → (Nat) → (Int32) → (St) → Option (St)
  | 0, _, _, _ => none
  | n + 1, t, v1, τ =>
    (dn τ 11 (some t)).bind fun a23 =>
    (f_X11_isLetter τ a23).bind fun q25 =>
    if q25 = 0 then
      some τ
    else
      if 16 ≤ v1 then
        some τ
      else
        (dnA τ (hpR τ 359 a23)).bind fun a29 =>
        (ix 0 (hpL τ a29)).bind fun j31 =>
        (f_X11_next τ a23).bind fun q33 =>
        (dn τ 13 (hpR τ 359 a23)).bind fun a35 =>
        (ix (5 + (hpA τ a29 j31)) (hpL τ a35)).bind fun j37 =>
        (dnA (stA τ a35 j37 q33) (hpR (stA τ a35 j37 q33) 359 a23)).bind fun a39 =>
        (ix 0 (hpL (stA τ a35 j37 q33) a39)).bind fun j41 =>
        (dn (stA τ a35 j37 q33) 13 (hpR (stA τ a35 j37 q33) 359 a23)).bind fun a43 =>
        (ix 0 (hpL (stA τ a35 j37 q33) a43)).bind fun j45 =>
        LX11_readsWord_36 n t (v1 + 1) (stI (stA (stA τ a35 j37 q33) a43 j45 ((hpA (stA τ a35 j37 q33) a39 j41) + 1)) 357 a23 ((hpI (stA (stA τ a35 j37 q33) a43 j45 ((hpA (stA τ a35 j37 q33) a39 j41) + 1)) 357 a23) + 1))
def f_X11_readsWord (σ : St) (t : Nat) : Option (St) :=
  (dnA σ (hpR σ 359 t)).bind fun a1 =>
  (ix 1 (hpL σ a1)).bind fun j3 =>
  (if (hpA σ a1 j3) ≤ 0 then
    some σ
  else
    (ix 0 (hpL σ a1)).bind fun j7 =>
    (dn σ 13 (hpR σ 359 t)).bind fun a9 =>
    (ix (5 + (hpA σ a1 j7)) (hpL σ a9)).bind fun j11 =>
    (dnA (stA σ a9 j11 32) (hpR (stA σ a9 j11 32) 359 t)).bind fun a13 =>
    (ix 0 (hpL (stA σ a9 j11 32) a13)).bind fun j15 =>
    (dn (stA σ a9 j11 32) 13 (hpR (stA σ a9 j11 32) 359 t)).bind fun a17 =>
    (ix 0 (hpL (stA σ a9 j11 32) a17)).bind fun j19 =>
    some (stA (stA σ a9 j11 32) a17 j19 ((hpA (stA σ a9 j11 32) a13 j15) + 1))).bind fun (x5 : St) =>
  (LX11_readsWord_36 FU t 0 x5).bind fun x22 =>
  (dn x22 11 (some t)).bind fun a47 =>
  (dnA x22 (hpR x22 359 a47)).bind fun a49 =>
  (ix 1 (hpL x22 a49)).bind fun j51 =>
  (dn x22 13 (hpR x22 359 a47)).bind fun a53 =>
  (ix 1 (hpL x22 a53)).bind fun j55 =>
  (f_X11_isLetter (stA x22 a53 j55 ((hpA x22 a49 j51) + 1)) a47).bind fun q57 =>
  (if q57 = 0 then
    some (hpI (stA x22 a53 j55 ((hpA x22 a49 j51) + 1)) 358 a47)
  else
    some (hpI (stA x22 a53 j55 ((hpA x22 a49 j51) + 1)) 357 a47)).bind fun (x59 : Int32) =>
  (f_X11_skips (stI (stA x22 a53 j55 ((hpA x22 a49 j51) + 1)) 358 a47 x59) a47).bind fun q61 =>
  some q61
def LX11_readsLine_16 : Nat → (Nat) → (Int32) → (St) → Option (St)
  | 0, _, _, _ => none
  | n + 1, t, v1, τ =>
    if 85 ≤ v1 then
      some τ
    else
      (dn τ 11 (some t)).bind fun a6 =>
      (dn τ 13 (hpR τ 359 a6)).bind fun a8 =>
      (ix v1 (hpL τ a8)).bind fun j10 =>
      LX11_readsLine_16 n t (v1 + 1) (stA τ a8 j10 0)
def LX11_readsLine_55 : Nat → (Nat) → (St) → Option (St)
  | 0, _, _ => none
  | n + 1, t, τ =>
    (dn τ 11 (some t)).bind fun a24 =>
    (dnA τ (hpR τ 359 a24)).bind fun a26 =>
    (ix 2 (hpL τ a26)).bind fun j28 =>
    if 5 ≤ (hpA τ a26 j28) then
      some τ
    else
      (f_X11_takes τ a24 62).bind fun q31 =>
      if q31.1 = 0 then
        some q31.2
      else
        (dn q31.2 11 (some t)).bind fun a34 =>
        (dnA q31.2 (hpR q31.2 359 a34)).bind fun a36 =>
        (ix 2 (hpL q31.2 a36)).bind fun j38 =>
        (dn q31.2 13 (hpR q31.2 359 a34)).bind fun a40 =>
        (ix 2 (hpL q31.2 a40)).bind fun j42 =>
        LX11_readsLine_55 n t (stA q31.2 a40 j42 ((hpA q31.2 a36 j38) + 1))
def LX11_readsLine_87 : Nat → (Nat) → (St) → Option (St)
  | 0, _, _ => none
  | n + 1, t, τ =>
    (dn τ 11 (some t)).bind fun a46 =>
    (f_X11_isLetter τ a46).bind fun q48 =>
    if q48 = 0 then
      some τ
    else
      if ¬ (hpI τ 358 a46) = (-1) then
        some τ
      else
        (f_X11_readsWord τ a46).bind fun q52 =>
        LX11_readsLine_87 n t q52
def f_X11_readsLine (σ : St) (t : Nat) : Option (St) :=
  (f_X11_skips (stI (stI σ 357 t 0) 358 t (-1)) t).bind fun q1 =>
  (LX11_readsLine_16 FU t 0 q1).bind fun x4 =>
  (dn x4 11 (some t)).bind fun a12 =>
  (f_X11_takes x4 a12 126).bind fun q14 =>
  (if q14.1 = 0 then
    some 0
  else
    some 1).bind fun (x16 : Int32) =>
  (dn q14.2 13 (hpR x4 359 a12)).bind fun a18 =>
  (ix 3 (hpL q14.2 a18)).bind fun j20 =>
  (LX11_readsLine_55 FU t (stA q14.2 a18 j20 x16)).bind fun x23 =>
  (LX11_readsLine_87 FU t x23).bind fun x45 =>
  (dn x45 11 (some t)).bind fun a54 =>
  (if ¬ (hpI x45 358 a54) = (-1) then
    some x45
  else
    (dnA x45 (hpR x45 359 a54)).bind fun a58 =>
    (ix 1 (hpL x45 a58)).bind fun j60 =>
    if (hpA x45 a58 j60) ≤ 0 then
      some x45
    else
      (f_X11_takes x45 a54 47).bind fun q63 =>
      (if q63.1 = 0 then
        some 0
      else
        some 1).bind fun (x65 : Int32) =>
      (dn q63.2 13 (hpR x45 359 a54)).bind fun a67 =>
      (ix 4 (hpL q63.2 a67)).bind fun j69 =>
      some (stA q63.2 a67 j69 x65)).bind fun (x56 : St) =>
  (dn x56 11 (some t)).bind fun a71 =>
  if ¬ (hpI x56 358 a71) = (-1) then
    some x56
  else
    (dnA x56 (hpR x56 359 a71)).bind fun a74 =>
    (ix 1 (hpL x56 a74)).bind fun j76 =>
    sb (if (hpA x56 a74 j76) = 0 then
      some (.inr ())
    else
      if (hpI x56 356 a71) ≤ (hpI x56 357 a71) then
        some (.inl x56)
      else
        some (.inr ())) fun (wx78 : Unit) =>
    some (stI x56 358 a71 (hpI x56 357 a71))
def LX11_isName_21 : Nat → (St) → (Nat) → (Int32) → (Int64) → (Int32) → (Int32) → (Int32) → Option (Int32)
  | 0, _, _, _, _, _, _, _ => none
  | n + 1, σ, t, l1, l2, l4, v5, v6 =>
    if l4 ≤ v6 then
      some v5
    else
      if v5 = 0 then
        some v5
      else
        (dnA σ (hpR σ 355 t)).bind fun a7 =>
        (ix (l1 + v6) (hpL σ a7)).bind fun j9 =>
        (if ¬ (hpA σ a7 j9) = ((((l2 >>> (((8 * ((l4 - 1) - v6))).toInt64 &&& 63)) &&& 127)).toInt32) then
          some 0
        else
          some 1).bind fun (x11 : Int32) =>
        LX11_isName_21 n σ t l1 l2 l4 x11 (v6 + 1)
def f_X11_isName (σ : St) (t : Nat) (p1 : Int32) (p2 : Int64) (p3 : Int32) : Option (Int32) :=
  (if ¬ ((hpI σ 357 t) - p1) = p3 then
    some 0
  else
    some 1).bind fun (x1 : Int32) =>
  (LX11_isName_21 FU σ t p1 p2 p3 x1 0).bind fun x4 =>
  (gz x4).bind fun z13 =>
  some x4
def LX11_readsShape_19 : Nat → (Nat) → (Int32) → (St) → Option (St)
  | 0, _, _, _ => none
  | n + 1, t, l1, τ =>
    (dn τ 11 (some t)).bind fun a7 =>
    (f_X11_isLetter τ a7).bind fun q9 =>
    if q9 = 0 then
      some τ
    else
      LX11_readsShape_19 n t l1 (stI τ 357 a7 ((hpI τ 357 a7) + 1))
def f_X11_readsShape (σ : St) (t : Nat) : Option (St) :=
  (f_X11_skips (stI (stI σ 357 t 0) 358 t (-1)) t).bind fun q1 =>
  (dn q1 11 (some t)).bind fun a3 =>
  (LX11_readsShape_19 FU t (hpI q1 357 a3) q1).bind fun x6 =>
  (dn x6 11 (some t)).bind fun a12 =>
  (f_X11_isName x6 a12 (hpI q1 357 a3) 126931137819237 6).bind fun q14 =>
  (if q14 = 0 then
    (f_X11_isName x6 a12 (hpI q1 357 a3) 512802187109 5).bind fun q18 =>
    if q18 = 0 then
      (f_X11_isName x6 a12 (hpI q1 357 a3) 28263364839829092 7).bind fun q21 =>
      if q21 = 0 then
        (f_X11_isName x6 a12 (hpI q1 357 a3) 444199957363 5).bind fun q24 =>
        if q24 = 0 then
          some (-1)
        else
          some 3
      else
        some 2
    else
      some 1
  else
    some 0).bind fun (x16 : Int32) =>
  if ¬ (hpI (stI x6 360 a12 x16) 360 a12) = (-1) then
    (f_X11_skips (stI x6 360 a12 x16) a12).bind fun q28 =>
    (dn q28 11 (some t)).bind fun a30 =>
    (if (hpI q28 356 a30) ≤ (hpI q28 357 a30) then
      some (-1)
    else
      some (hpI q28 357 a30)).bind fun (x32 : Int32) =>
    some (stI q28 358 a30 x32)
  else
    some (stI (stI x6 360 a12 x16) 358 a12 (hpI q1 357 a3))
def f_X11_fault (σ : St) (t : Nat) (p1 : Int32) : Option (Int32 × St) :=
  (if p1 = 0 then
    (f_X11_readsLine σ t).bind fun q3 =>
    some q3
  else
    (f_X11_readsShape σ t).bind fun q5 =>
    some q5).bind fun (x1 : St) =>
  (dn x1 11 (some t)).bind fun a7 =>
  some ((hpI x1 358 a7), x1)
def f_X11_isLine (σ : St) (t : Nat) (p1 : Int32) : Option (Int32) :=
  (dnA σ (hpR σ 352 t)).bind fun a1 =>
  (ix 2040 (hpL σ a1)).bind fun j3 =>
  (f_X11_in σ p1 0 ((hpA σ a1 j3) - 1)).bind fun q5 =>
  (gz q5).bind fun z7 =>
  some q5
def f_X11_of (σ : St) (t : Nat) (p1 : Int32) (p2 : Int32) : Option (Int32) :=
  (dnA σ (hpR σ 352 t)).bind fun a1 =>
  (ix ((85 * p1) + p2) (hpL σ a1)).bind fun j3 =>
  some (hpA σ a1 j3)
def LX11_copies_2 : Nat → (Nat) → (Int32) → (Int32) → (Int32) → (St) → Option (St)
  | 0, _, _, _, _, _ => none
  | n + 1, t, l1, l2, v3, τ =>
    if 85 ≤ v3 then
      some τ
    else
      (dn τ 11 (some t)).bind fun a4 =>
      (dnA τ (hpR τ 352 a4)).bind fun a6 =>
      (ix ((85 * l1) + v3) (hpL τ a6)).bind fun j8 =>
      (dn τ 13 (hpR τ 352 a4)).bind fun a10 =>
      (ix ((85 * l2) + v3) (hpL τ a10)).bind fun j12 =>
      LX11_copies_2 n t l1 l2 (v3 + 1) (stA τ a10 j12 (hpA τ a6 j8))
def f_X11_copies (σ : St) (t : Nat) (p1 : Int32) (p2 : Int32) : Option (St) :=
  (LX11_copies_2 FU t p1 p2 0 σ).bind fun x2 =>
  some x2
def LX11_lays_2 : Nat → (Nat) → (Int32) → (Int32) → (St) → Option (St)
  | 0, _, _, _, _ => none
  | n + 1, t, l1, v2, τ =>
    if 85 ≤ v2 then
      some τ
    else
      (dn τ 11 (some t)).bind fun a4 =>
      (dnA τ (hpR τ 359 a4)).bind fun a6 =>
      (ix v2 (hpL τ a6)).bind fun j8 =>
      (dn τ 13 (hpR τ 352 a4)).bind fun a10 =>
      (ix ((85 * l1) + v2) (hpL τ a10)).bind fun j12 =>
      LX11_lays_2 n t l1 (v2 + 1) (stA τ a10 j12 (hpA τ a6 j8))
def f_X11_lays (σ : St) (t : Nat) (p1 : Int32) : Option (St) :=
  (LX11_lays_2 FU t p1 0 σ).bind fun x2 =>
  some x2
def LX11_insert_69 : Nat → (Nat) → (Int32) → (Int32) → (St) → Option (St)
  | 0, _, _, _, _ => none
  | n + 1, t, l1, v2, τ =>
    if v2 ≤ l1 then
      some τ
    else
      (dn τ 11 (some t)).bind fun a29 =>
      (f_X11_copies τ a29 (v2 - 1) v2).bind fun q31 =>
      LX11_insert_69 n t l1 (v2 + (-1)) q31
def f_X11_insert (σ : St) (t : Nat) (p1 : Int32) : Option (Int32 × St) :=
  (dnA σ (hpR σ 352 t)).bind fun a1 =>
  (ix 2040 (hpL σ a1)).bind fun j3 =>
  (f_X11_in σ p1 0 (hpA σ a1 j3)).bind fun q5 =>
  if ¬ q5 = 0 then
    (f_X11_readsLine σ t).bind fun q8 =>
    (dn q8 11 (some t)).bind fun a10 =>
    if (hpI q8 358 a10) = (-1) then
      (dnA q8 (hpR q8 352 a10)).bind fun a13 =>
      (ix 2040 (hpL q8 a13)).bind fun j15 =>
      if ¬ (hpA q8 a13 j15) = 24 then
        (f_X11_keeps q8 a10).bind fun q18 =>
        (dn q18 11 (some t)).bind fun a20 =>
        (dnA q18 (hpR q18 352 a20)).bind fun a22 =>
        (ix 2040 (hpL q18 a22)).bind fun j24 =>
        (LX11_insert_69 FU t p1 (hpA q18 a22 j24) q18).bind fun x27 =>
        (dn x27 11 (some t)).bind fun a33 =>
        (f_X11_lays x27 a33 p1).bind fun q35 =>
        (dn q35 11 (some t)).bind fun a37 =>
        (dnA q35 (hpR q35 352 a37)).bind fun a39 =>
        (ix 2040 (hpL q35 a39)).bind fun j41 =>
        (dn q35 13 (hpR q35 352 a37)).bind fun a43 =>
        (ix 2040 (hpL q35 a43)).bind fun j45 =>
        (dnA (stA q35 a43 j45 ((hpA q35 a39 j41) + 1)) (hpR (stA q35 a43 j45 ((hpA q35 a39 j41) + 1)) 352 a37)).bind fun a47 =>
        (ix 2040 (hpL (stA q35 a43 j45 ((hpA q35 a39 j41) + 1)) a47)).bind fun j49 =>
        some ((hpA (stA q35 a43 j45 ((hpA q35 a39 j41) + 1)) a47 j49), (stA q35 a43 j45 ((hpA q35 a39 j41) + 1)))
      else
        some ((-4), q8)
    else
      some (((-2000) - (hpI q8 358 a10)), q8)
  else
    some ((-2), σ)
def f_X11_replace (σ : St) (t : Nat) (p1 : Int32) : Option (Int32 × St) :=
  (f_X11_isLine σ t p1).bind fun q1 =>
  if ¬ q1 = 0 then
    (f_X11_readsLine σ t).bind fun q4 =>
    (dn q4 11 (some t)).bind fun a6 =>
    if (hpI q4 358 a6) = (-1) then
      (f_X11_keeps q4 a6).bind fun q9 =>
      (dn q9 11 (some t)).bind fun a11 =>
      (f_X11_of q9 a11 p1 1).bind fun q13 =>
      (f_X11_lays q9 a11 p1).bind fun q15 =>
      some (q13, q15)
    else
      some (((-2000) - (hpI q4 358 a6)), q4)
  else
    some ((-2), σ)
def LX11_drops_14 : Nat → (Nat) → (Int32) → (St) → Option (St)
  | 0, _, _, _ => none
  | n + 1, t, v2, τ =>
    (dn τ 11 (some t)).bind fun a11 =>
    (dnA τ (hpR τ 352 a11)).bind fun a13 =>
    (ix 2040 (hpL τ a13)).bind fun j15 =>
    if (hpA τ a13 j15) ≤ v2 then
      some τ
    else
      (f_X11_copies τ a11 (v2 + 1) v2).bind fun q18 =>
      LX11_drops_14 n t (v2 + 1) q18
def f_X11_drops (σ : St) (t : Nat) (p1 : Int32) : Option (St) :=
  (dnA σ (hpR σ 352 t)).bind fun a1 =>
  (ix 2040 (hpL σ a1)).bind fun j3 =>
  (dn σ 13 (hpR σ 352 t)).bind fun a5 =>
  (ix 2040 (hpL σ a5)).bind fun j7 =>
  (LX11_drops_14 FU t p1 (stA σ a5 j7 ((hpA σ a1 j3) - 1))).bind fun x10 =>
  some x10
def f_X11_remove (σ : St) (t : Nat) (p1 : Int32) : Option (Int32 × St) :=
  (f_X11_isLine σ t p1).bind fun q1 =>
  if ¬ q1 = 0 then
    (f_X11_keeps σ t).bind fun q4 =>
    (dn q4 11 (some t)).bind fun a6 =>
    (f_X11_drops q4 a6 p1).bind fun q8 =>
    (dn q8 11 (some t)).bind fun a10 =>
    (dnA q8 (hpR q8 352 a10)).bind fun a12 =>
    (ix 2040 (hpL q8 a12)).bind fun j14 =>
    some ((hpA q8 a12 j14), q8)
  else
    some ((-2), σ)
def f_X11_beginsStanza (σ : St) (t : Nat) (p1 : Int32) : Option (Int32) :=
  if p1 = 0 then
    some 1
  else
    (f_X11_of σ t (p1 - 1) 4).bind fun q2 =>
    if ¬ q2 = 1 then
      some 0
    else
      some 1
def LX11_stanzaOf_4 : Nat → (St) → (Nat) → (Int32) → (Int32) → (Int32) → Option (Int32)
  | 0, _, _, _, _, _ => none
  | n + 1, σ, t, l1, v2, v3 =>
    if l1 < v3 then
      some v2
    else
      (f_X11_beginsStanza σ t v3).bind fun q4 =>
      (if q4 = 0 then
        some 0
      else
        some 1).bind fun (x6 : Int32) =>
      LX11_stanzaOf_4 n σ t l1 (v2 + x6) (v3 + 1)
def f_X11_stanzaOf (σ : St) (t : Nat) (p1 : Int32) : Option (Int32) :=
  (LX11_stanzaOf_4 FU σ t p1 (-1) 0).bind fun x2 =>
  some x2
def f_X11_stanzas (σ : St) (t : Nat) : Option (Int32) :=
  (dnA σ (hpR σ 352 t)).bind fun a1 =>
  (ix 2040 (hpL σ a1)).bind fun j3 =>
  if ¬ (hpA σ a1 j3) = 0 then
    (ix 2040 (hpL σ a1)).bind fun j6 =>
    (f_X11_stanzaOf σ t ((hpA σ a1 j6) - 1)).bind fun q8 =>
    some (q8 + 1)
  else
    some 0
def LX11_move_97 : Nat → (Nat) → (Int32) → (Int32) → (Int32) → (Int32) → (Int32) → (Int32) → (Int32) → (St) → Option (St)
  | 0, _, _, _, _, _, _, _, _, _ => none
  | n + 1, t, l1, l2, l3, l4, l5, l6, v7, τ =>
    if 85 ≤ v7 then
      some τ
    else
      (dn τ 11 (some t)).bind fun a28 =>
      (f_X11_of τ a28 l5 v7).bind fun q30 =>
      (dn τ 13 (hpR τ 359 a28)).bind fun a32 =>
      (ix v7 (hpL τ a32)).bind fun j34 =>
      LX11_move_97 n t l1 l2 l3 l4 l5 l6 (v7 + 1) (stA τ a32 j34 q30)
def LX11_move_129 : Nat → (Nat) → (Int32) → (Int32) → (Int32) → (Int32) → (Int32) → (Int32) → (Int32) → (St) → Option (St)
  | 0, _, _, _, _, _, _, _, _, _ => none
  | n + 1, t, l1, l2, l3, l4, l5, l6, v7, τ =>
    if v7 ≤ l6 then
      some τ
    else
      (dn τ 11 (some t)).bind fun a39 =>
      (f_X11_copies τ a39 (v7 - 1) v7).bind fun q41 =>
      LX11_move_129 n t l1 l2 l3 l4 l5 l6 (v7 + (-1)) q41
def LX11_move_156 : Nat → (Nat) → (Int32) → (Int32) → (Int32) → (Int32) → (Int32) → (Int32) → (St) → Option (St)
  | 0, _, _, _, _, _, _, _, _ => none
  | n + 1, t, l1, l2, l3, l4, l6, v7, τ =>
    if l6 ≤ v7 then
      some τ
    else
      (dn τ 11 (some t)).bind fun a46 =>
      (f_X11_copies τ a46 (v7 + 1) v7).bind fun q48 =>
      LX11_move_156 n t l1 l2 l3 l4 l6 (v7 + 1) q48
def LX11_move_54 : Nat → (Nat) → (Int32) → (Int32) → (Int32) → (Int32) → (St) → Option (St)
  | 0, _, _, _, _, _, _ => none
  | n + 1, t, l1, l2, l3, v4, τ =>
    if l2 ≤ v4 then
      some τ
    else
      (if l1 ≤ l3 then
        some l1
      else
        some (l1 + v4)).bind fun (x21 : Int32) =>
      (if l1 ≤ l3 then
        some ((l3 + l2) - 1)
      else
        some (l3 + v4)).bind fun (x23 : Int32) =>
      (LX11_move_97 FU t l1 l2 l3 v4 x21 x23 0 τ).bind fun x26 =>
      (LX11_move_129 FU t l1 l2 l3 v4 x21 x23 x21 x26).bind fun x37 =>
      (LX11_move_156 FU t l1 l2 l3 v4 x23 x21 x37).bind fun x44 =>
      (dn x44 11 (some t)).bind fun a50 =>
      (f_X11_lays x44 a50 x23).bind fun q52 =>
      LX11_move_54 n t l1 l2 l3 (v4 + 1) q52
def f_X11_move (σ : St) (t : Nat) (p1 : Int32) (p2 : Int32) (p3 : Int32) : Option (Int32 × St) :=
  (f_X11_isLine σ t p1).bind fun q1 =>
  if q1 = 0 then
    some ((-2), σ)
  else
    (dnA σ (hpR σ 352 t)).bind fun a4 =>
    (ix 2040 (hpL σ a4)).bind fun j6 =>
    (f_X11_in σ p2 1 ((hpA σ a4 j6) - p1)).bind fun q8 =>
    if q8 = 0 then
      some ((-2), σ)
    else
      (ix 2040 (hpL σ a4)).bind fun j11 =>
      (f_X11_in σ p3 0 ((hpA σ a4 j11) - p2)).bind fun q13 =>
      if ¬ q13 = 0 then
        (f_X11_keeps σ t).bind fun q16 =>
        (LX11_move_54 FU t p1 p2 p3 0 q16).bind fun x19 =>
        (dn x19 11 (some t)).bind fun a54 =>
        (f_X11_stanzas x19 a54).bind fun q56 =>
        some (q56, x19)
      else
        some ((-2), σ)
def f_X11_toggle (σ : St) (t : Nat) (p1 : Int32) (p2 : Int32) : Option (Int32 × St) :=
  (f_X11_isLine σ t p1).bind fun q1 =>
  if ¬ q1 = 0 then
    (f_X11_keeps σ t).bind fun q4 =>
    (if p2 = 0 then
      some 4
    else
      some 3).bind fun (x6 : Int32) =>
    (dn q4 11 (some t)).bind fun a8 =>
    (dnA q4 (hpR q4 352 a8)).bind fun a10 =>
    (ix ((85 * p1) + x6) (hpL q4 a10)).bind fun j12 =>
    (dn q4 13 (hpR q4 352 a8)).bind fun a14 =>
    (ix ((85 * p1) + x6) (hpL q4 a14)).bind fun j16 =>
    (dnA (stA q4 a14 j16 (1 - (hpA q4 a10 j12))) (hpR (stA q4 a14 j16 (1 - (hpA q4 a10 j12))) 352 a8)).bind fun a18 =>
    (ix ((85 * p1) + x6) (hpL (stA q4 a14 j16 (1 - (hpA q4 a10 j12))) a18)).bind fun j20 =>
    some ((hpA (stA q4 a14 j16 (1 - (hpA q4 a10 j12))) a18 j20), (stA q4 a14 j16 (1 - (hpA q4 a10 j12))))
  else
    some ((-2), σ)
def f_X11_leans (σ : St) (t : Nat) (p1 : Int32) : Option (Int32) :=
  (f_X11_of σ t p1 3).bind fun q1 =>
  if ¬ q1 = 1 then
    some 0
  else
    (f_X11_beginsStanza σ t p1).bind fun q4 =>
    if ¬ q4 = 0 then
      some 0
    else
      some 1
def LX11_numberOf_4 : Nat → (St) → (Nat) → (Int32) → (Int32) → (Int32) → Option (Int32)
  | 0, _, _, _, _, _ => none
  | n + 1, σ, t, l1, v2, v3 =>
    if l1 < v3 then
      some v2
    else
      (f_X11_leans σ t v3).bind fun q4 =>
      (if q4 = 0 then
        some 1
      else
        some 0).bind fun (x6 : Int32) =>
      LX11_numberOf_4 n σ t l1 (v2 + x6) (v3 + 1)
def f_X11_numberOf (σ : St) (t : Nat) (p1 : Int32) : Option (Int32) :=
  (LX11_numberOf_4 FU σ t p1 0 0).bind fun x2 =>
  some x2
def f_X11_begins (σ : St) (t : Nat) (p1 : Int32) (p2 : Int32) (p3 : Int32) (p4 : Int32) (p5 : Int32) : Option (St) :=
  (dn σ 13 (hpR σ 361 t)).bind fun a1 =>
  (ix (hpI σ 369 t) (hpL σ a1)).bind fun j3 =>
  (dn (stA σ a1 j3 p1) 13 (hpR (stA σ a1 j3 p1) 362 t)).bind fun a5 =>
  (ix (hpI (stA σ a1 j3 p1) 369 t) (hpL (stA σ a1 j3 p1) a5)).bind fun j7 =>
  (dnA (stA (stA σ a1 j3 p1) a5 j7 p2) (hpR (stA (stA σ a1 j3 p1) a5 j7 p2) 352 t)).bind fun a9 =>
  (ix 2041 (hpL (stA (stA σ a1 j3 p1) a5 j7 p2) a9)).bind fun j11 =>
  (f_X11_lesser (stA (stA σ a1 j3 p1) a5 j7 p2) p3 ((hpA (stA (stA σ a1 j3 p1) a5 j7 p2) a9 j11) - 6)).bind fun q13 =>
  (dn (stA (stA σ a1 j3 p1) a5 j7 p2) 13 (hpR (stA (stA σ a1 j3 p1) a5 j7 p2) 363 t)).bind fun a15 =>
  (ix (hpI (stA (stA σ a1 j3 p1) a5 j7 p2) 369 t) (hpL (stA (stA σ a1 j3 p1) a5 j7 p2) a15)).bind fun j17 =>
  (dn (stA (stA (stA σ a1 j3 p1) a5 j7 p2) a15 j17 q13) 13 (hpR (stA (stA (stA σ a1 j3 p1) a5 j7 p2) a15 j17 q13) 364 t)).bind fun a19 =>
  (ix (hpI (stA (stA (stA σ a1 j3 p1) a5 j7 p2) a15 j17 q13) 369 t) (hpL (stA (stA (stA σ a1 j3 p1) a5 j7 p2) a15 j17 q13) a19)).bind fun j21 =>
  (dn (stA (stA (stA (stA σ a1 j3 p1) a5 j7 p2) a15 j17 q13) a19 j21 0) 13 (hpR (stA (stA (stA (stA σ a1 j3 p1) a5 j7 p2) a15 j17 q13) a19 j21 0) 366 t)).bind fun a23 =>
  (ix (hpI (stA (stA (stA (stA σ a1 j3 p1) a5 j7 p2) a15 j17 q13) a19 j21 0) 369 t) (hpL (stA (stA (stA (stA σ a1 j3 p1) a5 j7 p2) a15 j17 q13) a19 j21 0) a23)).bind fun j25 =>
  (dn (stA (stA (stA (stA (stA σ a1 j3 p1) a5 j7 p2) a15 j17 q13) a19 j21 0) a23 j25 p4) 13 (hpR (stA (stA (stA (stA (stA σ a1 j3 p1) a5 j7 p2) a15 j17 q13) a19 j21 0) a23 j25 p4) 365 t)).bind fun a27 =>
  (ix (hpI (stA (stA (stA (stA (stA σ a1 j3 p1) a5 j7 p2) a15 j17 q13) a19 j21 0) a23 j25 p4) 369 t) (hpL (stA (stA (stA (stA (stA σ a1 j3 p1) a5 j7 p2) a15 j17 q13) a19 j21 0) a23 j25 p4) a27)).bind fun j29 =>
  some (stI (stA (stA (stA (stA (stA (stA σ a1 j3 p1) a5 j7 p2) a15 j17 q13) a19 j21 0) a23 j25 p4) a27 j29 p5) 369 t ((hpI (stA (stA (stA (stA (stA (stA σ a1 j3 p1) a5 j7 p2) a15 j17 q13) a19 j21 0) a23 j25 p4) a27 j29 p5) 369 t) + 1))
def LX11_wordFrom_2 : Nat → (St) → (Nat) → (Int32) → (Int32) → (Int32) → Option (Int32)
  | 0, _, _, _, _, _ => none
  | n + 1, σ, t, l1, l2, v3 =>
    (f_X11_of σ t l1 0).bind fun q3 =>
    if q3 ≤ (l2 + v3) then
      some v3
    else
      (f_X11_of σ t l1 ((5 + l2) + v3)).bind fun q6 =>
      if q6 = 32 then
        some v3
      else
        LX11_wordFrom_2 n σ t l1 l2 (v3 + 1)
def f_X11_wordFrom (σ : St) (t : Nat) (p1 : Int32) (p2 : Int32) : Option (Int32) :=
  (LX11_wordFrom_2 FU σ t p1 p2 0).bind fun x2 =>
  some x2
def LX11_laysRows_69 : Nat → (Nat) → (Int32) → (Int32) → (Int32) → (Int32) → (St) → Option (St)
  | 0, _, _, _, _, _, _ => none
  | n + 1, t, l1, l2, l3, v4, τ =>
    (dn τ 11 (some t)).bind fun a23 =>
    (f_X11_of τ a23 l1 0).bind fun q25 =>
    if q25 ≤ v4 then
      some τ
    else
      (f_X11_wordFrom τ a23 l1 v4).bind fun q28 =>
      (dnA τ (hpR τ 364 a23)).bind fun a30 =>
      (ix ((hpI τ 369 a23) - 1) (hpL τ a30)).bind fun j32 =>
      (if (hpA τ a30 j32) ≤ 0 then
        some 0
      else
        some 1).bind fun (x34 : Int32) =>
      (dnA τ (hpR τ 352 a23)).bind fun a36 =>
      (ix 2041 (hpL τ a36)).bind fun j38 =>
      (dnA τ (hpR τ 363 a23)).bind fun a40 =>
      (ix ((hpI τ 369 a23) - 1) (hpL τ a40)).bind fun j42 =>
      (ix ((hpI τ 369 a23) - 1) (hpL τ a30)).bind fun j44 =>
      (if ((((hpA τ a36 j38) - (hpA τ a40 j42)) - (hpA τ a30 j44)) - x34) < q28 then
        if ¬ x34 = 1 then
          (dn τ 13 (hpR τ 364 a23)).bind fun a49 =>
          (ix ((hpI τ 369 a23) - 1) (hpL τ a49)).bind fun j51 =>
          (dnA (stA τ a49 j51 ((((hpA τ a36 j38) - (hpA τ a40 j42)) - (hpA τ a30 j44)) - x34)) (hpR (stA τ a49 j51 ((((hpA τ a36 j38) - (hpA τ a40 j42)) - (hpA τ a30 j44)) - x34)) 352 a23)).bind fun a53 =>
          (ix 2044 (hpL (stA τ a49 j51 ((((hpA τ a36 j38) - (hpA τ a40 j42)) - (hpA τ a30 j44)) - x34)) a53)).bind fun j55 =>
          (f_X11_begins (stA τ a49 j51 ((((hpA τ a36 j38) - (hpA τ a40 j42)) - (hpA τ a30 j44)) - x34)) a23 l1 ((hpI (stA τ a49 j51 ((((hpA τ a36 j38) - (hpA τ a40 j42)) - (hpA τ a30 j44)) - x34)) 369 a23) - l3) (l2 + (hpA (stA τ a49 j51 ((((hpA τ a36 j38) - (hpA τ a40 j42)) - (hpA τ a30 j44)) - x34)) a53 j55)) (v4 + ((((hpA τ a36 j38) - (hpA τ a40 j42)) - (hpA τ a30 j44)) - x34)) 1).bind fun q57 =>
          some ((v4 + ((((hpA τ a36 j38) - (hpA τ a40 j42)) - (hpA τ a30 j44)) - x34)), q57)
        else
          (ix 2044 (hpL τ a36)).bind fun j59 =>
          (f_X11_begins τ a23 l1 ((hpI τ 369 a23) - l3) (l2 + (hpA τ a36 j59)) v4 0).bind fun q61 =>
          some (v4, q61)
      else
        (ix ((hpI τ 369 a23) - 1) (hpL τ a30)).bind fun j63 =>
        (dn τ 13 (hpR τ 364 a23)).bind fun a65 =>
        (ix ((hpI τ 369 a23) - 1) (hpL τ a65)).bind fun j67 =>
        some ((v4 + (q28 + 1)), (stA τ a65 j67 ((hpA τ a30 j63) + (x34 + q28))))).bind fun (x46 : Int32 × St) =>
      LX11_laysRows_69 n t l1 l2 l3 x46.1 x46.2
def f_X11_laysRows (σ : St) (t : Nat) (p1 : Int32) : Option (St) :=
  (f_X11_of σ t p1 2).bind fun q1 =>
  (dnA σ (hpR σ 352 t)).bind fun a3 =>
  (ix 2043 (hpL σ a3)).bind fun j5 =>
  (f_X11_leans σ t p1).bind fun q7 =>
  (if q7 = 0 then
    some (q1 * (hpA σ a3 j5))
  else
    (dnA σ (hpR σ 363 t)).bind fun a11 =>
    (ix ((hpI σ 369 t) - 1) (hpL σ a11)).bind fun j13 =>
    (dnA σ (hpR σ 364 t)).bind fun a15 =>
    (ix ((hpI σ 369 t) - 1) (hpL σ a15)).bind fun j17 =>
    some (((hpA σ a11 j13) + (hpA σ a15 j17)) + 1)).bind fun (x9 : Int32) =>
  (f_X11_begins σ t p1 0 x9 0 0).bind fun q19 =>
  (LX11_laysRows_69 FU t p1 (q1 * (hpA σ a3 j5)) (hpI σ 369 t) 0 q19).bind fun x22 =>
  some x22
def f_X11_turns (σ : St) (t : Nat) : Option (St) :=
  some (stI (stI (stI σ 374 t ((hpI σ 374 t) + 1)) 375 t 0) 376 t 1)
def LX11_paginates_154 : Nat → (Nat) → (Int32) → (Int32) → (Int32) → (Int32) → (St) → Option (St)
  | 0, _, _, _, _, _, _ => none
  | n + 1, t, l1, l2, l3, v4, τ =>
    (dn τ 11 (some t)).bind fun a49 =>
    (dnA τ (hpR τ 371 a49)).bind fun a51 =>
    (ix l1 (hpL τ a51)).bind fun j53 =>
    if ((hpA τ a51 j53) + l2) ≤ v4 then
      some τ
    else
      (if ¬ (hpI τ 375 a49) = l3 then
        some τ
      else
        (f_X11_turns τ a49).bind fun q58 =>
        some q58).bind fun (x56 : St) =>
      (dn x56 11 (some t)).bind fun a60 =>
      (dn x56 13 (hpR x56 367 a60)).bind fun a62 =>
      (ix v4 (hpL x56 a62)).bind fun j64 =>
      (dn (stA x56 a62 j64 (hpI x56 374 a60)) 13 (hpR (stA x56 a62 j64 (hpI x56 374 a60)) 368 a60)).bind fun a66 =>
      (ix v4 (hpL (stA x56 a62 j64 (hpI x56 374 a60)) a66)).bind fun j68 =>
      LX11_paginates_154 n t l1 l2 l3 (v4 + 1) (stI (stI (stA (stA x56 a62 j64 (hpI x56 374 a60)) a66 j68 (hpI (stA x56 a62 j64 (hpI x56 374 a60)) 375 a60)) 375 a60 ((hpI (stA (stA x56 a62 j64 (hpI x56 374 a60)) a66 j68 (hpI (stA x56 a62 j64 (hpI x56 374 a60)) 375 a60)) 375 a60) + 1)) 376 a60 0)
def f_X11_paginates (σ : St) (t : Nat) (p1 : Int32) : Option (St) :=
  (dnA σ (hpR σ 372 t)).bind fun a1 =>
  (ix p1 (hpL σ a1)).bind fun j3 =>
  (dnA σ (hpR σ 352 t)).bind fun a5 =>
  (ix 2042 (hpL σ a5)).bind fun j7 =>
  (f_X11_beginsStanza σ t p1).bind fun q9 =>
  (if q9 = 0 then
    if ¬ (hpI σ 376 t) = 0 then
      some σ
    else
      if (hpA σ a1 j3) ≤ ((hpA σ a5 j7) - (hpI σ 375 t)) then
        some σ
      else
        (f_X11_turns σ t).bind fun q15 =>
        some q15
  else
    (dnA σ (hpR σ 370 t)).bind fun a17 =>
    (ix p1 (hpL σ a17)).bind fun j19 =>
    (dnA σ (hpR σ 373 t)).bind fun a21 =>
    (ix (hpA σ a17 j19) (hpL σ a21)).bind fun j23 =>
    (ix 2045 (hpL σ a5)).bind fun j25 =>
    (if (hpA σ a5 j25) < (hpA σ a21 j23) then
      some 0
    else
      if (hpA σ a5 j7) < (hpA σ a21 j23) then
        some 0
      else
        if (hpA σ a21 j23) ≤ (((hpA σ a5 j7) - (hpI σ 375 t)) - 1) then
          some 0
        else
          some 1).bind fun (x27 : Int32) =>
    (if ¬ (hpI σ 376 t) = 0 then
      if ¬ (hpI σ 376 t) = 0 then
        some σ
      else
        some (stI σ 375 t ((hpI σ 375 t) + 1))
    else
      if (((hpA σ a5 j7) - (hpI σ 375 t)) - 1) < (hpA σ a1 j3) then
        (f_X11_turns σ t).bind fun q35 =>
        some q35
      else
        if x27 = 0 then
          if ¬ (hpI σ 376 t) = 0 then
            some σ
          else
            some (stI σ 375 t ((hpI σ 375 t) + 1))
        else
          (f_X11_turns σ t).bind fun q39 =>
          some q39).bind fun (x31 : St) =>
    some x31).bind fun (x11 : St) =>
  (dn x11 11 (some t)).bind fun a41 =>
  (dnA x11 (hpR x11 371 a41)).bind fun a43 =>
  (ix p1 (hpL x11 a43)).bind fun j45 =>
  (LX11_paginates_154 FU t p1 (hpA σ a1 j3) (hpA σ a5 j7) (hpA x11 a43 j45) x11).bind fun x48 =>
  some x48
def LX11_draws_9 : Nat → (Nat) → (Int32) → (Int32) → (St) → Option (St)
  | 0, _, _, _, _ => none
  | n + 1, t, v1, v2, τ =>
    (dn τ 11 (some t)).bind fun a3 =>
    (dnA τ (hpR τ 352 a3)).bind fun a5 =>
    (ix 2040 (hpL τ a5)).bind fun j7 =>
    if (hpA τ a5 j7) ≤ v2 then
      some τ
    else
      (f_X11_beginsStanza τ a3 v2).bind fun q10 =>
      (if q10 = 0 then
        some (v1, τ)
      else
        (dn τ 13 (hpR τ 373 a3)).bind fun a14 =>
        (ix (v1 + 1) (hpL τ a14)).bind fun j16 =>
        some ((v1 + 1), (stA τ a14 j16 0))).bind fun (x12 : Int32 × St) =>
      (dn x12.2 11 (some t)).bind fun a18 =>
      (dn x12.2 13 (hpR x12.2 370 a18)).bind fun a20 =>
      (ix v2 (hpL x12.2 a20)).bind fun j22 =>
      (dn (stA x12.2 a20 j22 x12.1) 13 (hpR (stA x12.2 a20 j22 x12.1) 371 a18)).bind fun a24 =>
      (ix v2 (hpL (stA x12.2 a20 j22 x12.1) a24)).bind fun j26 =>
      (f_X11_laysRows (stA (stA x12.2 a20 j22 x12.1) a24 j26 (hpI (stA x12.2 a20 j22 x12.1) 369 a18)) a18 v2).bind fun q28 =>
      (dn q28 11 (some t)).bind fun a30 =>
      (dnA q28 (hpR q28 371 a30)).bind fun a32 =>
      (ix v2 (hpL q28 a32)).bind fun j34 =>
      (dn q28 13 (hpR q28 372 a30)).bind fun a36 =>
      (ix v2 (hpL q28 a36)).bind fun j38 =>
      (dnA (stA q28 a36 j38 ((hpI q28 369 a30) - (hpA q28 a32 j34))) (hpR (stA q28 a36 j38 ((hpI q28 369 a30) - (hpA q28 a32 j34))) 373 a30)).bind fun a40 =>
      (ix x12.1 (hpL (stA q28 a36 j38 ((hpI q28 369 a30) - (hpA q28 a32 j34))) a40)).bind fun j42 =>
      (dnA (stA q28 a36 j38 ((hpI q28 369 a30) - (hpA q28 a32 j34))) (hpR (stA q28 a36 j38 ((hpI q28 369 a30) - (hpA q28 a32 j34))) 372 a30)).bind fun a44 =>
      (ix v2 (hpL (stA q28 a36 j38 ((hpI q28 369 a30) - (hpA q28 a32 j34))) a44)).bind fun j46 =>
      (dn (stA q28 a36 j38 ((hpI q28 369 a30) - (hpA q28 a32 j34))) 13 (hpR (stA q28 a36 j38 ((hpI q28 369 a30) - (hpA q28 a32 j34))) 373 a30)).bind fun a48 =>
      (ix x12.1 (hpL (stA q28 a36 j38 ((hpI q28 369 a30) - (hpA q28 a32 j34))) a48)).bind fun j50 =>
      LX11_draws_9 n t x12.1 (v2 + 1) (stA (stA q28 a36 j38 ((hpI q28 369 a30) - (hpA q28 a32 j34))) a48 j50 ((hpA (stA q28 a36 j38 ((hpI q28 369 a30) - (hpA q28 a32 j34))) a40 j42) + (hpA (stA q28 a36 j38 ((hpI q28 369 a30) - (hpA q28 a32 j34))) a44 j46)))
def LX11_draws_116 : Nat → (Nat) → (Int32) → (St) → Option (St)
  | 0, _, _, _ => none
  | n + 1, t, v2, τ =>
    (dn τ 11 (some t)).bind fun a56 =>
    (dnA τ (hpR τ 352 a56)).bind fun a58 =>
    (ix 2040 (hpL τ a58)).bind fun j60 =>
    if (hpA τ a58 j60) ≤ v2 then
      some τ
    else
      (f_X11_paginates τ a56 v2).bind fun q63 =>
      LX11_draws_116 n t (v2 + 1) q63
def f_X11_draws (σ : St) (t : Nat) : Option (St) :=
  (LX11_draws_9 FU t (-1) 0 (stI σ 369 t 0)).bind fun x2 =>
  (dn x2 11 (some t)).bind fun a52 =>
  (LX11_draws_116 FU t 0 (stI (stI (stI x2 374 a52 0) 375 a52 0) 376 a52 1)).bind fun x55 =>
  some x55
def f_X11_pages (σ : St) (t : Nat) : Option (Int32) :=
  if ¬ (hpI σ 369 t) = 0 then
    (dnA σ (hpR σ 367 t)).bind fun a2 =>
    (ix ((hpI σ 369 t) - 1) (hpL σ a2)).bind fun j4 =>
    some ((hpA σ a2 j4) + 1)
  else
    some 0
def f_X11_letters (σ : St) (t : Nat) (p1 : Int32) : Option (Int32) :=
  (f_X11_of σ t p1 0).bind fun q1 =>
  (f_X11_of σ t p1 1).bind fun q3 =>
  some ((q1 - q3) + 1)
def f_X11_linePart (σ : St) (t : Nat) (p1 : Int32) (p2 : Int32) : Option (Int32) :=
  if p2 = 0 then
    (f_X11_letters σ t p1).bind fun q1 =>
    some q1
  else if p2 = 1 then
    (f_X11_of σ t p1 1).bind fun q3 =>
    some q3
  else if p2 = 2 then
    (f_X11_of σ t p1 2).bind fun q5 =>
    some q5
  else if p2 = 3 then
    (f_X11_of σ t p1 3).bind fun q7 =>
    some q7
  else if p2 = 4 then
    (f_X11_leans σ t p1).bind fun q9 =>
    if q9 = 0 then
      some 0
    else
      some 1
  else if p2 = 5 then
    (f_X11_of σ t p1 4).bind fun q12 =>
    some q12
  else if p2 = 6 then
    (f_X11_numberOf σ t p1).bind fun q14 =>
    some q14
  else if p2 = 7 then
    (dnA σ (hpR σ 371 t)).bind fun a16 =>
    (ix p1 (hpL σ a16)).bind fun j18 =>
    some (hpA σ a16 j18)
  else if p2 = 8 then
    (dnA σ (hpR σ 372 t)).bind fun a20 =>
    (ix p1 (hpL σ a20)).bind fun j22 =>
    some (hpA σ a20 j22)
  else 
    (dnA σ (hpR σ 370 t)).bind fun a24 =>
    (ix p1 (hpL σ a24)).bind fun j26 =>
    some (hpA σ a24 j26)
def f_X11_line (σ : St) (t : Nat) (p1 : Int32) (p2 : Int32) : Option (Int32 × St) :=
  (f_X11_isLine σ t p1).bind fun q1 =>
  if q1 = 0 then
    some ((-2), σ)
  else
    (f_X11_in σ p2 0 9).bind fun q4 =>
    if ¬ q4 = 0 then
      (f_X11_draws σ t).bind fun q7 =>
      (dn q7 11 (some t)).bind fun a9 =>
      (f_X11_linePart q7 a9 p1 p2).bind fun q11 =>
      some (q11, q7)
    else
      some ((-2), σ)
def f_X11_letter (σ : St) (t : Nat) (p1 : Int32) (p2 : Int32) : Option (Int32) :=
  (f_X11_isLine σ t p1).bind fun q1 =>
  if q1 = 0 then
    some (-2)
  else
    if 0 ≤ p2 then
      (f_X11_of σ t p1 0).bind fun q5 =>
      if q5 ≤ p2 then
        some (-1)
      else
        (f_X11_of σ t p1 (5 + p2)).bind fun q8 =>
        some q8
    else
      some (-2)
def f_X11_set (σ : St) (t : Nat) (p1 : Int32) (p2 : Int32) : Option (Int32 × St) :=
  (if ¬ p1 = 0 then
    if ¬ p1 = 2 then
      if ¬ p1 = 3 then
        some 30
      else
        some 8
    else
      some 6
  else
    some 60).bind fun (x1 : Int32) =>
  (f_X11_in σ p1 0 4).bind fun q5 =>
  if q5 = 0 then
    some ((-2), σ)
  else
    (if ¬ p1 = 0 then
      if ¬ p1 = 1 then
        some 0
      else
        some 4
    else
      some 12).bind fun (x8 : Int32) =>
    (f_X11_in σ p2 x8 x1).bind fun q11 =>
    if ¬ q11 = 0 then
      (f_X11_keeps σ t).bind fun q14 =>
      (dn q14 11 (some t)).bind fun a16 =>
      (dnA q14 (hpR q14 352 a16)).bind fun a18 =>
      (ix (2041 + p1) (hpL q14 a18)).bind fun j20 =>
      (dn q14 13 (hpR q14 352 a16)).bind fun a22 =>
      (ix (2041 + p1) (hpL q14 a22)).bind fun j24 =>
      some ((hpA q14 a18 j20), (stA q14 a22 j24 p2))
    else
      some ((-2), σ)
def f_X11_shown (σ : St) (t : Nat) (p1 : Int32) : Option (Int32) :=
  (dnA σ (hpR σ 361 t)).bind fun a1 =>
  (ix p1 (hpL σ a1)).bind fun j3 =>
  (f_X11_numberOf σ t (hpA σ a1 j3)).bind fun q5 =>
  (dnA σ (hpR σ 362 t)).bind fun a7 =>
  (ix p1 (hpL σ a7)).bind fun j9 =>
  if ¬ (hpA σ a7 j9) = 0 then
    some 0
  else
    (ix p1 (hpL σ a1)).bind fun j12 =>
    (f_X11_leans σ t (hpA σ a1 j12)).bind fun q14 =>
    if ¬ q14 = 0 then
      some 0
    else
      (nz 5).bind fun w17 =>
      if ¬ (q5 - q5 / 5 * 5) = 0 then
        some 0
      else
        some q5
def f_X11_rowPart (σ : St) (t : Nat) (p1 : Int32) (p2 : Int32) : Option (Int32) :=
  if p2 = 0 then
    (dnA σ (hpR σ 361 t)).bind fun a1 =>
    (ix p1 (hpL σ a1)).bind fun j3 =>
    some (hpA σ a1 j3)
  else if p2 = 1 then
    (dnA σ (hpR σ 362 t)).bind fun a5 =>
    (ix p1 (hpL σ a5)).bind fun j7 =>
    some (hpA σ a5 j7)
  else if p2 = 2 then
    (dnA σ (hpR σ 367 t)).bind fun a9 =>
    (ix p1 (hpL σ a9)).bind fun j11 =>
    some (hpA σ a9 j11)
  else if p2 = 3 then
    (dnA σ (hpR σ 368 t)).bind fun a13 =>
    (ix p1 (hpL σ a13)).bind fun j15 =>
    some (hpA σ a13 j15)
  else if p2 = 4 then
    (dnA σ (hpR σ 363 t)).bind fun a17 =>
    (ix p1 (hpL σ a17)).bind fun j19 =>
    some (hpA σ a17 j19)
  else if p2 = 5 then
    (dnA σ (hpR σ 364 t)).bind fun a21 =>
    (ix p1 (hpL σ a21)).bind fun j23 =>
    some (hpA σ a21 j23)
  else if p2 = 6 then
    (f_X11_shown σ t p1).bind fun q25 =>
    some q25
  else if p2 = 7 then
    (dnA σ (hpR σ 365 t)).bind fun a27 =>
    (ix p1 (hpL σ a27)).bind fun j29 =>
    some (hpA σ a27 j29)
  else 
    (dnA σ (hpR σ 363 t)).bind fun a31 =>
    (ix p1 (hpL σ a31)).bind fun j33 =>
    (dnA σ (hpR σ 364 t)).bind fun a35 =>
    (ix p1 (hpL σ a35)).bind fun j37 =>
    some ((hpA σ a31 j33) + (hpA σ a35 j37))
def f_X11_row (σ : St) (t : Nat) (p1 : Int32) (p2 : Int32) : Option (Int32 × St) :=
  if p1 < 0 then
    some ((-2), σ)
  else
    (f_X11_in σ p2 0 8).bind fun q2 =>
    if ¬ q2 = 0 then
      (f_X11_draws σ t).bind fun q5 =>
      (dn q5 11 (some t)).bind fun a7 =>
      if (hpI q5 369 a7) ≤ p1 then
        some ((-1), q5)
      else
        (f_X11_rowPart q5 a7 p1 p2).bind fun q10 =>
        some (q10, q5)
    else
      some ((-2), σ)
def f_X11_byteAt (σ : St) (t : Nat) (p1 : Int32) (p2 : Int32) : Option (Int32) :=
  (dnA σ (hpR σ 363 t)).bind fun a1 =>
  (ix p1 (hpL σ a1)).bind fun j3 =>
  (dnA σ (hpR σ 364 t)).bind fun a5 =>
  (ix p1 (hpL σ a5)).bind fun j7 =>
  (f_X11_in σ (p2 - (hpA σ a1 j3)) 0 ((hpA σ a5 j7) - 1)).bind fun q9 =>
  if q9 = 0 then
    some 32
  else
    (dnA σ (hpR σ 361 t)).bind fun a12 =>
    (ix p1 (hpL σ a12)).bind fun j14 =>
    (dnA σ (hpR σ 366 t)).bind fun a16 =>
    (ix p1 (hpL σ a16)).bind fun j18 =>
    (f_X11_of σ t (hpA σ a12 j14) ((5 + (hpA σ a16 j18)) + (p2 - (hpA σ a1 j3)))).bind fun q20 =>
    some q20
def LX11_at_60 : Nat → (St) → (Nat) → (Int32) → (Int32) → (Int32) → (Int32) → Option ((Int32 × St) ⊕ (Unit))
  | 0, _, _, _, _, _, _ => none
  | n + 1, σ, t, l1, l2, l3, v4 =>
    (dn σ 11 (some t)).bind fun a24 =>
    if (hpI σ 369 a24) ≤ v4 then
      some (.inr ())
    else
      (dnA σ (hpR σ 367 a24)).bind fun a27 =>
      (ix v4 (hpL σ a27)).bind fun j29 =>
      sb (if ¬ (hpA σ a27 j29) = l1 then
        some (.inr ())
      else
        (dnA σ (hpR σ 368 a24)).bind fun a33 =>
        (ix v4 (hpL σ a33)).bind fun j35 =>
        if ¬ (hpA σ a33 j35) = l2 then
          some (.inr ())
        else
          (f_X11_byteAt σ a24 v4 l3).bind fun q38 =>
          some (.inl (.inl (q38, σ)))) fun (wx31 : Unit) =>
      LX11_at_60 n σ t l1 l2 l3 (v4 + 1)
def f_X11_at (σ : St) (t : Nat) (p1 : Int32) (p2 : Int32) (p3 : Int32) : Option (Int32 × St) :=
  (f_X11_draws σ t).bind fun q1 =>
  (dn q1 11 (some t)).bind fun a3 =>
  (f_X11_pages q1 a3).bind fun q5 =>
  (f_X11_in q1 p1 0 (q5 - 1)).bind fun q7 =>
  if q7 = 0 then
    some ((-2), q1)
  else
    (dnA q1 (hpR q1 352 a3)).bind fun a10 =>
    (ix 2042 (hpL q1 a10)).bind fun j12 =>
    (f_X11_in q1 p2 0 ((hpA q1 a10 j12) - 1)).bind fun q14 =>
    if q14 = 0 then
      some ((-2), q1)
    else
      (ix 2041 (hpL q1 a10)).bind fun j17 =>
      (f_X11_in q1 p3 0 ((hpA q1 a10 j17) - 1)).bind fun q19 =>
      if ¬ q19 = 0 then
        sb (LX11_at_60 FU q1 t p1 p2 p3 0) fun wx23 =>
        some (32, q1)
      else
        some ((-2), q1)
def LX11_firstOn_2 : Nat → (St) → (Nat) → (Int32) → (Int32) → Option (Int32)
  | 0, _, _, _, _ => none
  | n + 1, σ, t, l1, v2 =>
    (dnA σ (hpR σ 367 t)).bind fun a3 =>
    (ix v2 (hpL σ a3)).bind fun j5 =>
    if (hpA σ a3 j5) = l1 then
      some v2
    else
      LX11_firstOn_2 n σ t l1 (v2 + 1)
def f_X11_firstOn (σ : St) (t : Nat) (p1 : Int32) : Option (Int32) :=
  (LX11_firstOn_2 FU σ t p1 0).bind fun x2 =>
  some x2
def f_X11_isMarked (σ : St) (t : Nat) (p1 : Int32) : Option (Int32) :=
  (f_X11_pages σ t).bind fun q1 =>
  if (p1 + 1) < q1 then
    (f_X11_firstOn σ t (p1 + 1)).bind fun q4 =>
    (dnA σ (hpR σ 362 t)).bind fun a6 =>
    (ix q4 (hpL σ a6)).bind fun j8 =>
    if ¬ (hpA σ a6 j8) = 0 then
      some 0
    else
      (dnA σ (hpR σ 361 t)).bind fun a11 =>
      (ix q4 (hpL σ a11)).bind fun j13 =>
      (f_X11_beginsStanza σ t (hpA σ a11 j13)).bind fun q15 =>
      if q15 = 0 then
        some 0
      else
        some 1
  else
    some 0
def LX11_pagePart_11 : Nat → (St) → (Nat) → (Int32) → (Int32) → (Int32) → (Int32) → (Int32) → (Int32) → Option (Int32 × Int32 × Int32)
  | 0, _, _, _, _, _, _, _, _ => none
  | n + 1, σ, t, l1, l2, v3, v4, v5, v6 =>
    if (hpI σ 369 t) ≤ v6 then
      some (v3, v4, v5)
    else
      (dnA σ (hpR σ 367 t)).bind fun a4 =>
      (ix v6 (hpL σ a4)).bind fun j6 =>
      (if ¬ (hpA σ a4 j6) = l1 then
        some (v3, v4, v5)
      else
        (dnA σ (hpR σ 368 t)).bind fun a10 =>
        (ix v6 (hpL σ a10)).bind fun j12 =>
        (dnA σ (hpR σ 362 t)).bind fun a14 =>
        (ix v6 (hpL σ a14)).bind fun j16 =>
        (if ¬ (hpA σ a14 j16) = 0 then
          some 0
        else
          some 1).bind fun (x18 : Int32) =>
        some ((v3 + 1), (hpA σ a10 j12), (v5 + x18))).bind fun (x8 : Int32 × Int32 × Int32) =>
      LX11_pagePart_11 n σ t l1 l2 x8.1 x8.2.1 x8.2.2 (v6 + 1)
def f_X11_pagePart (σ : St) (t : Nat) (p1 : Int32) (p2 : Int32) : Option (Int32) :=
  (LX11_pagePart_11 FU σ t p1 p2 0 0 0 0).bind fun x2 =>
  if p2 = 0 then
    some x2.1
  else if p2 = 1 then
    some (x2.2.1 + 1)
  else if p2 = 2 then
    (f_X11_isMarked σ t p1).bind fun q20 =>
    if q20 = 0 then
      some 0
    else
      some 1
  else if p2 = 3 then
    (f_X11_firstOn σ t p1).bind fun q23 =>
    some q23
  else 
    some x2.2.2
def f_X11_page (σ : St) (t : Nat) (p1 : Int32) (p2 : Int32) : Option (Int32 × St) :=
  (f_X11_draws σ t).bind fun q1 =>
  (dn q1 11 (some t)).bind fun a3 =>
  (f_X11_pages q1 a3).bind fun q5 =>
  (f_X11_in q1 p1 0 (q5 - 1)).bind fun q7 =>
  if q7 = 0 then
    some ((-2), q1)
  else
    (f_X11_in q1 p2 0 4).bind fun q10 =>
    if q10 = 0 then
      some ((-2), q1)
    else
      (f_X11_pagePart q1 a3 p1 p2).bind fun q13 =>
      some (q13, q1)
def f_X11_aim (σ : St) (p1 : Int32) (p2 : Int32) (p3 : Int32) (p4 : Int32) : Option (Int32) :=
  if p1 = 0 then
    some p2
  else if p1 = 1 then
    (nz p3).bind fun w1 =>
    some ((p2 * (p4 + 1)) / p3)
  else if p1 = 2 then
    (f_X11_lesser σ (p4 + 1) (p3 - p4)).bind fun q3 =>
    (nz (p3 + 1)).bind fun w5 =>
    (f_X11_lesser σ p2 (((2 * p2) * q3) / (p3 + 1))).bind fun q7 =>
    some q7
  else 
    if (p4 + 1) ≤ (p3 - p4) then
      (nz p3).bind fun w10 =>
      some ((p2 * (p3 - p4)) / p3)
    else
      (nz p3).bind fun w12 =>
      some ((p2 * (p4 + 1)) / p3)
def LX11_far_11 : Nat → (St) → (Nat) → (Int32) → (Int32) → (Int32) → (Int32) → (Int32) → (Int32) → Option (Int32 × Int32 × Int32)
  | 0, _, _, _, _, _, _, _, _ => none
  | n + 1, σ, t, l1, l2, v3, v4, v5, v6 =>
    if (hpI σ 369 t) ≤ v6 then
      some (v3, v4, v5)
    else
      (dnA σ (hpR σ 361 t)).bind fun a4 =>
      (ix v6 (hpL σ a4)).bind fun j6 =>
      (dnA σ (hpR σ 370 t)).bind fun a8 =>
      (ix (hpA σ a4 j6) (hpL σ a8)).bind fun j10 =>
      (if ¬ (hpA σ a8 j10) = l1 then
        some (v3, v4, v5)
      else
        (if ¬ v3 = (-1) then
          some v3
        else
          some v6).bind fun (x14 : Int32) =>
        (dnA σ (hpR σ 363 t)).bind fun a16 =>
        (ix v6 (hpL σ a16)).bind fun j18 =>
        (dnA σ (hpR σ 364 t)).bind fun a20 =>
        (ix v6 (hpL σ a20)).bind fun j22 =>
        (if ((hpA σ a16 j18) + (hpA σ a20 j22)) ≤ v5 then
          some v5
        else
          some ((hpA σ a16 j18) + (hpA σ a20 j22))).bind fun (x24 : Int32) =>
        some (x14, (v4 + 1), x24)).bind fun (x12 : Int32 × Int32 × Int32) =>
      LX11_far_11 n σ t l1 l2 x12.1 x12.2.1 x12.2.2 (v6 + 1)
def LX11_far_96 : Nat → (St) → (Nat) → (Int32) → (Int32) → (Int32) → (Int32) → (Int32) → (Int32) → Option (Int32)
  | 0, _, _, _, _, _, _, _, _ => none
  | n + 1, σ, t, l2, l3, l4, l5, v6, v7 =>
    if l4 ≤ v7 then
      some v6
    else
      (dnA σ (hpR σ 363 t)).bind fun a29 =>
      (ix (l3 + v7) (hpL σ a29)).bind fun j31 =>
      (dnA σ (hpR σ 364 t)).bind fun a33 =>
      (ix (l3 + v7) (hpL σ a33)).bind fun j35 =>
      (f_X11_aim σ l2 l5 l4 v7).bind fun q37 =>
      (if 0 ≤ (((hpA σ a29 j31) + (hpA σ a33 j35)) - q37) then
        some (((hpA σ a29 j31) + (hpA σ a33 j35)) - q37)
      else
        some (-(((hpA σ a29 j31) + (hpA σ a33 j35)) - q37))).bind fun (x39 : Int32) =>
      LX11_far_96 n σ t l2 l3 l4 l5 (v6 + x39) (v7 + 1)
def f_X11_far (σ : St) (t : Nat) (p1 : Int32) (p2 : Int32) : Option (Int32) :=
  (LX11_far_11 FU σ t p1 p2 (-1) 0 0 0).bind fun x2 =>
  (LX11_far_96 FU σ t p2 x2.1 x2.2.1 x2.2.2 0 0).bind fun x27 =>
  some x27
def LX11_nearest_4 : Nat → (St) → (Nat) → (Int32) → (Int32) → (Int32) → Option (Int32)
  | 0, _, _, _, _, _ => none
  | n + 1, σ, t, l1, v2, v3 =>
    if 4 ≤ v3 then
      some v2
    else
      (f_X11_far σ t l1 v3).bind fun q4 =>
      (f_X11_far σ t l1 v2).bind fun q6 =>
      (if q6 ≤ q4 then
        some v2
      else
        some v3).bind fun (x8 : Int32) =>
      LX11_nearest_4 n σ t l1 x8 (v3 + 1)
def f_X11_nearest (σ : St) (t : Nat) (p1 : Int32) : Option (Int32) :=
  (LX11_nearest_4 FU σ t p1 0 1).bind fun x2 =>
  some x2
def f_X11_distance (σ : St) (t : Nat) (p1 : Int32) : Option (Int32 × St) :=
  (f_X11_stanzas σ t).bind fun q1 =>
  (f_X11_in σ p1 0 (q1 - 1)).bind fun q3 =>
  if ¬ q3 = 0 then
    (f_X11_readsShape σ t).bind fun q6 =>
    (dn q6 11 (some t)).bind fun a8 =>
    if (hpI q6 358 a8) = (-1) then
      (f_X11_draws q6 a8).bind fun q11 =>
      (dn q11 11 (some t)).bind fun a13 =>
      (f_X11_far q11 a13 p1 (hpI q11 360 a13)).bind fun q15 =>
      some (q15, q11)
    else
      some (((-2000) - (hpI q6 358 a8)), q6)
  else
    some ((-2), σ)
def f_X11_shape (σ : St) (t : Nat) (p1 : Int32) : Option (Int32 × St) :=
  (f_X11_stanzas σ t).bind fun q1 =>
  (f_X11_in σ p1 0 (q1 - 1)).bind fun q3 =>
  if ¬ q3 = 0 then
    (f_X11_draws σ t).bind fun q6 =>
    (dn q6 11 (some t)).bind fun a8 =>
    (f_X11_nearest q6 a8 p1).bind fun q10 =>
    some (q10, q6)
  else
    some ((-2), σ)
def f_X11_overRows (σ : St) (t : Nat) : Option (Int32) :=
  (dnA σ (hpR σ 352 t)).bind fun a1 =>
  (ix 2040 (hpL σ a1)).bind fun j3 =>
  some ((hpI σ 369 t) - (hpA σ a1 j3))
def LX11_withinRows_4 : Nat → (St) → (Nat) → (Int32) → (Int32) → Option (Int32)
  | 0, _, _, _, _ => none
  | n + 1, σ, t, v1, v2 =>
    if (hpI σ 369 t) ≤ v2 then
      some v1
    else
      (dnA σ (hpR σ 365 t)).bind fun a4 =>
      (ix v2 (hpL σ a4)).bind fun j6 =>
      LX11_withinRows_4 n σ t (v1 + (hpA σ a4 j6)) (v2 + 1)
def f_X11_withinRows (σ : St) (t : Nat) : Option (Int32) :=
  (LX11_withinRows_4 FU σ t 0 0).bind fun x2 =>
  some x2
def LX11_bestWidth_44 : Nat → (Nat) → (Int32) → (Int32) → (Int32) → (Int32) → (Int32) → (St) → Option (Int32 × St)
  | 0, _, _, _, _, _, _, _ => none
  | n + 1, t, l1, l2, v3, v4, v5, τ =>
    if 60 < v5 then
      some (v3, τ)
    else
      (dn τ 11 (some t)).bind fun a14 =>
      (dn τ 13 (hpR τ 352 a14)).bind fun a16 =>
      (ix 2041 (hpL τ a16)).bind fun j18 =>
      (f_X11_draws (stA τ a16 j18 v5) a14).bind fun q20 =>
      (if ¬ l1 = 0 then
        if ¬ l1 = 1 then
          (dn q20 11 (some t)).bind fun a25 =>
          (f_X11_withinRows q20 a25).bind fun q27 =>
          some q27
        else
          (dn q20 11 (some t)).bind fun a29 =>
          (f_X11_overRows q20 a29).bind fun q31 =>
          some q31
      else
        (dn q20 11 (some t)).bind fun a33 =>
        (f_X11_pages q20 a33).bind fun q35 =>
        some q35).bind fun (x22 : Int32) =>
      (if v3 = (-1) then
        some 1
      else
        if v4 ≤ x22 then
          some 0
        else
          some 1).bind fun (x37 : Int32) =>
      (if x37 = 0 then
        some v3
      else
        some v5).bind fun (x40 : Int32) =>
      (if x37 = 0 then
        some v4
      else
        some x22).bind fun (x42 : Int32) =>
      LX11_bestWidth_44 n t l1 l2 x40 x42 (v5 + 1) q20
def f_X11_bestWidth (σ : St) (t : Nat) (p1 : Int32) : Option (Int32 × St) :=
  (f_X11_in σ p1 0 2).bind fun q1 =>
  if ¬ q1 = 0 then
    (dnA σ (hpR σ 352 t)).bind fun a4 =>
    (ix 2040 (hpL σ a4)).bind fun j6 =>
    if ¬ (hpA σ a4 j6) = 0 then
      (ix 2041 (hpL σ a4)).bind fun j9 =>
      (LX11_bestWidth_44 FU t p1 (hpA σ a4 j9) (-1) 0 12 σ).bind fun x12 =>
      (dn x12.2 11 (some t)).bind fun a44 =>
      (dn x12.2 13 (hpR x12.2 352 a44)).bind fun a46 =>
      (ix 2041 (hpL x12.2 a46)).bind fun j48 =>
      some (x12.1, (stA x12.2 a46 j48 (hpA σ a4 j9)))
    else
      some ((-3), σ)
  else
    some ((-2), σ)
def LX11_leastHeight_28 : Nat → (Nat) → (Int32) → (Int32) → (Int32) → (Int32) → (St) → Option (Int32 × St)
  | 0, _, _, _, _, _, _ => none
  | n + 1, t, l1, l2, v3, v4, τ =>
    if v4 < 4 then
      some (v3, τ)
    else
      (dn τ 11 (some t)).bind fun a11 =>
      (dn τ 13 (hpR τ 352 a11)).bind fun a13 =>
      (ix 2042 (hpL τ a13)).bind fun j15 =>
      (f_X11_draws (stA τ a13 j15 v4) a11).bind fun q17 =>
      (dn q17 11 (some t)).bind fun a19 =>
      (f_X11_pages q17 a19).bind fun q21 =>
      (if l1 < q21 then
        some v3
      else
        some v4).bind fun (x23 : Int32) =>
      LX11_leastHeight_28 n t l1 l2 x23 (v4 + (-1)) q17
def f_X11_leastHeight (σ : St) (t : Nat) (p1 : Int32) : Option (Int32 × St) :=
  (f_X11_in σ p1 1 99).bind fun q1 =>
  if ¬ q1 = 0 then
    (dnA σ (hpR σ 352 t)).bind fun a4 =>
    (ix 2042 (hpL σ a4)).bind fun j6 =>
    (LX11_leastHeight_28 FU t p1 (hpA σ a4 j6) (-1) 30 σ).bind fun x9 =>
    (dn x9.2 11 (some t)).bind fun a25 =>
    (dn x9.2 13 (hpR x9.2 352 a25)).bind fun a27 =>
    (ix 2042 (hpL x9.2 a27)).bind fun j29 =>
    some (x9.1, (stA x9.2 a27 j29 (hpA σ a4 j6)))
  else
    some ((-2), σ)
def LX11_marked_4 : Nat → (St) → (Nat) → (Int32) → (Int32) → Option (Int32)
  | 0, _, _, _, _ => none
  | n + 1, σ, t, v1, v2 =>
    (f_X11_pages σ t).bind fun q3 =>
    if q3 ≤ v2 then
      some v1
    else
      (f_X11_isMarked σ t v2).bind fun q6 =>
      (if q6 = 0 then
        some 0
      else
        some 1).bind fun (x8 : Int32) =>
      LX11_marked_4 n σ t (v1 + x8) (v2 + 1)
def f_X11_marked (σ : St) (t : Nat) : Option (Int32) :=
  (LX11_marked_4 FU σ t 0 0).bind fun x2 =>
  some x2
def LX11_widest_4 : Nat → (St) → (Nat) → (Int32) → (Int32) → Option (Int32)
  | 0, _, _, _, _ => none
  | n + 1, σ, t, v1, v2 =>
    if (hpI σ 369 t) ≤ v2 then
      some v1
    else
      (dnA σ (hpR σ 363 t)).bind fun a4 =>
      (ix v2 (hpL σ a4)).bind fun j6 =>
      (dnA σ (hpR σ 364 t)).bind fun a8 =>
      (ix v2 (hpL σ a8)).bind fun j10 =>
      (if ((hpA σ a4 j6) + (hpA σ a8 j10)) ≤ v1 then
        some v1
      else
        some ((hpA σ a4 j6) + (hpA σ a8 j10))).bind fun (x12 : Int32) =>
      LX11_widest_4 n σ t x12 (v2 + 1)
def f_X11_widest (σ : St) (t : Nat) : Option (Int32) :=
  (LX11_widest_4 FU σ t 0 0).bind fun x2 =>
  some x2
def f_X11_number (σ : St) (t : Nat) (p1 : Int32) : Option (Int32) :=
  if p1 = 0 then
    (dnA σ (hpR σ 352 t)).bind fun a1 =>
    (ix 2040 (hpL σ a1)).bind fun j3 =>
    some (hpA σ a1 j3)
  else if p1 = 1 then
    (f_X11_stanzas σ t).bind fun q5 =>
    some q5
  else if p1 = 2 then
    some (hpI σ 369 t)
  else if p1 = 3 then
    (f_X11_pages σ t).bind fun q7 =>
    some q7
  else if p1 = 4 then
    (f_X11_overRows σ t).bind fun q9 =>
    some q9
  else if p1 = 5 then
    (f_X11_withinRows σ t).bind fun q11 =>
    some q11
  else if p1 = 6 then
    (f_X11_marked σ t).bind fun q13 =>
    some q13
  else if p1 = 7 then
    (dnA σ (hpR σ 352 t)).bind fun a15 =>
    (ix 2040 (hpL σ a15)).bind fun j17 =>
    (f_X11_numberOf σ t ((hpA σ a15 j17) - 1)).bind fun q19 =>
    some q19
  else if p1 = 8 then
    (f_X11_widest σ t).bind fun q21 =>
    some q21
  else if p1 = 9 then
    some (hpI σ 354 t)
  else if p1 = 10 then
    some (hpI σ 356 t)
  else 
    (dnA σ (hpR σ 352 t)).bind fun a23 =>
    (ix ((2041 + p1) - 11) (hpL σ a23)).bind fun j25 =>
    some (hpA σ a23 j25)
def f_X11_count (σ : St) (t : Nat) (p1 : Int32) : Option (Int32 × St) :=
  (f_X11_in σ p1 0 15).bind fun q1 =>
  if ¬ q1 = 0 then
    (f_X11_draws σ t).bind fun q4 =>
    (dn q4 11 (some t)).bind fun a6 =>
    (f_X11_number q4 a6 p1).bind fun q8 =>
    some (q8, q4)
  else
    some ((-2), σ)
def f_X11_mixes (σ : St) (t : Nat) (p1 : Int64) : Option (St) :=
  some (stJ σ 377 t ((31 * (hpJ σ 377 t)) + p1))
def LX11_digest_13 : Nat → (Nat) → (Int32) → (St) → Option (St)
  | 0, _, _, _ => none
  | n + 1, t, v1, τ =>
    if 16 ≤ v1 then
      some τ
    else
      (dn τ 11 (some t)).bind fun a6 =>
      (f_X11_number τ a6 v1).bind fun q8 =>
      (f_X11_mixes τ a6 ((q8).toInt64)).bind fun q10 =>
      LX11_digest_13 n t (v1 + 1) q10
def LX11_digest_37 : Nat → (Nat) → (Int32) → (St) → Option (St)
  | 0, _, _, _ => none
  | n + 1, t, v1, τ =>
    (dn τ 11 (some t)).bind fun a14 =>
    (dnA τ (hpR τ 352 a14)).bind fun a16 =>
    (ix 2040 (hpL τ a16)).bind fun j18 =>
    if (10 * (hpA τ a16 j18)) ≤ v1 then
      some τ
    else
      (nz 10).bind fun w21 =>
      (nz 10).bind fun w23 =>
      (f_X11_linePart τ a14 (v1 / 10) (v1 - v1 / 10 * 10)).bind fun q25 =>
      (f_X11_mixes τ a14 ((q25).toInt64)).bind fun q27 =>
      LX11_digest_37 n t (v1 + 1) q27
def LX11_digest_77 : Nat → (Nat) → (Int32) → (St) → Option (St)
  | 0, _, _, _ => none
  | n + 1, t, v1, τ =>
    (dn τ 11 (some t)).bind fun a31 =>
    if (9 * (hpI τ 369 a31)) ≤ v1 then
      some τ
    else
      (nz 9).bind fun w34 =>
      (nz 9).bind fun w36 =>
      (f_X11_rowPart τ a31 (v1 / 9) (v1 - v1 / 9 * 9)).bind fun q38 =>
      (f_X11_mixes τ a31 ((q38).toInt64)).bind fun q40 =>
      LX11_digest_77 n t (v1 + 1) q40
def LX11_digest_113 : Nat → (Nat) → (Int32) → (St) → Option (St)
  | 0, _, _, _ => none
  | n + 1, t, v1, τ =>
    (dn τ 11 (some t)).bind fun a44 =>
    (f_X11_pages τ a44).bind fun q46 =>
    if (5 * q46) ≤ v1 then
      some τ
    else
      (nz 5).bind fun w49 =>
      (nz 5).bind fun w51 =>
      (f_X11_pagePart τ a44 (v1 / 5) (v1 - v1 / 5 * 5)).bind fun q53 =>
      (f_X11_mixes τ a44 ((q53).toInt64)).bind fun q55 =>
      LX11_digest_113 n t (v1 + 1) q55
def LX11_digest_146 : Nat → (Nat) → (Int32) → (St) → Option (St)
  | 0, _, _, _ => none
  | n + 1, t, v1, τ =>
    (dn τ 11 (some t)).bind fun a59 =>
    (dnA τ (hpR τ 352 a59)).bind fun a61 =>
    (ix 2041 (hpL τ a61)).bind fun j63 =>
    if ((hpA τ a61 j63) * (hpI τ 369 a59)) ≤ v1 then
      some τ
    else
      (ix 2041 (hpL τ a61)).bind fun j66 =>
      (nz (hpA τ a61 j66)).bind fun w68 =>
      (ix 2041 (hpL τ a61)).bind fun j70 =>
      (nz (hpA τ a61 j70)).bind fun w72 =>
      (f_X11_byteAt τ a59 (v1 / (hpA τ a61 j66)) (v1 - v1 / (hpA τ a61 j70) * (hpA τ a61 j70))).bind fun q74 =>
      (f_X11_mixes τ a59 ((q74).toInt64)).bind fun q76 =>
      LX11_digest_146 n t (v1 + 1) q76
def LX11_digest_200 : Nat → (Nat) → (Int32) → (St) → Option (St)
  | 0, _, _, _ => none
  | n + 1, t, v1, τ =>
    (dn τ 11 (some t)).bind fun a80 =>
    (f_X11_stanzas τ a80).bind fun q82 =>
    if q82 ≤ v1 then
      some τ
    else
      (f_X11_nearest τ a80 v1).bind fun q85 =>
      (f_X11_mixes τ a80 ((q85).toInt64)).bind fun q87 =>
      LX11_digest_200 n t (v1 + 1) q87
def LX11_digest_226 : Nat → (Nat) → (Int32) → (St) → Option (St)
  | 0, _, _, _ => none
  | n + 1, t, v1, τ =>
    (dn τ 11 (some t)).bind fun a91 =>
    if (hpI τ 356 a91) ≤ v1 then
      some τ
    else
      (dnA τ (hpR τ 355 a91)).bind fun a94 =>
      (ix v1 (hpL τ a94)).bind fun j96 =>
      (f_X11_mixes τ a91 (((hpA τ a94 j96)).toInt64)).bind fun q98 =>
      LX11_digest_226 n t (v1 + 1) q98
def f_X11_digest (σ : St) (t : Nat) : Option (Int64 × St) :=
  (f_X11_draws (stJ σ 377 t 805) t).bind fun q1 =>
  (LX11_digest_13 FU t 0 q1).bind fun x4 =>
  (LX11_digest_37 FU t 0 x4).bind fun x13 =>
  (LX11_digest_77 FU t 0 x13).bind fun x30 =>
  (LX11_digest_113 FU t 0 x30).bind fun x43 =>
  (LX11_digest_146 FU t 0 x43).bind fun x58 =>
  (LX11_digest_200 FU t 0 x58).bind fun x79 =>
  (LX11_digest_226 FU t 0 x79).bind fun x90 =>
  (dn x90 11 (some t)).bind fun a100 =>
  some ((hpJ x90 377 a100), x90)
def LL_law_18 : Nat → (Option Nat) → (Option Nat) → (Option Nat) → (Int32) → (St) → Option ((Int32 × St) ⊕ (St))
  | 0, _, _, _, _, _ => none
  | n + 1, l0, l1, l2, v3, τ =>
    (dnA τ l0).bind fun a15 =>
    if ((nI (hpL τ a15)) - 4) < v3 then
      some (.inr τ)
    else
      (ix v3 (hpL τ a15)).bind fun j18 =>
      sb (if ((hpA τ a15 j18) &&& 31) = 0 then
        (ix (v3 + 1) (hpL τ a15)).bind fun j21 =>
        (dn τ 10 l1).bind fun a23 =>
        (f_X10_type τ a23 (hpA τ a15 j21)).bind fun q25 =>
        (dnA q25.2 l0).bind fun a27 =>
        (ix (v3 + 1) (hpL q25.2 a27)).bind fun j29 =>
        (dn q25.2 11 l2).bind fun a31 =>
        (f_X11_type q25.2 a31 (hpA q25.2 a27 j29)).bind fun q33 =>
        if q25.1 = q33.1 then
          some (.inr q33.2)
        else
          some (.inl (.inl (0, q33.2)))
      else if ((hpA τ a15 j18) &&& 31) = 1 then
        (dn τ 10 l1).bind fun a36 =>
        (f_X10_clear τ a36).bind fun q38 =>
        (dn q38.2 11 l2).bind fun a40 =>
        (f_X11_clear q38.2 a40).bind fun q42 =>
        if q38.1 = q42.1 then
          some (.inr q42.2)
        else
          some (.inl (.inl (0, q42.2)))
      else if ((hpA τ a15 j18) &&& 31) = 2 then
        (ix (v3 + 1) (hpL τ a15)).bind fun j45 =>
        (if (hpA τ a15 j45) = 0 then
          some 0
        else
          some 1).bind fun (x47 : Int32) =>
        (dn τ 10 l1).bind fun a49 =>
        (f_X10_fault τ a49 x47).bind fun q51 =>
        (ix (v3 + 1) (hpL τ a15)).bind fun j53 =>
        (if (hpA τ a15 j53) = 0 then
          some 0
        else
          some 1).bind fun (x55 : Int32) =>
        (dn τ 11 l2).bind fun a57 =>
        (f_X11_fault τ a57 x55).bind fun q59 =>
        if q51 = q59.1 then
          some (.inr q59.2)
        else
          some (.inl (.inl (0, q59.2)))
      else if ((hpA τ a15 j18) &&& 31) = 3 then
        (ix (v3 + 1) (hpL τ a15)).bind fun j62 =>
        (dn τ 10 l1).bind fun a64 =>
        (f_X10_insert τ a64 (hpA τ a15 j62)).bind fun q66 =>
        (dnA q66.2 l0).bind fun a68 =>
        (ix (v3 + 1) (hpL q66.2 a68)).bind fun j70 =>
        (dn q66.2 11 l2).bind fun a72 =>
        (f_X11_insert q66.2 a72 (hpA q66.2 a68 j70)).bind fun q74 =>
        if q66.1 = q74.1 then
          some (.inr q74.2)
        else
          some (.inl (.inl (0, q74.2)))
      else if ((hpA τ a15 j18) &&& 31) = 4 then
        (ix (v3 + 1) (hpL τ a15)).bind fun j77 =>
        (dn τ 10 l1).bind fun a79 =>
        (f_X10_replace τ a79 (hpA τ a15 j77)).bind fun q81 =>
        (dnA q81.2 l0).bind fun a83 =>
        (ix (v3 + 1) (hpL q81.2 a83)).bind fun j85 =>
        (dn q81.2 11 l2).bind fun a87 =>
        (f_X11_replace q81.2 a87 (hpA q81.2 a83 j85)).bind fun q89 =>
        if q81.1 = q89.1 then
          some (.inr q89.2)
        else
          some (.inl (.inl (0, q89.2)))
      else if ((hpA τ a15 j18) &&& 31) = 5 then
        (ix (v3 + 1) (hpL τ a15)).bind fun j92 =>
        (dn τ 10 l1).bind fun a94 =>
        (f_X10_remove τ a94 (hpA τ a15 j92)).bind fun q96 =>
        (dnA q96.2 l0).bind fun a98 =>
        (ix (v3 + 1) (hpL q96.2 a98)).bind fun j100 =>
        (dn q96.2 11 l2).bind fun a102 =>
        (f_X11_remove q96.2 a102 (hpA q96.2 a98 j100)).bind fun q104 =>
        if q96.1 = q104.1 then
          some (.inr q104.2)
        else
          some (.inl (.inl (0, q104.2)))
      else if ((hpA τ a15 j18) &&& 31) = 6 then
        (ix (v3 + 1) (hpL τ a15)).bind fun j107 =>
        (ix (v3 + 2) (hpL τ a15)).bind fun j109 =>
        (ix (v3 + 3) (hpL τ a15)).bind fun j111 =>
        (dn τ 10 l1).bind fun a113 =>
        (f_X10_move τ a113 (hpA τ a15 j107) (hpA τ a15 j109) (hpA τ a15 j111)).bind fun q115 =>
        (dnA q115.2 l0).bind fun a117 =>
        (ix (v3 + 1) (hpL q115.2 a117)).bind fun j119 =>
        (ix (v3 + 2) (hpL q115.2 a117)).bind fun j121 =>
        (ix (v3 + 3) (hpL q115.2 a117)).bind fun j123 =>
        (dn q115.2 11 l2).bind fun a125 =>
        (f_X11_move q115.2 a125 (hpA q115.2 a117 j119) (hpA q115.2 a117 j121) (hpA q115.2 a117 j123)).bind fun q127 =>
        if q115.1 = q127.1 then
          some (.inr q127.2)
        else
          some (.inl (.inl (0, q127.2)))
      else if ((hpA τ a15 j18) &&& 31) = 7 then
        (ix (v3 + 1) (hpL τ a15)).bind fun j130 =>
        (ix (v3 + 2) (hpL τ a15)).bind fun j132 =>
        (if (hpA τ a15 j132) = 0 then
          some 0
        else
          some 1).bind fun (x134 : Int32) =>
        (dn τ 10 l1).bind fun a136 =>
        (f_X10_toggle τ a136 (hpA τ a15 j130) x134).bind fun q138 =>
        (dnA q138.2 l0).bind fun a140 =>
        (ix (v3 + 1) (hpL q138.2 a140)).bind fun j142 =>
        (ix (v3 + 2) (hpL q138.2 a140)).bind fun j144 =>
        (if (hpA q138.2 a140 j144) = 0 then
          some 0
        else
          some 1).bind fun (x146 : Int32) =>
        (dn q138.2 11 l2).bind fun a148 =>
        (f_X11_toggle q138.2 a148 (hpA q138.2 a140 j142) x146).bind fun q150 =>
        if q138.1 = q150.1 then
          some (.inr q150.2)
        else
          some (.inl (.inl (0, q150.2)))
      else if ((hpA τ a15 j18) &&& 31) = 8 then
        (ix (v3 + 1) (hpL τ a15)).bind fun j153 =>
        (ix (v3 + 2) (hpL τ a15)).bind fun j155 =>
        (dn τ 10 l1).bind fun a157 =>
        (f_X10_line τ a157 (hpA τ a15 j153) (hpA τ a15 j155)).bind fun q159 =>
        (ix (v3 + 1) (hpL τ a15)).bind fun j161 =>
        (ix (v3 + 2) (hpL τ a15)).bind fun j163 =>
        (dn τ 11 l2).bind fun a165 =>
        (f_X11_line τ a165 (hpA τ a15 j161) (hpA τ a15 j163)).bind fun q167 =>
        if q159 = q167.1 then
          some (.inr q167.2)
        else
          some (.inl (.inl (0, q167.2)))
      else if ((hpA τ a15 j18) &&& 31) = 9 then
        (ix (v3 + 1) (hpL τ a15)).bind fun j170 =>
        (ix (v3 + 2) (hpL τ a15)).bind fun j172 =>
        (dn τ 10 l1).bind fun a174 =>
        (f_X10_letter τ a174 (hpA τ a15 j170) (hpA τ a15 j172)).bind fun q176 =>
        (ix (v3 + 1) (hpL τ a15)).bind fun j178 =>
        (ix (v3 + 2) (hpL τ a15)).bind fun j180 =>
        (dn τ 11 l2).bind fun a182 =>
        (f_X11_letter τ a182 (hpA τ a15 j178) (hpA τ a15 j180)).bind fun q184 =>
        if q176 = q184 then
          some (.inr τ)
        else
          some (.inl (.inl (0, τ)))
      else if ((hpA τ a15 j18) &&& 31) = 10 then
        (ix (v3 + 1) (hpL τ a15)).bind fun j187 =>
        (ix (v3 + 2) (hpL τ a15)).bind fun j189 =>
        (dn τ 10 l1).bind fun a191 =>
        (f_X10_set τ a191 (hpA τ a15 j187) (hpA τ a15 j189)).bind fun q193 =>
        (dnA q193.2 l0).bind fun a195 =>
        (ix (v3 + 1) (hpL q193.2 a195)).bind fun j197 =>
        (ix (v3 + 2) (hpL q193.2 a195)).bind fun j199 =>
        (dn q193.2 11 l2).bind fun a201 =>
        (f_X11_set q193.2 a201 (hpA q193.2 a195 j197) (hpA q193.2 a195 j199)).bind fun q203 =>
        if q193.1 = q203.1 then
          some (.inr q203.2)
        else
          some (.inl (.inl (0, q203.2)))
      else if ((hpA τ a15 j18) &&& 31) = 11 then
        (dn τ 10 l1).bind fun a206 =>
        (f_X10_undo τ a206).bind fun q208 =>
        (dn q208.2 11 l2).bind fun a210 =>
        (f_X11_undo q208.2 a210).bind fun q212 =>
        if q208.1 = q212.1 then
          some (.inr q212.2)
        else
          some (.inl (.inl (0, q212.2)))
      else if ((hpA τ a15 j18) &&& 31) = 12 then
        (ix (v3 + 1) (hpL τ a15)).bind fun j215 =>
        (ix (v3 + 2) (hpL τ a15)).bind fun j217 =>
        (dn τ 10 l1).bind fun a219 =>
        (f_X10_row τ a219 (hpA τ a15 j215) (hpA τ a15 j217)).bind fun q221 =>
        (ix (v3 + 1) (hpL τ a15)).bind fun j223 =>
        (ix (v3 + 2) (hpL τ a15)).bind fun j225 =>
        (dn τ 11 l2).bind fun a227 =>
        (f_X11_row τ a227 (hpA τ a15 j223) (hpA τ a15 j225)).bind fun q229 =>
        if q221 = q229.1 then
          some (.inr q229.2)
        else
          some (.inl (.inl (0, q229.2)))
      else if ((hpA τ a15 j18) &&& 31) = 13 then
        (ix (v3 + 1) (hpL τ a15)).bind fun j232 =>
        (ix (v3 + 2) (hpL τ a15)).bind fun j234 =>
        (ix (v3 + 3) (hpL τ a15)).bind fun j236 =>
        (dn τ 10 l1).bind fun a238 =>
        (f_X10_at τ a238 (hpA τ a15 j232) (hpA τ a15 j234) (hpA τ a15 j236)).bind fun q240 =>
        (ix (v3 + 1) (hpL τ a15)).bind fun j242 =>
        (ix (v3 + 2) (hpL τ a15)).bind fun j244 =>
        (ix (v3 + 3) (hpL τ a15)).bind fun j246 =>
        (dn τ 11 l2).bind fun a248 =>
        (f_X11_at τ a248 (hpA τ a15 j242) (hpA τ a15 j244) (hpA τ a15 j246)).bind fun q250 =>
        if q240 = q250.1 then
          some (.inr q250.2)
        else
          some (.inl (.inl (0, q250.2)))
      else if ((hpA τ a15 j18) &&& 31) = 14 then
        (ix (v3 + 1) (hpL τ a15)).bind fun j253 =>
        (ix (v3 + 2) (hpL τ a15)).bind fun j255 =>
        (dn τ 10 l1).bind fun a257 =>
        (f_X10_page τ a257 (hpA τ a15 j253) (hpA τ a15 j255)).bind fun q259 =>
        (ix (v3 + 1) (hpL τ a15)).bind fun j261 =>
        (ix (v3 + 2) (hpL τ a15)).bind fun j263 =>
        (dn τ 11 l2).bind fun a265 =>
        (f_X11_page τ a265 (hpA τ a15 j261) (hpA τ a15 j263)).bind fun q267 =>
        if q259 = q267.1 then
          some (.inr q267.2)
        else
          some (.inl (.inl (0, q267.2)))
      else if ((hpA τ a15 j18) &&& 31) = 15 then
        (ix (v3 + 1) (hpL τ a15)).bind fun j270 =>
        (dn τ 10 l1).bind fun a272 =>
        (f_X10_distance τ a272 (hpA τ a15 j270)).bind fun q274 =>
        (ix (v3 + 1) (hpL τ a15)).bind fun j276 =>
        (dn τ 11 l2).bind fun a278 =>
        (f_X11_distance τ a278 (hpA τ a15 j276)).bind fun q280 =>
        if q274 = q280.1 then
          some (.inr q280.2)
        else
          some (.inl (.inl (0, q280.2)))
      else if ((hpA τ a15 j18) &&& 31) = 16 then
        (ix (v3 + 1) (hpL τ a15)).bind fun j283 =>
        (dn τ 10 l1).bind fun a285 =>
        (f_X10_shape τ a285 (hpA τ a15 j283)).bind fun q287 =>
        (ix (v3 + 1) (hpL τ a15)).bind fun j289 =>
        (dn τ 11 l2).bind fun a291 =>
        (f_X11_shape τ a291 (hpA τ a15 j289)).bind fun q293 =>
        if q287 = q293.1 then
          some (.inr q293.2)
        else
          some (.inl (.inl (0, q293.2)))
      else if ((hpA τ a15 j18) &&& 31) = 17 then
        (ix (v3 + 1) (hpL τ a15)).bind fun j296 =>
        (dn τ 10 l1).bind fun a298 =>
        (f_X10_bestWidth τ a298 (hpA τ a15 j296)).bind fun q300 =>
        (dnA q300.2 l0).bind fun a302 =>
        (ix (v3 + 1) (hpL q300.2 a302)).bind fun j304 =>
        (dn q300.2 11 l2).bind fun a306 =>
        (f_X11_bestWidth q300.2 a306 (hpA q300.2 a302 j304)).bind fun q308 =>
        if q300.1 = q308.1 then
          some (.inr q308.2)
        else
          some (.inl (.inl (0, q308.2)))
      else if ((hpA τ a15 j18) &&& 31) = 18 then
        (ix (v3 + 1) (hpL τ a15)).bind fun j311 =>
        (dn τ 10 l1).bind fun a313 =>
        (f_X10_leastHeight τ a313 (hpA τ a15 j311)).bind fun q315 =>
        (dnA q315.2 l0).bind fun a317 =>
        (ix (v3 + 1) (hpL q315.2 a317)).bind fun j319 =>
        (dn q315.2 11 l2).bind fun a321 =>
        (f_X11_leastHeight q315.2 a321 (hpA q315.2 a317 j319)).bind fun q323 =>
        if q315.1 = q323.1 then
          some (.inr q323.2)
        else
          some (.inl (.inl (0, q323.2)))
      else if ((hpA τ a15 j18) &&& 31) = 19 then
        (ix (v3 + 1) (hpL τ a15)).bind fun j326 =>
        (dn τ 10 l1).bind fun a328 =>
        (f_X10_count τ a328 (hpA τ a15 j326)).bind fun q330 =>
        (ix (v3 + 1) (hpL τ a15)).bind fun j332 =>
        (dn τ 11 l2).bind fun a334 =>
        (f_X11_count τ a334 (hpA τ a15 j332)).bind fun q336 =>
        if q330 = q336.1 then
          some (.inr q336.2)
        else
          some (.inl (.inl (0, q336.2)))
      else if ((hpA τ a15 j18) &&& 31) = 20 then
        (dn τ 10 l1).bind fun a339 =>
        (f_X10_digest τ a339).bind fun q341 =>
        (dn τ 11 l2).bind fun a343 =>
        (f_X11_digest τ a343).bind fun q345 =>
        if (lg_cmp q341 q345.1) = 0 then
          some (.inr q345.2)
        else
          some (.inl (.inl (0, q345.2)))
      else 
        some (.inr τ)) fun (wx20 : St) =>
      LL_law_18 n l0 l1 l2 (v3 + 4) wx20
def f_L_law (σ : St) (p1 : Option Nat) : Option (Int32 × St) :=
  (nwO σ 10).bind fun σ1 =>
  (dn σ1 10 (some (hpN σ))).bind fun a3 =>
  (f_X10_init σ1 a3).bind fun q5 =>
  (nwO q5 11).bind fun σ7 =>
  (dn σ7 11 (some (hpN q5))).bind fun a9 =>
  (f_X11_init σ7 a9).bind fun q11 =>
  sb (LL_law_18 FU p1 (some (hpN σ)) (some (hpN q5)) 0 q11) fun wx14 =>
  some (1, wx14)
