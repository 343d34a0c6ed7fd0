/-! THE LAW'S TURN, CUT IN PIECES -/
noncomputable def cs0 {τ : Type} (K : Int32 × Int32 × gST → Option τ) (o rn : gRF) (D : gDS) (h : PH) : Option τ :=
              (gFr D o 8 5).bind fun r49 =>
              (gLen D r49).bind fun z50 =>
              (F_X10_below D rn (10 : Int32)).bind fun y51 =>
              jn (fun (v53 : Int32) =>
               (F_X10_below y51.2 rn (z50 + v53)).bind fun y54 =>
               (gFr y54.2 o 8 5).bind fun r55 =>
               (gLen y54.2 r55).bind fun z56 =>
               jn (fun (v58 : Int32) =>
                (F_L_openTour h y54.1).bind fun x59 =>
                (gFr (gBm y54.2 2) o 8 5).bind fun r60 =>
                (gLen (gBm y54.2 2) r60).bind fun z61 =>
                jn (fun (v63 : Int32) =>
                 jn (fun (v65 : Int32) =>
                  if ¬ v58 = 0 then
                   (gFr (gBm y54.2 2) o 8 6).bind fun r66 =>
                   (gFr (gBm y54.2 2) o 8 6).bind fun r67 =>
                   (gLen (gBm y54.2 2) r67).bind fun z68 =>
                   (gFr (gBm y54.2 2) o 8 5).bind fun r69 =>
                   (gIld (gBm y54.2 2) r69 1 y54.1).bind fun z70 =>
                   (F_L_inserted (gBm y54.2 2) r66 z68 z70).bind fun y71 =>
                   (gFst y71.2 o 8 6 (.inr (.inr y71.1))).bind fun D72 =>
                   (gFr D72 o 8 7).bind fun r73 =>
                   (F_L_with (gAI D72 1 0) r73 (gTop D72)).bind fun y74 =>
                   (gFst y74.2 o 8 7 (.inr (.inr y74.1))).bind fun D75 =>
                   K (v65, v58, (x59.2, D75))
                  else
                   K (v65, v58, (x59.2, (gBm y54.2 2)))) (fun k64 =>
                  if ¬ x59.1 = v63 then
                   k64 ((0 : Int32))
                  else
                   k64 ((1 : Int32)))) (fun k62 =>
                 if ¬ y54.1 = z61 then
                  if v58 = 0 then
                   k62 ((-2000000099 : Int32))
                  else
                   (gFr (gBm y54.2 2) o 8 7).bind fun r76 =>
                   (gLen (gBm y54.2 2) r76).bind fun z77 =>
                   k62 (z77)
                 else
                  k62 ((-2000000097 : Int32)))) (fun k57 =>
                if z56 ≤ y54.1 then
                 k57 ((0 : Int32))
                else
                 (gFr y54.2 o 8 7).bind fun r78 =>
                 (gLen y54.2 r78).bind fun z79 =>
                 if (4 : Int32) ≤ z79 then
                  k57 ((0 : Int32))
                 else
                  k57 ((1 : Int32)))) (fun k52 =>
               if ¬ y51.1 = 0 then
                k52 ((0 : Int32))
               else
                k52 ((1 : Int32)))
noncomputable def cs2 {τ : Type} (K : Int32 × Int32 × gST → Option τ) (o : gRF) (D : gDS) (h : PH) (at_ : gRF) (ed ex : Int32) : Option τ :=
              jn (fun (v112 : gRF × gST) =>
               jn (fun (v114 : Int32 × gST) =>
                jn (fun (v116 : Int32 × gST) =>
                 (F_L_drop v116.2.1 ed).bind fun x117 =>
                 if ¬ x117.1 = v116.1 then
                  K ((0 : Int32), v114.1, (x117.2, (gBm v116.2.2 3)))
                 else
                  K ((1 : Int32), v114.1, (x117.2, (gBm v116.2.2 3)))) (fun k115 =>
                 if v114.1 = 0 then
                  k115 (ex, (v114.2.1, v114.2.2))
                 else
                  (gFr v114.2.2 o 8 7).bind fun r118 =>
                  (gIld v114.2.2 at_ 1 (0 : Int32)).bind fun z119 =>
                  (gQst v114.2.2 r118 z119 v112.1).bind fun D120 =>
                  (gIld D120 at_ 1 (0 : Int32)).bind fun z121 =>
                  (F_X8_price_ D120 o z121).bind fun y122 =>
                  k115 (y122.1, (v114.2.1, y122.2)))) (fun k113 =>
                if v112.1 = none then
                 k113 ((0 : Int32), (v112.2.1, v112.2.2))
                else
                 (gFr v112.2.2 o 8 6).bind fun r123 =>
                 (gIld v112.2.2 at_ 1 (0 : Int32)).bind fun z124 =>
                 (gIld v112.2.2 r123 1 z124).bind fun z125 =>
                 (F_X8_price v112.2.2 o z125 v112.1).bind fun y126 =>
                 if (500000 : Int32) ≤ y126.1 then
                  k113 ((0 : Int32), (v112.2.1, y126.2))
                 else
                  k113 ((1 : Int32), (v112.2.1, y126.2)))) (fun k111 =>
               if at_ = none then
                k111 (none, (h, D))
               else
                (gFr D o 8 7).bind fun r127 =>
                (gIld D at_ 1 (0 : Int32)).bind fun z128 =>
                (gQld D r127 z128).bind fun r129 =>
                (gIld D at_ 1 (1 : Int32)).bind fun z130 =>
                (F_L_without D r129 z130).bind fun y131 =>
                k111 (y131.1, (h, y131.2)))
noncomputable def cs3 {τ : Type} (K : Int32 × Int32 × gST → Option τ) (o : gRF) (D : gDS) (h : PH) (at_ : gRF) (ed ex : Int32) : Option τ :=
              jn (fun (v133 : gRF × gST) =>
               jn (fun (v135 : gST) =>
                jn (fun (v137 : Int32 × gST) =>
                 jn (fun (v139 : Int32 × gST) =>
                  (F_L_flip v139.2.1 ed).bind fun x140 =>
                  if ¬ x140.1 = v139.1 then
                   K ((0 : Int32), v137.1, (x140.2, (gBm v139.2.2 3)))
                  else
                   K ((1 : Int32), v137.1, (x140.2, (gBm v139.2.2 3)))) (fun k138 =>
                  if v137.1 = 0 then
                   k138 (ex, (v137.2.1, v137.2.2))
                  else
                   (gFr v137.2.2 o 8 7).bind fun r141 =>
                   (gIld v137.2.2 at_ 1 (0 : Int32)).bind fun z142 =>
                   (gQst v137.2.2 r141 z142 v133.1).bind fun D143 =>
                   (gIld D143 at_ 1 (0 : Int32)).bind fun z144 =>
                   (F_X8_price_ D143 o z144).bind fun y145 =>
                   k138 (y145.1, (v137.2.1, y145.2)))) (fun k136 =>
                 if v133.1 = none then
                  k136 ((0 : Int32), (v135.1, v135.2))
                 else
                  (gFr v135.2 o 8 6).bind fun r146 =>
                  (gIld v135.2 at_ 1 (0 : Int32)).bind fun z147 =>
                  (gIld v135.2 r146 1 z147).bind fun z148 =>
                  (F_X8_price v135.2 o z148 v133.1).bind fun y149 =>
                  if (500000 : Int32) ≤ y149.1 then
                   k136 ((0 : Int32), (v135.1, y149.2))
                  else
                   k136 ((1 : Int32), (v135.1, y149.2)))) (fun k134 =>
                if v133.1 = none then
                 k134 ((v133.2.1, v133.2.2))
                else
                 (gIld v133.2.2 at_ 1 (1 : Int32)).bind fun z150 =>
                 (gIld v133.2.2 v133.1 1 z150).bind fun z151 =>
                 (gIst v133.2.2 v133.1 1 z150 (z151 ^^^ (1 : Int32))).bind fun D152 =>
                 k134 ((v133.2.1, D152)))) (fun k132 =>
               if at_ = none then
                k132 (none, (h, D))
               else
                (gFr D o 8 7).bind fun r153 =>
                (gIld D at_ 1 (0 : Int32)).bind fun z154 =>
                (gQld D r153 z154).bind fun r155 =>
                (gCln D r155 1).bind fun D156 =>
                (gIsA D156 (gTop D) 1).bind fun u157 =>
                k132 ((gTop D), (h, D156)))
noncomputable def cs5 {τ : Type} (K : Int32 × Int32 × gST → Option τ) (o rn : gRF) (D : gDS) (h : PH) (ok : Int32) : Option τ :=
              (F_X10_below D rn (2 : Int32)).bind fun y184 =>
              jn (fun (v186 : Int32) =>
               if v186 = 0 then
                K (ok, v186, (h, y184.2))
               else
                (F_X7_build h).bind fun x187 =>
                (F_X8_build y184.2 o).bind fun y188 =>
                if ¬ x187.1 = y188.1 then
                 K ((0 : Int32), v186, (x187.2, y188.2))
                else
                 K ((1 : Int32), v186, (x187.2, y188.2))) (fun k185 =>
               if ¬ y184.1 = 0 then
                k185 ((0 : Int32))
               else
                k185 ((1 : Int32)))
noncomputable def cs6 {τ : Type} (K : Int32 × Int32 × gST → Option τ) (o rn : gRF) (D : gDS) (h : PH) : Option τ :=
              (F_X10_below D rn (3 : Int32)).bind fun y189 =>
              jn (fun (v191 : Int32) =>
               (F_L_improve h y189.1).bind fun x192 =>
               jn (fun (v194 : Int32 × gST) =>
                if ¬ x192.1 = v194.1 then
                 K ((0 : Int32), v191, (v194.2.1, v194.2.2))
                else
                 K ((1 : Int32), v191, (v194.2.1, v194.2.2))) (fun k193 =>
                if v191 = 0 then
                 k193 ((-2000000098 : Int32), (x192.2, (gBm y189.2 1)))
                else
                 (F_X8_improve (gBm y189.2 1) o y189.1).bind fun y195 =>
                 k193 (y195.1, (x192.2, y195.2)))) (fun k190 =>
               if y189.1 ≤ 0 then
                k190 ((0 : Int32))
               else
                k190 ((1 : Int32)))
noncomputable def cs7 {τ : Type} (K : Int32 × Int32 × gST → Option τ) (o rn : gRF) (D : gDS) (h : PH) (ed ie : Int32) : Option τ :=
             (gFr D o 8 7).bind fun r196 =>
             (gLen D r196).bind fun z197 =>
             (F_X10_below D rn (z197 + (1 : Int32))).bind fun y198 =>
             (gFr y198.2 o 8 7).bind fun r199 =>
             (gLen y198.2 r199).bind fun z200 =>
             jn (fun (v202 : Int32) =>
              jn (fun (v204 : Int32 × gST) =>
               (F_X10_below v204.2.2 rn (2 : Int32)).bind fun y205 =>
               jn (fun (v207 : Int32) =>
                jn (fun (v209 : Int32 × gST) =>
                 jn (fun (v211 : Int32) =>
                  jn (fun (v213 : Int32 × gST) =>
                   (F_L_insert v213.2.1 y198.1 v204.1 (((2 : Int32) * ed) + y205.1)).bind fun x214 =>
                   if ¬ x214.1 = v213.1 then
                    K ((0 : Int32), v209.1, (x214.2, (gBm v213.2.2 5)))
                   else
                    K ((1 : Int32), v209.1, (x214.2, (gBm v213.2.2 5)))) (fun k212 =>
                   if v209.1 = 0 then
                    k212 (v211, (v209.2.1, v209.2.2))
                   else
                    (gFr v209.2.2 o 8 7).bind fun r215 =>
                    (gFr v209.2.2 o 8 7).bind fun r216 =>
                    (gQld v209.2.2 r216 y198.1).bind fun r217 =>
                    (F_L_inserted v209.2.2 r217 v204.1 (((2 : Int32) * ed) + y205.1)).bind fun y218 =>
                    (gQst y218.2 r215 y198.1 y218.1).bind fun D219 =>
                    (F_X8_price_ D219 o y198.1).bind fun y220 =>
                    k212 (y220.1, (v209.2.1, y220.2)))) (fun k210 =>
                  if v207 = 0 then
                   k210 ((-2000000097 : Int32))
                  else
                   k210 ((-2000000099 : Int32)))) (fun k208 =>
                 if v207 = 0 then
                  k208 ((0 : Int32), (v204.2.1, y205.2))
                 else
                  (F_X8_isOpen y205.2 o ed).bind fun y221 =>
                  if y221.1 = 0 then
                   k208 ((0 : Int32), (v204.2.1, y221.2))
                  else
                   (F_X8_fits y221.2 o y198.1 v204.1 (((2 : Int32) * ed) + y205.1)).bind fun y222 =>
                   if y222.1 = 0 then
                    k208 ((0 : Int32), (v204.2.1, y222.2))
                   else
                    k208 ((1 : Int32), (v204.2.1, y222.2)))) (fun k206 =>
                if v202 = 0 then
                 k206 ((0 : Int32))
                else
                 if ie = 0 then
                  k206 ((0 : Int32))
                 else
                  (gFr y205.2 o 8 7).bind fun r223 =>
                  (gQld y205.2 r223 y198.1).bind fun r224 =>
                  (gLen y205.2 r224).bind fun z225 =>
                  if z225 < v204.1 then
                   k206 ((0 : Int32))
                  else
                   k206 ((1 : Int32)))) (fun k203 =>
               if v202 = 0 then
                k203 ((0 : Int32), (h, y198.2))
               else
                (gFr y198.2 o 8 7).bind fun r226 =>
                (gQld y198.2 r226 y198.1).bind fun r227 =>
                (gLen y198.2 r227).bind fun z228 =>
                (F_X10_below y198.2 rn (14 : Int32)).bind fun y229 =>
                jn (fun (v231 : Int32) =>
                 (F_X10_below y229.2 rn (z228 + v231)).bind fun y232 =>
                 k203 (y232.1, (h, y232.2))) (fun k230 =>
                 if ¬ y229.1 = 0 then
                  k230 ((1 : Int32))
                 else
                  k230 ((2 : Int32))))) (fun k201 =>
              if z200 ≤ y198.1 then
               k201 ((0 : Int32))
              else
               k201 ((1 : Int32)))
abbrev oSt : Type := Int32 × Int32 × Int32 × gST
abbrev tRs : Type := (Int32 × (Int32 × gST)) ⊕ Int32
noncomputable def unB (o bfr : gRF) (i done : Int32) (s13 : Int32 × Int32 × gST) : Option ((Int32 × Int32 × gST) ⊕ (oSt ⊕ tRs)) :=
       jn (fun (v15 : Unit) =>
        if s13.1 = 0 then
         some (.inr (.inr (.inl ((0 : Int32), (i + (1 : Int32)), (s13.2.2.1, s13.2.2.2)))))
        else
         (F_L_load s13.2.2.1 (1 : Int32)).bind fun x16 =>
         if ¬ x16.1 = (-2000000098 : Int32) then
          some (.inr (.inr (.inl ((0 : Int32), (i + (1 : Int32)), (x16.2, (gBm s13.2.2.2 1))))))
         else
          (F_L_edge x16.2 (0 : Int32) (5 : Int32)).bind fun x17 =>
          if ¬ x17 = (-2000000098 : Int32) then
           some (.inr (.inr (.inl ((0 : Int32), (i + (1 : Int32)), (x16.2, (gBm (gBm s13.2.2.2 1) 2))))))
          else
           (F_L_edge x16.2 (-1 : Int32) (5 : Int32)).bind fun x18 =>
           if ¬ x18 = (-2000000097 : Int32) then
            some (.inr (.inr (.inl ((0 : Int32), (i + (1 : Int32)), (x16.2, (gBm (gBm (gBm s13.2.2.2 1) 2) 2))))))
           else
            (F_X8_arcs (gBm (gBm (gBm s13.2.2.2 1) 2) 2) o).bind fun y19 =>
            (F_L_deadhead x16.2 (0 : Int32) y19).bind fun x20 =>
            if ¬ x20 = (-2000000097 : Int32) then
             some (.inr (.inr (.inl ((0 : Int32), (i + (1 : Int32)), (x16.2, (gBm (gBm (gBm (gBm s13.2.2.2 1) 2) 2) 2))))))
            else
             (gFr (gBm (gBm (gBm (gBm s13.2.2.2 1) 2) 2) 2) o 8 3).bind fun r21 =>
             (gLen (gBm (gBm (gBm (gBm s13.2.2.2 1) 2) 2) 2) r21).bind fun z22 =>
             (F_L_bestInsertion x16.2 z22).bind fun x23 =>
             if ¬ x23 = (-2000000097 : Int32) then
              some (.inr (.inr (.inl ((0 : Int32), (i + (1 : Int32)), (x16.2, (gBm (gBm (gBm (gBm (gBm s13.2.2.2 1) 2) 2) 2) 2))))))
             else
              some (.inr (.inr (.inl ((1 : Int32), (i + (1 : Int32)), (x16.2, (gBm (gBm (gBm (gBm (gBm s13.2.2.2 1) 2) 2) 2) 2))))))) (fun k14 =>
        if (8 : Int32) ≤ s13.2.1 then
         k14 ()
        else
         if done ≤ s13.2.1 then
          k14 ()
         else
          if s13.1 = 0 then
           k14 ()
          else
           (F_X7_undo s13.2.2.1).bind fun x24 =>
           if x24.1 < 0 then
            some (.inl ((0 : Int32), (s13.2.1 + (1 : Int32)), (x24.2, s13.2.2.2)))
           else
            (gQld s13.2.2.2 bfr s13.2.1).bind fun r25 =>
            (F_L_agrees (x24.2, s13.2.2.2) r25).bind fun y26 =>
            if y26.1 = 0 then
             some (.inl ((0 : Int32), (s13.2.1 + (1 : Int32)), (y26.2.1, y26.2.2)))
            else
             some (.inl ((1 : Int32), (s13.2.1 + (1 : Int32)), (y26.2.1, y26.2.2))))
noncomputable def opB (o rn bfr : gRF) (i : Int32) (s10 : oSt) : Option (oSt ⊕ tRs) :=
     jn (fun (v12 : Unit) =>
      loop (unB o bfr i s10.2.1) (s10.1, (0 : Int32), (s10.2.2.2.1, s10.2.2.2.2))) (fun k11 =>
      if (35 : Int32) ≤ s10.2.2.1 then
       k11 ()
      else
       if s10.1 = 0 then
        k11 ()
       else
        (F_X8_copy s10.2.2.2.2 o).bind fun y27 =>
        (F_X10_below y27.2 rn (14 : Int32)).bind fun y28 =>
        jn (fun (v30 : Int32 × gST) =>
         (gFr v30.2.2 o 8 3).bind fun r31 =>
         (gLen v30.2.2 r31).bind fun z32 =>
         jn (fun (v34 : Int32) =>
          jn (fun (v36 : gRF × gST) =>
           jn (fun (v38 : Int32) =>
            (F_X10_below v36.2.2 rn (12 : Int32)).bind fun y39 =>
            jn (fun (v41 : Int32 × Int32 × gST) =>
             jn (fun (v43 : Int32 × gST) =>
              if v41.1 = 0 then
               some (.inl ((0 : Int32), v43.1, (s10.2.2.1 + (1 : Int32)), (v43.2.1, v43.2.2)))
              else
               (F_L_agrees (v43.2.1, v43.2.2) o).bind fun y44 =>
               if y44.1 = 0 then
                some (.inl ((0 : Int32), v43.1, (s10.2.2.1 + (1 : Int32)), (y44.2.1, y44.2.2)))
               else
                some (.inl ((1 : Int32), v43.1, (s10.2.2.1 + (1 : Int32)), (y44.2.1, y44.2.2)))) (fun k42 =>
              if v41.2.1 = 0 then
               k42 (s10.2.1, (v41.2.2.1, v41.2.2.2))
              else
               loop (fun (s45 : Int32 × gST) =>
                if s45.1 ≤ 0 then
                 (gQst s45.2.2 bfr (0 : Int32) y27.1).bind fun D46 =>
                 (k42 ((s10.2.1 + (1 : Int32)), (s45.2.1, D46))).map Sum.inr
                else
                 (gQld s45.2.2 bfr (s45.1 - (1 : Int32))).bind fun r47 =>
                 (gQst s45.2.2 bfr s45.1 r47).bind fun D48 =>
                 some (.inl ((s45.1 - (1 : Int32)), (s45.2.1, D48)))) ((8 : Int32), (v41.2.2.1, v41.2.2.2)))) (fun k40 =>
             if y39.1 = 0 then cs0 k40 o rn y39.2 v36.2.1
             else
             if y39.1 = 1 then cs0 k40 o rn y39.2 v36.2.1
             else
             if y39.1 = 2 then cs2 k40 o y39.2 v36.2.1 v36.1 v30.1 v38
             else
             if y39.1 = 3 then cs3 k40 o y39.2 v36.2.1 v36.1 v30.1 v38
             else
             if y39.1 = 4 then cs3 k40 o y39.2 v36.2.1 v36.1 v30.1 v38
             else
             if y39.1 = 5 then cs5 k40 o rn y39.2 v36.2.1 s10.1
             else
             if y39.1 = 6 then cs6 k40 o rn y39.2 v36.2.1
             else cs7 k40 o rn y39.2 v36.2.1 v30.1 v34)) (fun k37 =>
            if v34 = 0 then
             k37 ((-2000000097 : Int32))
            else
             k37 ((-2000000099 : Int32)))) (fun k35 =>
           if v34 = 0 then
            k35 (none, (v30.2.1, v30.2.2))
           else
            (F_X8_where v30.2.2 o v30.1).bind fun y233 =>
            k35 (y233.1, (v30.2.1, y233.2)))) (fun k33 =>
          if z32 ≤ v30.1 then
           k33 ((0 : Int32))
          else
           k33 ((1 : Int32)))) (fun k29 =>
         if ¬ y28.1 = 0 then
          (gFr y28.2 o 8 3).bind fun r234 =>
          (gLen y28.2 r234).bind fun z235 =>
          (F_X10_below y28.2 rn z235).bind fun y236 =>
          k29 (y236.1, (s10.2.2.2.1, y236.2))
         else
          (gFr y28.2 o 8 3).bind fun r237 =>
          (gLen y28.2 r237).bind fun z238 =>
          k29 (z238, (s10.2.2.2.1, y28.2))))
set_option maxRecDepth 100000 in
set_option maxHeartbeats 4000000 in
theorem turn_is (s : gST) (ok i : Int32) : F_L_turn s ok i =
 (gScr s.1 i).bind fun z1 =>
 (F_X10_init (gNwO (gAI s.2 1 8) 10) (gTop (gAI s.2 1 8)) z1).bind fun y2 =>
 (F_X8_init (gNwO y2 8) (gTop y2)).bind fun y3 =>
 (F_L_agrees (s.1, y3) (gTop y2)).bind fun y4 =>
 jn (fun (v6 : Int32 × gST) =>
  (F_L_randomCity (v6.2.1, v6.2.2) (gTop s.2) (gTop (gAI s.2 1 8)) (8 : Int32)).bind fun y7 =>
  if y7.1 = none then
   some (.inr (0 : Int32))
  else
   jn (fun (v9 : Int32 × gST) =>
    loop (opB y7.1 (gTop (gAI s.2 1 8)) (gTop v9.2.2) i) (v9.1, (0 : Int32), (0 : Int32), (v9.2.1, (gAQ v9.2.2 41 9)))) (fun k8 =>
    if v6.1 = 0 then
     k8 ((0 : Int32), (y7.2.1, y7.2.2))
    else
     (F_L_agrees (y7.2.1, y7.2.2) y7.1).bind fun y239 =>
     if y239.1 = 0 then
      k8 ((0 : Int32), (y239.2.1, y239.2.2))
     else
      k8 ((1 : Int32), (y239.2.1, y239.2.2)))) (fun k5 =>
  if y4.1 = 0 then
   k5 ((0 : Int32), (y4.2.1, y4.2.2))
  else
   if ¬ (F_X7_errorOffset y4.2.1) = (-1 : Int32) then
    k5 ((0 : Int32), (y4.2.1, y4.2.2))
   else
    (F_X7_undo y4.2.1).bind fun x240 =>
    if ¬ x240.1 = (-1 : Int32) then
     k5 ((0 : Int32), (x240.2, y4.2.2))
    else
     (F_L_openTour x240.2 (0 : Int32)).bind fun x241 =>
     if ¬ x241.1 = (-2000000097 : Int32) then
      k5 ((0 : Int32), (x241.2, (gBm y4.2.2 2)))
     else
      (F_L_insert x241.2 (0 : Int32) (0 : Int32) (0 : Int32)).bind fun x242 =>
      if ¬ x242.1 = (-2000000097 : Int32) then
       k5 ((0 : Int32), (x242.2, (gBm (gBm y4.2.2 2) 5)))
      else
       (F_L_improve x242.2 (0 : Int32)).bind fun x243 =>
       if ¬ x243.1 = (-2000000098 : Int32) then
        k5 ((0 : Int32), (x243.2, (gBm (gBm (gBm y4.2.2 2) 5) 1)))
       else
        (F_X7_matching x243.2).bind fun x244 =>
        if ¬ x244 = 0 then
         k5 ((0 : Int32), (x243.2, (gBm (gBm (gBm y4.2.2 2) 5) 1)))
        else
         k5 ((1 : Int32), (x243.2, (gBm (gBm (gBm y4.2.2 2) 5) 1)))) := rfl
