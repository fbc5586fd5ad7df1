def l_law_18 (X : zk_X) (K : zk_I → zk_J → Option (Int32 × zk_I × zk_J)) : Nat → Int32 → zk_I → zk_J → Option (Int32 × zk_I × zk_J)
  | 0, _, _, _ => none
  | n + 1, y3, Iy, Jy => (if ((Int32.ofNat X.1) - (4 : Int32)) < y3 then (
    K Iy Jy) else (
    zk_ck (zk_in y3 X.1) (
     zk_jp2 (fun (I4 : zk_I) (J5 : zk_J) =>
      l_law_18 X K n (y3 + (4 : Int32)) I4 J5) (fun (K6 : zk_I → zk_J → Option (Int32 × zk_I × zk_J)) =>
      (if ((X.2 y3.toNatClampNeg) &&& (31 : Int32)) = (0 : Int32) then (
       zk_ck (zk_in (y3 + (1 : Int32)) X.1) (
        zk_bd2 (f_X7_write Iy (X.2 (y3 + (1 : Int32)).toNatClampNeg)) (fun (r9 : Int32) (I10 : zk_I) =>
         zk_ck (zk_in (y3 + (1 : Int32)) X.1) (
          zk_bd2 (f_X8_write I10 (X.2 (y3 + (1 : Int32)).toNatClampNeg)) (fun (r13 : Int32) (I14 : zk_I) =>
           (if r9 = r13 then (
            K6 I14 Jy) else (
            some ((0 : Int32), I14, Jy)))))))) else if ((X.2 y3.toNatClampNeg) &&& (31 : Int32)) = (1 : Int32) then (
       zk_bd2 (f_X7_erase Iy) (fun (r17 : Int32) (I18 : zk_I) =>
        zk_bd2 (f_X8_erase I18) (fun (r20 : Int32) (I21 : zk_I) =>
         (if r17 = r20 then (
          K6 I21 Jy) else (
          some ((0 : Int32), I21, Jy)))))) else if ((X.2 y3.toNatClampNeg) &&& (31 : Int32)) = (2 : Int32) then (
       zk_bd2 (f_X7_fault Iy) (fun (r24 : Int32) (I25 : zk_I) =>
        zk_bd2 (f_X8_fault I25) (fun (r27 : Int32) (I28 : zk_I) =>
         (if r24 = r27 then (
          K6 I28 Jy) else (
          some ((0 : Int32), I28, Jy)))))) else if ((X.2 y3.toNatClampNeg) &&& (31 : Int32)) = (3 : Int32) then (
       zk_bd2 (f_X7_library Iy) (fun (r31 : Int32) (I32 : zk_I) =>
        zk_bd2 (f_X8_library I32) (fun (r34 : Int32) (I35 : zk_I) =>
         (if r31 = r34 then (
          K6 I35 Jy) else (
          some ((0 : Int32), I35, Jy)))))) else if ((X.2 y3.toNatClampNeg) &&& (31 : Int32)) = (4 : Int32) then (
       zk_ck (zk_in (y3 + (1 : Int32)) X.1) (
        zk_ck (zk_in (y3 + (2 : Int32)) X.1) (
         zk_bd1 (f_X7_reader Iy (X.2 (y3 + (1 : Int32)).toNatClampNeg) (X.2 (y3 + (2 : Int32)).toNatClampNeg)) (fun (r40 : Int32) =>
          zk_ck (zk_in (y3 + (1 : Int32)) X.1) (
           zk_ck (zk_in (y3 + (2 : Int32)) X.1) (
            zk_bd1 (f_X8_reader Iy (X.2 (y3 + (1 : Int32)).toNatClampNeg) (X.2 (y3 + (2 : Int32)).toNatClampNeg)) (fun (r44 : Int32) =>
             (if r40 = r44 then (
              K6 Iy Jy) else (
              some ((0 : Int32), Iy, Jy)))))))))) else if ((X.2 y3.toNatClampNeg) &&& (31 : Int32)) = (5 : Int32) then (
       zk_ck (zk_in (y3 + (1 : Int32)) X.1) (
        zk_ck (zk_in (y3 + (2 : Int32)) X.1) (
         zk_bd1 (f_X7_book Iy (X.2 (y3 + (1 : Int32)).toNatClampNeg) (X.2 (y3 + (2 : Int32)).toNatClampNeg)) (fun (r49 : Int32) =>
          zk_ck (zk_in (y3 + (1 : Int32)) X.1) (
           zk_ck (zk_in (y3 + (2 : Int32)) X.1) (
            zk_bd1 (f_X8_book Iy (X.2 (y3 + (1 : Int32)).toNatClampNeg) (X.2 (y3 + (2 : Int32)).toNatClampNeg)) (fun (r53 : Int32) =>
             (if r49 = r53 then (
              K6 Iy Jy) else (
              some ((0 : Int32), Iy, Jy)))))))))) else if ((X.2 y3.toNatClampNeg) &&& (31 : Int32)) = (6 : Int32) then (
       zk_ck (zk_in (y3 + (1 : Int32)) X.1) (
        zk_ck (zk_in (y3 + (2 : Int32)) X.1) (
         zk_bd1 (f_X7_as Iy (X.2 (y3 + (1 : Int32)).toNatClampNeg) (X.2 (y3 + (2 : Int32)).toNatClampNeg)) (fun (r58 : Int32) =>
          zk_ck (zk_in (y3 + (1 : Int32)) X.1) (
           zk_ck (zk_in (y3 + (2 : Int32)) X.1) (
            zk_bd1 (f_X8_as Iy (X.2 (y3 + (1 : Int32)).toNatClampNeg) (X.2 (y3 + (2 : Int32)).toNatClampNeg)) (fun (r62 : Int32) =>
             (if r58 = r62 then (
              K6 Iy Jy) else (
              some ((0 : Int32), Iy, Jy)))))))))) else if ((X.2 y3.toNatClampNeg) &&& (31 : Int32)) = (7 : Int32) then (
       zk_ck (zk_in (y3 + (1 : Int32)) X.1) (
        zk_ck (zk_in (y3 + (2 : Int32)) X.1) (
         zk_bd1 (f_X7_may Iy (X.2 (y3 + (1 : Int32)).toNatClampNeg) (X.2 (y3 + (2 : Int32)).toNatClampNeg)) (fun (r67 : Int32) =>
          zk_ck (zk_in (y3 + (1 : Int32)) X.1) (
           zk_ck (zk_in (y3 + (2 : Int32)) X.1) (
            zk_bd1 (f_X8_may Iy (X.2 (y3 + (1 : Int32)).toNatClampNeg) (X.2 (y3 + (2 : Int32)).toNatClampNeg)) (fun (r71 : Int32) =>
             (if r67 = r71 then (
              K6 Iy Jy) else (
              some ((0 : Int32), Iy, Jy)))))))))) else if ((X.2 y3.toNatClampNeg) &&& (31 : Int32)) = (8 : Int32) then (
       zk_ck (zk_in (y3 + (1 : Int32)) X.1) (
        zk_ck (zk_in (y3 + (2 : Int32)) X.1) (
         zk_bd2 (f_X7_name Iy (X.2 (y3 + (1 : Int32)).toNatClampNeg) (X.2 (y3 + (2 : Int32)).toNatClampNeg)) (fun (r76 : Int32) (I77 : zk_I) =>
          zk_ck (zk_in (y3 + (1 : Int32)) X.1) (
           zk_ck (zk_in (y3 + (2 : Int32)) X.1) (
            zk_bd2 (f_X8_name I77 (X.2 (y3 + (1 : Int32)).toNatClampNeg) (X.2 (y3 + (2 : Int32)).toNatClampNeg)) (fun (r81 : Int32) (I82 : zk_I) =>
             (if r76 = r81 then (
              K6 I82 Jy) else (
              some ((0 : Int32), I82, Jy)))))))))) else if ((X.2 y3.toNatClampNeg) &&& (31 : Int32)) = (9 : Int32) then (
       zk_bd2 (f_X7_day Iy) (fun (r85 : Int32) (I86 : zk_I) =>
        zk_bd2 (f_X8_day I86) (fun (r88 : Int32) (I89 : zk_I) =>
         (if r85 = r88 then (
          K6 I89 Jy) else (
          some ((0 : Int32), I89, Jy)))))) else if ((X.2 y3.toNatClampNeg) &&& (31 : Int32)) = (10 : Int32) then (
       zk_bd2 (f_X7_undo Iy) (fun (r92 : Int32) (I93 : zk_I) =>
        zk_bd2 (f_X8_undo I93) (fun (r95 : Int32) (I96 : zk_I) =>
         (if r92 = r95 then (
          K6 I96 Jy) else (
          some ((0 : Int32), I96, Jy)))))) else if ((X.2 y3.toNatClampNeg) &&& (31 : Int32)) = (11 : Int32) then (
       zk_ck (zk_in (y3 + (1 : Int32)) X.1) (
        zk_bd2 (f_X7_keep Iy (X.2 (y3 + (1 : Int32)).toNatClampNeg)) (fun (r100 : Int32) (I101 : zk_I) =>
         zk_ck (zk_in (y3 + (1 : Int32)) X.1) (
          zk_bd2 (f_X8_keep I101 (X.2 (y3 + (1 : Int32)).toNatClampNeg)) (fun (r104 : Int32) (I105 : zk_I) =>
           (if r100 = r104 then (
            K6 I105 Jy) else (
            some ((0 : Int32), I105, Jy)))))))) else if ((X.2 y3.toNatClampNeg) &&& (31 : Int32)) = (12 : Int32) then (
       zk_ck (zk_in (y3 + (1 : Int32)) X.1) (
        zk_bd2 (f_X7_back Iy (X.2 (y3 + (1 : Int32)).toNatClampNeg)) (fun (r109 : Int32) (I110 : zk_I) =>
         zk_ck (zk_in (y3 + (1 : Int32)) X.1) (
          zk_bd2 (f_X8_back I110 (X.2 (y3 + (1 : Int32)).toNatClampNeg)) (fun (r113 : Int32) (I114 : zk_I) =>
           (if r109 = r113 then (
            K6 I114 Jy) else (
            some ((0 : Int32), I114, Jy)))))))) else if ((X.2 y3.toNatClampNeg) &&& (31 : Int32)) = (13 : Int32) then (
       zk_ck (zk_in (y3 + (1 : Int32)) X.1) (
        zk_ck (zk_in (y3 + (2 : Int32)) X.1) (
         zk_bd3 (f_X7_longest Iy Jy (X.2 (y3 + (1 : Int32)).toNatClampNeg) (X.2 (y3 + (2 : Int32)).toNatClampNeg)) (fun (r119 : Int32) (I120 : zk_I) (J121 : zk_J) =>
          zk_ck (zk_in (y3 + (1 : Int32)) X.1) (
           zk_ck (zk_in (y3 + (2 : Int32)) X.1) (
            zk_bd2 (f_X8_longest I120 (X.2 (y3 + (1 : Int32)).toNatClampNeg) (X.2 (y3 + (2 : Int32)).toNatClampNeg)) (fun (r125 : Int32) (I126 : zk_I) =>
             (if r119 = r125 then (
              K6 I126 J121) else (
              some ((0 : Int32), I126, J121)))))))))) else if ((X.2 y3.toNatClampNeg) &&& (31 : Int32)) = (14 : Int32) then (
       zk_ck (zk_in (y3 + (1 : Int32)) X.1) (
        zk_ck (zk_in (y3 + (2 : Int32)) X.1) (
         zk_bd3 (f_X7_row Iy Jy (X.2 (y3 + (1 : Int32)).toNatClampNeg) (X.2 (y3 + (2 : Int32)).toNatClampNeg)) (fun (r131 : Int32) (I132 : zk_I) (J133 : zk_J) =>
          zk_ck (zk_in (y3 + (1 : Int32)) X.1) (
           zk_ck (zk_in (y3 + (2 : Int32)) X.1) (
            zk_bd2 (f_X8_row I132 (X.2 (y3 + (1 : Int32)).toNatClampNeg) (X.2 (y3 + (2 : Int32)).toNatClampNeg)) (fun (r137 : Int32) (I138 : zk_I) =>
             (if r131 = r137 then (
              K6 I138 J133) else (
              some ((0 : Int32), I138, J133)))))))))) else if ((X.2 y3.toNatClampNeg) &&& (31 : Int32)) = (15 : Int32) then (
       zk_ck (zk_in (y3 + (1 : Int32)) X.1) (
        zk_bd3 (f_X7_shortest Iy Jy (X.2 (y3 + (1 : Int32)).toNatClampNeg)) (fun (r142 : Int32) (I143 : zk_I) (J144 : zk_J) =>
         zk_ck (zk_in (y3 + (1 : Int32)) X.1) (
          zk_bd2 (f_X8_shortest I143 (X.2 (y3 + (1 : Int32)).toNatClampNeg)) (fun (r147 : Int32) (I148 : zk_I) =>
           (if r142 = r147 then (
            K6 I148 J144) else (
            some ((0 : Int32), I148, J144)))))))) else if ((X.2 y3.toNatClampNeg) &&& (31 : Int32)) = (16 : Int32) then (
       zk_ck (zk_in (y3 + (1 : Int32)) X.1) (
        zk_bd3 (f_X7_can Iy Jy (X.2 (y3 + (1 : Int32)).toNatClampNeg)) (fun (r152 : Int32) (I153 : zk_I) (J154 : zk_J) =>
         zk_ck (zk_in (y3 + (1 : Int32)) X.1) (
          zk_bd2 (f_X8_can I153 (X.2 (y3 + (1 : Int32)).toNatClampNeg)) (fun (r157 : Int32) (I158 : zk_I) =>
           (if r152 = r157 then (
            K6 I158 J154) else (
            some ((0 : Int32), I158, J154)))))))) else if ((X.2 y3.toNatClampNeg) &&& (31 : Int32)) = (17 : Int32) then (
       zk_ck (zk_in (y3 + (1 : Int32)) X.1) (
        zk_bd3 (f_X7_all Iy Jy (X.2 (y3 + (1 : Int32)).toNatClampNeg)) (fun (r162 : Int32) (I163 : zk_I) (J164 : zk_J) =>
         zk_ck (zk_in (y3 + (1 : Int32)) X.1) (
          zk_bd2 (f_X8_all I163 (X.2 (y3 + (1 : Int32)).toNatClampNeg)) (fun (r167 : Int32) (I168 : zk_I) =>
           (if r162 = r167 then (
            K6 I168 J164) else (
            some ((0 : Int32), I168, J164)))))))) else if ((X.2 y3.toNatClampNeg) &&& (31 : Int32)) = (18 : Int32) then (
       zk_ck (zk_in (y3 + (1 : Int32)) X.1) (
        zk_bd3 (f_X7_fame Iy Jy (X.2 (y3 + (1 : Int32)).toNatClampNeg)) (fun (r172 : Int32) (I173 : zk_I) (J174 : zk_J) =>
         zk_ck (zk_in (y3 + (1 : Int32)) X.1) (
          zk_bd2 (f_X8_fame I173 (X.2 (y3 + (1 : Int32)).toNatClampNeg)) (fun (r177 : Int32) (I178 : zk_I) =>
           (if r172 = r177 then (
            K6 I178 J174) else (
            some ((0 : Int32), I178, J174)))))))) else if ((X.2 y3.toNatClampNeg) &&& (31 : Int32)) = (19 : Int32) then (
       zk_ck (zk_in (y3 + (1 : Int32)) X.1) (
        zk_ck (zk_in (y3 + (2 : Int32)) X.1) (
         zk_bd3 (f_X7_mean Iy Jy (X.2 (y3 + (1 : Int32)).toNatClampNeg) (X.2 (y3 + (2 : Int32)).toNatClampNeg)) (fun (r183 : Int64) (I184 : zk_I) (J185 : zk_J) =>
          zk_ck (zk_in (y3 + (1 : Int32)) X.1) (
           zk_ck (zk_in (y3 + (2 : Int32)) X.1) (
            zk_bd2 (f_X8_mean I184 J185 (X.2 (y3 + (1 : Int32)).toNatClampNeg) (X.2 (y3 + (2 : Int32)).toNatClampNeg)) (fun (r189 : Int64) (J190 : zk_J) =>
             (if (lg_cmp r183 r189) = 0 then (
              K6 I184 J190) else (
              some ((0 : Int32), I184, J190)))))))))) else if ((X.2 y3.toNatClampNeg) &&& (31 : Int32)) = (20 : Int32) then (
       zk_ck (zk_in (y3 + (1 : Int32)) X.1) (
        zk_ck (zk_in (y3 + (2 : Int32)) X.1) (
         zk_ck (zk_in (y3 + (3 : Int32)) X.1) (
          zk_bd3 (f_X7_odds Iy Jy (X.2 (y3 + (1 : Int32)).toNatClampNeg) (X.2 (y3 + (2 : Int32)).toNatClampNeg) (X.2 (y3 + (3 : Int32)).toNatClampNeg)) (fun (r196 : Int64) (I197 : zk_I) (J198 : zk_J) =>
           zk_ck (zk_in (y3 + (1 : Int32)) X.1) (
            zk_ck (zk_in (y3 + (2 : Int32)) X.1) (
             zk_ck (zk_in (y3 + (3 : Int32)) X.1) (
              zk_bd2 (f_X8_odds I197 J198 (X.2 (y3 + (1 : Int32)).toNatClampNeg) (X.2 (y3 + (2 : Int32)).toNatClampNeg) (X.2 (y3 + (3 : Int32)).toNatClampNeg)) (fun (r203 : Int64) (J204 : zk_J) =>
               (if (lg_cmp r196 r203) = 0 then (
                K6 I197 J204) else (
                some ((0 : Int32), I197, J204)))))))))))) else if ((X.2 y3.toNatClampNeg) &&& (31 : Int32)) = (21 : Int32) then (
       zk_ck (zk_in (y3 + (1 : Int32)) X.1) (
        zk_ck (zk_in (y3 + (2 : Int32)) X.1) (
         zk_bd3 (f_X7_turns Iy Jy (X.2 (y3 + (1 : Int32)).toNatClampNeg) (X.2 (y3 + (2 : Int32)).toNatClampNeg)) (fun (r209 : Int32) (I210 : zk_I) (J211 : zk_J) =>
          zk_ck (zk_in (y3 + (1 : Int32)) X.1) (
           zk_ck (zk_in (y3 + (2 : Int32)) X.1) (
            zk_bd2 (f_X8_turns I210 (X.2 (y3 + (1 : Int32)).toNatClampNeg) (X.2 (y3 + (2 : Int32)).toNatClampNeg)) (fun (r215 : Int32) (I216 : zk_I) =>
             (if r209 = r215 then (
              K6 I216 J211) else (
              some ((0 : Int32), I216, J211)))))))))) else if ((X.2 y3.toNatClampNeg) &&& (31 : Int32)) = (22 : Int32) then (
       zk_ck (zk_in (y3 + (1 : Int32)) X.1) (
        zk_bd2 (f_X7_clubs Iy (X.2 (y3 + (1 : Int32)).toNatClampNeg)) (fun (r220 : Int32) (I221 : zk_I) =>
         zk_ck (zk_in (y3 + (1 : Int32)) X.1) (
          zk_bd2 (f_X8_clubs I221 (X.2 (y3 + (1 : Int32)).toNatClampNeg)) (fun (r224 : Int32) (I225 : zk_I) =>
           (if r220 = r224 then (
            K6 I225 Jy) else (
            some ((0 : Int32), I225, Jy)))))))) else if ((X.2 y3.toNatClampNeg) &&& (31 : Int32)) = (23 : Int32) then (
       zk_ck (zk_in (y3 + (1 : Int32)) X.1) (
        zk_ck (zk_in (y3 + (2 : Int32)) X.1) (
         zk_bd2 (f_X7_meet Iy (X.2 (y3 + (1 : Int32)).toNatClampNeg) (X.2 (y3 + (2 : Int32)).toNatClampNeg)) (fun (r230 : Int32) (I231 : zk_I) =>
          zk_ck (zk_in (y3 + (1 : Int32)) X.1) (
           zk_ck (zk_in (y3 + (2 : Int32)) X.1) (
            zk_bd2 (f_X8_meet I231 Jy (X.2 (y3 + (1 : Int32)).toNatClampNeg) (X.2 (y3 + (2 : Int32)).toNatClampNeg)) (fun (r235 : Int32) (J236 : zk_J) =>
             (if r230 = r235 then (
              K6 I231 J236) else (
              some ((0 : Int32), I231, J236)))))))))) else if ((X.2 y3.toNatClampNeg) &&& (31 : Int32)) = (24 : Int32) then (
       zk_ck (zk_in (y3 + (1 : Int32)) X.1) (
        zk_ck (zk_in (y3 + (2 : Int32)) X.1) (
         zk_bd2 (f_X7_slip Iy (X.2 (y3 + (1 : Int32)).toNatClampNeg) (X.2 (y3 + (2 : Int32)).toNatClampNeg)) (fun (r241 : Int32) (I242 : zk_I) =>
          zk_ck (zk_in (y3 + (1 : Int32)) X.1) (
           zk_ck (zk_in (y3 + (2 : Int32)) X.1) (
            zk_bd2 (f_X8_slip I242 (X.2 (y3 + (1 : Int32)).toNatClampNeg) (X.2 (y3 + (2 : Int32)).toNatClampNeg)) (fun (r246 : Int32) (I247 : zk_I) =>
             (if r241 = r246 then (
              K6 I247 Jy) else (
              some ((0 : Int32), I247, Jy)))))))))) else if ((X.2 y3.toNatClampNeg) &&& (31 : Int32)) = (25 : Int32) then (
       zk_bd2 (f_X7_burn Iy) (fun (r250 : Int32) (I251 : zk_I) =>
        zk_bd2 (f_X8_burn I251) (fun (r253 : Int32) (I254 : zk_I) =>
         (if r250 = r253 then (
          K6 I254 Jy) else (
          some ((0 : Int32), I254, Jy)))))) else if ((X.2 y3.toNatClampNeg) &&& (31 : Int32)) = (26 : Int32) then (
       zk_ck (zk_in (y3 + (1 : Int32)) X.1) (
        zk_bd2 (f_X7_forged Iy (X.2 (y3 + (1 : Int32)).toNatClampNeg)) (fun (r258 : Int32) (I259 : zk_I) =>
         zk_ck (zk_in (y3 + (1 : Int32)) X.1) (
          zk_bd2 (f_X8_forged I259 (X.2 (y3 + (1 : Int32)).toNatClampNeg)) (fun (r262 : Int32) (I263 : zk_I) =>
           (if r258 = r262 then (
            K6 I263 Jy) else (
            some ((0 : Int32), I263, Jy)))))))) else if ((X.2 y3.toNatClampNeg) &&& (31 : Int32)) = (27 : Int32) then (
       zk_bd2 (f_X7_holder Iy) (fun (r266 : Int32) (I267 : zk_I) =>
        zk_bd2 (f_X8_holder I267) (fun (r269 : Int32) (I270 : zk_I) =>
         (if r266 = r269 then (
          K6 I270 Jy) else (
          some ((0 : Int32), I270, Jy)))))) else if ((X.2 y3.toNatClampNeg) &&& (31 : Int32)) = (28 : Int32) then (
       zk_ck (zk_in (y3 + (1 : Int32)) X.1) (
        zk_bd1 (f_X7_count Iy (X.2 (y3 + (1 : Int32)).toNatClampNeg)) (fun (r274 : Int32) =>
         zk_ck (zk_in (y3 + (1 : Int32)) X.1) (
          zk_bd1 (f_X8_count Iy (X.2 (y3 + (1 : Int32)).toNatClampNeg)) (fun (r277 : Int32) =>
           (if r274 = r277 then (
            K6 Iy Jy) else (
            some ((0 : Int32), Iy, Jy)))))))) else (
       K6 Iy Jy))))))
def f_law (X : zk_X) (I : zk_I) (J : zk_J) : Option (Int32 × zk_I × zk_J) := l_law_18 X (fun (I279 : zk_I) (J280 : zk_J) =>
  some ((1 : Int32), I279, J280)) 3000 (0 : Int32) I J
set_option maxRecDepth 20000 in
theorem kl_law_18  {X : zk_X} {K : zk_I → zk_J → Option (Int32 × zk_I × zk_J)} {r : Int32} {IR : zk_I} {JR : zk_J} (jK : ∀ (Iz : zk_I) (Jz : zk_J), K Iz Jz = some (r, IR, JR) → zC X 16 m_L_law 899 [none, none, none, none] [] (z_Z, Iz, Jz) 0 0 (some (.int r)) (z_Z, IR, JR)) : ∀ (n : Nat) (y3 : Int32) (Iy : zk_I) (Jy : zk_J), l_law_18 X K n y3 Iy Jy = some (r, IR, JR) → zC X 16 m_L_law 18 [some (.ref 1000), some (.ref 0), some (.ref 76), some (.int y3)] [] (z_Z, Iy, Jy) 0 0 (some (.int r)) (z_Z, IR, JR) := by
  intro n
  induction n with
  | zero =>
    intro y3 Iy Jy h
    cases h
  | succ n ih =>
    intro y3 Iy Jy h
    rw [l_law_18] at h
    refine c_iload_n rfl rfl ?_
    refine c_aload_n rfl rfl ?_
    refine c_alenX rfl rfl ?_
    refine c_iconst rfl vi_4 ?_
    refine c_isub rfl ?_
    refine c_icmp_gt rfl (fun q1 => ?_) (fun q1 => ?_)
    · rw [if_pos q1] at h
      refine c_drop [false, false, false, false] (L2 := [none, none, none, none]) rfl ?_
      exact jK _ _ h
    · rw [if_neg q1] at h
      refine c_aload_n rfl rfl ?_
      refine c_iload_n rfl rfl ?_
      obtain ⟨q2, h⟩ := zk_ck_e h
      refine c_ialdX rfl q2 ?_
      refine c_bipush rfl vb_31 ?_
      refine c_iand rfl ?_
      refine zk_jp2_e (Z := fun (I4 : zk_I) (J5 : zk_J) => zC X 16 m_L_law 893 [some (.ref 1000), some (.ref 0), some (.ref 76), some (.int y3)] [] (z_Z, I4, J5) 0 0 (some (.int r)) (z_Z, IR, JR)) h (fun I4 J5 h => ?_) (fun K6 jK6 h => ?_)
      · refine e_iinc (L2 := [some (.ref 1000), some (.ref 0), some (.ref 76), some (.int (y3 + (4 : Int32)))]) rfl rfl vi_4 rfl rfl rfl ?_
        refine c_goto rfl ?_
        exact ih _ _ _ h
      · by_cases q3_0 : ((X.2 y3.toNatClampNeg) &&& (31 : Int32)) = (0 : Int32)
        · rw [if_pos q3_0] at h
          refine c_topi q3_0.symm ?_
          refine c_swIn (off := 132) (tgt := 164) rfl (by decide) (by decide) (by decide +kernel) (by decide) ?_
          refine c_aload_n rfl rfl ?_
          refine c_aload_n rfl rfl ?_
          refine c_iload_n rfl rfl ?_
          refine c_iconst rfl vi_1 ?_
          refine c_iadd rfl ?_
          obtain ⟨q7, h⟩ := zk_ck_e h
          refine c_ialdX rfl q7 ?_
          obtain ⟨r9, I10, h8, h⟩ := zk_bd2_e h
          refine e_callV (As := [.int (X.2 (y3 + (1 : Int32)).toNatClampNeg)]) (st := []) rfl lk_L_13 rfl (Nat.le_of_ble_eq_true rfl) rfl rfl rfl (Nat.le_of_ble_eq_true rfl) rfl (k_X7_write h8) ?_
          refine c_aload_n rfl rfl ?_
          refine c_aload_n rfl rfl ?_
          refine c_iload_n rfl rfl ?_
          refine c_iconst rfl vi_1 ?_
          refine c_iadd rfl ?_
          obtain ⟨q11, h⟩ := zk_ck_e h
          refine c_ialdX rfl q11 ?_
          obtain ⟨r13, I14, h12, h⟩ := zk_bd2_e h
          refine e_callV (As := [.int (X.2 (y3 + (1 : Int32)).toNatClampNeg)]) (st := [.int r9]) rfl lk_L_17 rfl (Nat.le_of_ble_eq_true rfl) rfl rfl rfl (Nat.le_of_ble_eq_true rfl) rfl (k_X8_write h12) ?_
          refine c_icmp_eq rfl (fun q15 => ?_) (fun q15 => ?_)
          · rw [if_pos q15] at h
            exact jK6 _ _ h
          · rw [if_neg q15] at h
            refine c_iconst rfl vi_0 ?_
            obtain ⟨rfl, rfl, rfl⟩ := zk_r3 h
            exact c_ireturn rfl rfl zk_nb0
        · rw [if_neg q3_0] at h
          by_cases q3_1 : ((X.2 y3.toNatClampNeg) &&& (31 : Int32)) = (1 : Int32)
          · rw [if_pos q3_1] at h
            refine c_topi q3_1.symm ?_
            refine c_swIn (off := 155) (tgt := 187) rfl (by decide) (by decide) (by decide +kernel) (by decide) ?_
            refine c_aload_n rfl rfl ?_
            obtain ⟨r17, I18, h16, h⟩ := zk_bd2_e h
            refine e_callV (As := []) (st := []) rfl lk_L_18 rfl (Nat.le_of_ble_eq_true rfl) rfl rfl rfl (Nat.le_of_ble_eq_true rfl) rfl (k_X7_erase h16) ?_
            refine c_aload_n rfl rfl ?_
            obtain ⟨r20, I21, h19, h⟩ := zk_bd2_e h
            refine e_callV (As := []) (st := [.int r17]) rfl lk_L_22 rfl (Nat.le_of_ble_eq_true rfl) rfl rfl rfl (Nat.le_of_ble_eq_true rfl) rfl (k_X8_erase h19) ?_
            refine c_icmp_eq rfl (fun q22 => ?_) (fun q22 => ?_)
            · rw [if_pos q22] at h
              exact jK6 _ _ h
            · rw [if_neg q22] at h
              refine c_iconst rfl vi_0 ?_
              obtain ⟨rfl, rfl, rfl⟩ := zk_r3 h
              exact c_ireturn rfl rfl zk_nb0
          · rw [if_neg q3_1] at h
            by_cases q3_2 : ((X.2 y3.toNatClampNeg) &&& (31 : Int32)) = (2 : Int32)
            · rw [if_pos q3_2] at h
              refine c_topi q3_2.symm ?_
              refine c_swIn (off := 168) (tgt := 200) rfl (by decide) (by decide) (by decide +kernel) (by decide) ?_
              refine c_aload_n rfl rfl ?_
              obtain ⟨r24, I25, h23, h⟩ := zk_bd2_e h
              refine e_callV (As := []) (st := []) rfl lk_L_23 rfl (Nat.le_of_ble_eq_true rfl) rfl rfl rfl (Nat.le_of_ble_eq_true rfl) rfl (k_X7_fault h23) ?_
              refine c_aload_n rfl rfl ?_
              obtain ⟨r27, I28, h26, h⟩ := zk_bd2_e h
              refine e_callV (As := []) (st := [.int r24]) rfl lk_L_26 rfl (Nat.le_of_ble_eq_true rfl) rfl rfl rfl (Nat.le_of_ble_eq_true rfl) rfl (k_X8_fault h26) ?_
              refine c_icmp_eq rfl (fun q29 => ?_) (fun q29 => ?_)
              · rw [if_pos q29] at h
                exact jK6 _ _ h
              · rw [if_neg q29] at h
                refine c_iconst rfl vi_0 ?_
                obtain ⟨rfl, rfl, rfl⟩ := zk_r3 h
                exact c_ireturn rfl rfl zk_nb0
            · rw [if_neg q3_2] at h
              by_cases q3_3 : ((X.2 y3.toNatClampNeg) &&& (31 : Int32)) = (3 : Int32)
              · rw [if_pos q3_3] at h
                refine c_topi q3_3.symm ?_
                refine c_swIn (off := 181) (tgt := 213) rfl (by decide) (by decide) (by decide +kernel) (by decide) ?_
                refine c_aload_n rfl rfl ?_
                obtain ⟨r31, I32, h30, h⟩ := zk_bd2_e h
                refine e_callV (As := []) (st := []) rfl lk_L_27 rfl (Nat.le_of_ble_eq_true rfl) rfl rfl rfl (Nat.le_of_ble_eq_true rfl) rfl (k_X7_library h30) ?_
                refine c_aload_n rfl rfl ?_
                obtain ⟨r34, I35, h33, h⟩ := zk_bd2_e h
                refine e_callV (As := []) (st := [.int r31]) rfl lk_L_30 rfl (Nat.le_of_ble_eq_true rfl) rfl rfl rfl (Nat.le_of_ble_eq_true rfl) rfl (k_X8_library h33) ?_
                refine c_icmp_eq rfl (fun q36 => ?_) (fun q36 => ?_)
                · rw [if_pos q36] at h
                  exact jK6 _ _ h
                · rw [if_neg q36] at h
                  refine c_iconst rfl vi_0 ?_
                  obtain ⟨rfl, rfl, rfl⟩ := zk_r3 h
                  exact c_ireturn rfl rfl zk_nb0
              · rw [if_neg q3_3] at h
                by_cases q3_4 : ((X.2 y3.toNatClampNeg) &&& (31 : Int32)) = (4 : Int32)
                · rw [if_pos q3_4] at h
                  refine c_topi q3_4.symm ?_
                  refine c_swIn (off := 194) (tgt := 226) rfl (by decide) (by decide) (by decide +kernel) (by decide) ?_
                  refine c_aload_n rfl rfl ?_
                  refine c_aload_n rfl rfl ?_
                  refine c_iload_n rfl rfl ?_
                  refine c_iconst rfl vi_1 ?_
                  refine c_iadd rfl ?_
                  obtain ⟨q37, h⟩ := zk_ck_e h
                  refine c_ialdX rfl q37 ?_
                  refine c_aload_n rfl rfl ?_
                  refine c_iload_n rfl rfl ?_
                  refine c_iconst rfl vi_2 ?_
                  refine c_iadd rfl ?_
                  obtain ⟨q38, h⟩ := zk_ck_e h
                  refine c_ialdX rfl q38 ?_
                  obtain ⟨r40, h39, h⟩ := zk_bd1_e h
                  refine e_callV (As := [.int (X.2 (y3 + (1 : Int32)).toNatClampNeg), .int (X.2 (y3 + (2 : Int32)).toNatClampNeg)]) (st := []) rfl lk_L_31 rfl (Nat.le_of_ble_eq_true rfl) rfl rfl rfl (Nat.le_of_ble_eq_true rfl) rfl (k_X7_reader h39) ?_
                  refine c_aload_n rfl rfl ?_
                  refine c_aload_n rfl rfl ?_
                  refine c_iload_n rfl rfl ?_
                  refine c_iconst rfl vi_1 ?_
                  refine c_iadd rfl ?_
                  obtain ⟨q41, h⟩ := zk_ck_e h
                  refine c_ialdX rfl q41 ?_
                  refine c_aload_n rfl rfl ?_
                  refine c_iload_n rfl rfl ?_
                  refine c_iconst rfl vi_2 ?_
                  refine c_iadd rfl ?_
                  obtain ⟨q42, h⟩ := zk_ck_e h
                  refine c_ialdX rfl q42 ?_
                  obtain ⟨r44, h43, h⟩ := zk_bd1_e h
                  refine e_callV (As := [.int (X.2 (y3 + (1 : Int32)).toNatClampNeg), .int (X.2 (y3 + (2 : Int32)).toNatClampNeg)]) (st := [.int r40]) rfl lk_L_35 rfl (Nat.le_of_ble_eq_true rfl) rfl rfl rfl (Nat.le_of_ble_eq_true rfl) rfl (k_X8_reader h43) ?_
                  refine c_icmp_eq rfl (fun q45 => ?_) (fun q45 => ?_)
                  · rw [if_pos q45] at h
                    exact jK6 _ _ h
                  · rw [if_neg q45] at h
                    refine c_iconst rfl vi_0 ?_
                    obtain ⟨rfl, rfl, rfl⟩ := zk_r3 h
                    exact c_ireturn rfl rfl zk_nb0
                · rw [if_neg q3_4] at h
                  by_cases q3_5 : ((X.2 y3.toNatClampNeg) &&& (31 : Int32)) = (5 : Int32)
                  · rw [if_pos q3_5] at h
                    refine c_topi q3_5.symm ?_
                    refine c_swIn (off := 227) (tgt := 259) rfl (by decide) (by decide) (by decide +kernel) (by decide) ?_
                    refine c_aload_n rfl rfl ?_
                    refine c_aload_n rfl rfl ?_
                    refine c_iload_n rfl rfl ?_
                    refine c_iconst rfl vi_1 ?_
                    refine c_iadd rfl ?_
                    obtain ⟨q46, h⟩ := zk_ck_e h
                    refine c_ialdX rfl q46 ?_
                    refine c_aload_n rfl rfl ?_
                    refine c_iload_n rfl rfl ?_
                    refine c_iconst rfl vi_2 ?_
                    refine c_iadd rfl ?_
                    obtain ⟨q47, h⟩ := zk_ck_e h
                    refine c_ialdX rfl q47 ?_
                    obtain ⟨r49, h48, h⟩ := zk_bd1_e h
                    refine e_callV (As := [.int (X.2 (y3 + (1 : Int32)).toNatClampNeg), .int (X.2 (y3 + (2 : Int32)).toNatClampNeg)]) (st := []) rfl lk_L_36 rfl (Nat.le_of_ble_eq_true rfl) rfl rfl rfl (Nat.le_of_ble_eq_true rfl) rfl (k_X7_book h48) ?_
                    refine c_aload_n rfl rfl ?_
                    refine c_aload_n rfl rfl ?_
                    refine c_iload_n rfl rfl ?_
                    refine c_iconst rfl vi_1 ?_
                    refine c_iadd rfl ?_
                    obtain ⟨q50, h⟩ := zk_ck_e h
                    refine c_ialdX rfl q50 ?_
                    refine c_aload_n rfl rfl ?_
                    refine c_iload_n rfl rfl ?_
                    refine c_iconst rfl vi_2 ?_
                    refine c_iadd rfl ?_
                    obtain ⟨q51, h⟩ := zk_ck_e h
                    refine c_ialdX rfl q51 ?_
                    obtain ⟨r53, h52, h⟩ := zk_bd1_e h
                    refine e_callV (As := [.int (X.2 (y3 + (1 : Int32)).toNatClampNeg), .int (X.2 (y3 + (2 : Int32)).toNatClampNeg)]) (st := [.int r49]) rfl lk_L_39 rfl (Nat.le_of_ble_eq_true rfl) rfl rfl rfl (Nat.le_of_ble_eq_true rfl) rfl (k_X8_book h52) ?_
                    refine c_icmp_eq rfl (fun q54 => ?_) (fun q54 => ?_)
                    · rw [if_pos q54] at h
                      exact jK6 _ _ h
                    · rw [if_neg q54] at h
                      refine c_iconst rfl vi_0 ?_
                      obtain ⟨rfl, rfl, rfl⟩ := zk_r3 h
                      exact c_ireturn rfl rfl zk_nb0
                  · rw [if_neg q3_5] at h
                    by_cases q3_6 : ((X.2 y3.toNatClampNeg) &&& (31 : Int32)) = (6 : Int32)
                    · rw [if_pos q3_6] at h
                      refine c_topi q3_6.symm ?_
                      refine c_swIn (off := 260) (tgt := 292) rfl (by decide) (by decide) (by decide +kernel) (by decide) ?_
                      refine c_aload_n rfl rfl ?_
                      refine c_aload_n rfl rfl ?_
                      refine c_iload_n rfl rfl ?_
                      refine c_iconst rfl vi_1 ?_
                      refine c_iadd rfl ?_
                      obtain ⟨q55, h⟩ := zk_ck_e h
                      refine c_ialdX rfl q55 ?_
                      refine c_aload_n rfl rfl ?_
                      refine c_iload_n rfl rfl ?_
                      refine c_iconst rfl vi_2 ?_
                      refine c_iadd rfl ?_
                      obtain ⟨q56, h⟩ := zk_ck_e h
                      refine c_ialdX rfl q56 ?_
                      obtain ⟨r58, h57, h⟩ := zk_bd1_e h
                      refine e_callV (As := [.int (X.2 (y3 + (1 : Int32)).toNatClampNeg), .int (X.2 (y3 + (2 : Int32)).toNatClampNeg)]) (st := []) rfl lk_L_40 rfl (Nat.le_of_ble_eq_true rfl) rfl rfl rfl (Nat.le_of_ble_eq_true rfl) rfl (k_X7_as h57) ?_
                      refine c_aload_n rfl rfl ?_
                      refine c_aload_n rfl rfl ?_
                      refine c_iload_n rfl rfl ?_
                      refine c_iconst rfl vi_1 ?_
                      refine c_iadd rfl ?_
                      obtain ⟨q59, h⟩ := zk_ck_e h
                      refine c_ialdX rfl q59 ?_
                      refine c_aload_n rfl rfl ?_
                      refine c_iload_n rfl rfl ?_
                      refine c_iconst rfl vi_2 ?_
                      refine c_iadd rfl ?_
                      obtain ⟨q60, h⟩ := zk_ck_e h
                      refine c_ialdX rfl q60 ?_
                      obtain ⟨r62, h61, h⟩ := zk_bd1_e h
                      refine e_callV (As := [.int (X.2 (y3 + (1 : Int32)).toNatClampNeg), .int (X.2 (y3 + (2 : Int32)).toNatClampNeg)]) (st := [.int r58]) rfl lk_L_43 rfl (Nat.le_of_ble_eq_true rfl) rfl rfl rfl (Nat.le_of_ble_eq_true rfl) rfl (k_X8_as h61) ?_
                      refine c_icmp_eq rfl (fun q63 => ?_) (fun q63 => ?_)
                      · rw [if_pos q63] at h
                        exact jK6 _ _ h
                      · rw [if_neg q63] at h
                        refine c_iconst rfl vi_0 ?_
                        obtain ⟨rfl, rfl, rfl⟩ := zk_r3 h
                        exact c_ireturn rfl rfl zk_nb0
                    · rw [if_neg q3_6] at h
                      by_cases q3_7 : ((X.2 y3.toNatClampNeg) &&& (31 : Int32)) = (7 : Int32)
                      · rw [if_pos q3_7] at h
                        refine c_topi q3_7.symm ?_
                        refine c_swIn (off := 293) (tgt := 325) rfl (by decide) (by decide) (by decide +kernel) (by decide) ?_
                        refine c_aload_n rfl rfl ?_
                        refine c_aload_n rfl rfl ?_
                        refine c_iload_n rfl rfl ?_
                        refine c_iconst rfl vi_1 ?_
                        refine c_iadd rfl ?_
                        obtain ⟨q64, h⟩ := zk_ck_e h
                        refine c_ialdX rfl q64 ?_
                        refine c_aload_n rfl rfl ?_
                        refine c_iload_n rfl rfl ?_
                        refine c_iconst rfl vi_2 ?_
                        refine c_iadd rfl ?_
                        obtain ⟨q65, h⟩ := zk_ck_e h
                        refine c_ialdX rfl q65 ?_
                        obtain ⟨r67, h66, h⟩ := zk_bd1_e h
                        refine e_callV (As := [.int (X.2 (y3 + (1 : Int32)).toNatClampNeg), .int (X.2 (y3 + (2 : Int32)).toNatClampNeg)]) (st := []) rfl lk_L_44 rfl (Nat.le_of_ble_eq_true rfl) rfl rfl rfl (Nat.le_of_ble_eq_true rfl) rfl (k_X7_may h66) ?_
                        refine c_aload_n rfl rfl ?_
                        refine c_aload_n rfl rfl ?_
                        refine c_iload_n rfl rfl ?_
                        refine c_iconst rfl vi_1 ?_
                        refine c_iadd rfl ?_
                        obtain ⟨q68, h⟩ := zk_ck_e h
                        refine c_ialdX rfl q68 ?_
                        refine c_aload_n rfl rfl ?_
                        refine c_iload_n rfl rfl ?_
                        refine c_iconst rfl vi_2 ?_
                        refine c_iadd rfl ?_
                        obtain ⟨q69, h⟩ := zk_ck_e h
                        refine c_ialdX rfl q69 ?_
                        obtain ⟨r71, h70, h⟩ := zk_bd1_e h
                        refine e_callV (As := [.int (X.2 (y3 + (1 : Int32)).toNatClampNeg), .int (X.2 (y3 + (2 : Int32)).toNatClampNeg)]) (st := [.int r67]) rfl lk_L_47 rfl (Nat.le_of_ble_eq_true rfl) rfl rfl rfl (Nat.le_of_ble_eq_true rfl) rfl (k_X8_may h70) ?_
                        refine c_icmp_eq rfl (fun q72 => ?_) (fun q72 => ?_)
                        · rw [if_pos q72] at h
                          exact jK6 _ _ h
                        · rw [if_neg q72] at h
                          refine c_iconst rfl vi_0 ?_
                          obtain ⟨rfl, rfl, rfl⟩ := zk_r3 h
                          exact c_ireturn rfl rfl zk_nb0
                      · rw [if_neg q3_7] at h
                        by_cases q3_8 : ((X.2 y3.toNatClampNeg) &&& (31 : Int32)) = (8 : Int32)
                        · rw [if_pos q3_8] at h
                          refine c_topi q3_8.symm ?_
                          refine c_swIn (off := 326) (tgt := 358) rfl (by decide) (by decide) (by decide +kernel) (by decide) ?_
                          refine c_aload_n rfl rfl ?_
                          refine c_aload_n rfl rfl ?_
                          refine c_iload_n rfl rfl ?_
                          refine c_iconst rfl vi_1 ?_
                          refine c_iadd rfl ?_
                          obtain ⟨q73, h⟩ := zk_ck_e h
                          refine c_ialdX rfl q73 ?_
                          refine c_aload_n rfl rfl ?_
                          refine c_iload_n rfl rfl ?_
                          refine c_iconst rfl vi_2 ?_
                          refine c_iadd rfl ?_
                          obtain ⟨q74, h⟩ := zk_ck_e h
                          refine c_ialdX rfl q74 ?_
                          obtain ⟨r76, I77, h75, h⟩ := zk_bd2_e h
                          refine e_callV (As := [.int (X.2 (y3 + (1 : Int32)).toNatClampNeg), .int (X.2 (y3 + (2 : Int32)).toNatClampNeg)]) (st := []) rfl lk_L_48 rfl (Nat.le_of_ble_eq_true rfl) rfl rfl rfl (Nat.le_of_ble_eq_true rfl) rfl (k_X7_name h75) ?_
                          refine c_aload_n rfl rfl ?_
                          refine c_aload_n rfl rfl ?_
                          refine c_iload_n rfl rfl ?_
                          refine c_iconst rfl vi_1 ?_
                          refine c_iadd rfl ?_
                          obtain ⟨q78, h⟩ := zk_ck_e h
                          refine c_ialdX rfl q78 ?_
                          refine c_aload_n rfl rfl ?_
                          refine c_iload_n rfl rfl ?_
                          refine c_iconst rfl vi_2 ?_
                          refine c_iadd rfl ?_
                          obtain ⟨q79, h⟩ := zk_ck_e h
                          refine c_ialdX rfl q79 ?_
                          obtain ⟨r81, I82, h80, h⟩ := zk_bd2_e h
                          refine e_callV (As := [.int (X.2 (y3 + (1 : Int32)).toNatClampNeg), .int (X.2 (y3 + (2 : Int32)).toNatClampNeg)]) (st := [.int r76]) rfl lk_L_51 rfl (Nat.le_of_ble_eq_true rfl) rfl rfl rfl (Nat.le_of_ble_eq_true rfl) rfl (k_X8_name h80) ?_
                          refine c_icmp_eq rfl (fun q83 => ?_) (fun q83 => ?_)
                          · rw [if_pos q83] at h
                            exact jK6 _ _ h
                          · rw [if_neg q83] at h
                            refine c_iconst rfl vi_0 ?_
                            obtain ⟨rfl, rfl, rfl⟩ := zk_r3 h
                            exact c_ireturn rfl rfl zk_nb0
                        · rw [if_neg q3_8] at h
                          by_cases q3_9 : ((X.2 y3.toNatClampNeg) &&& (31 : Int32)) = (9 : Int32)
                          · rw [if_pos q3_9] at h
                            refine c_topi q3_9.symm ?_
                            refine c_swIn (off := 359) (tgt := 391) rfl (by decide) (by decide) (by decide +kernel) (by decide) ?_
                            refine c_aload_n rfl rfl ?_
                            obtain ⟨r85, I86, h84, h⟩ := zk_bd2_e h
                            refine e_callV (As := []) (st := []) rfl lk_L_52 rfl (Nat.le_of_ble_eq_true rfl) rfl rfl rfl (Nat.le_of_ble_eq_true rfl) rfl (k_X7_day h84) ?_
                            refine c_aload_n rfl rfl ?_
                            obtain ⟨r88, I89, h87, h⟩ := zk_bd2_e h
                            refine e_callV (As := []) (st := [.int r85]) rfl lk_L_55 rfl (Nat.le_of_ble_eq_true rfl) rfl rfl rfl (Nat.le_of_ble_eq_true rfl) rfl (k_X8_day h87) ?_
                            refine c_icmp_eq rfl (fun q90 => ?_) (fun q90 => ?_)
                            · rw [if_pos q90] at h
                              exact jK6 _ _ h
                            · rw [if_neg q90] at h
                              refine c_iconst rfl vi_0 ?_
                              obtain ⟨rfl, rfl, rfl⟩ := zk_r3 h
                              exact c_ireturn rfl rfl zk_nb0
                          · rw [if_neg q3_9] at h
                            by_cases q3_10 : ((X.2 y3.toNatClampNeg) &&& (31 : Int32)) = (10 : Int32)
                            · rw [if_pos q3_10] at h
                              refine c_topi q3_10.symm ?_
                              refine c_swIn (off := 372) (tgt := 404) rfl (by decide) (by decide) (by decide +kernel) (by decide) ?_
                              refine c_aload_n rfl rfl ?_
                              obtain ⟨r92, I93, h91, h⟩ := zk_bd2_e h
                              refine e_callV (As := []) (st := []) rfl lk_L_56 rfl (Nat.le_of_ble_eq_true rfl) rfl rfl rfl (Nat.le_of_ble_eq_true rfl) rfl (k_X7_undo h91) ?_
                              refine c_aload_n rfl rfl ?_
                              obtain ⟨r95, I96, h94, h⟩ := zk_bd2_e h
                              refine e_callV (As := []) (st := [.int r92]) rfl lk_L_59 rfl (Nat.le_of_ble_eq_true rfl) rfl rfl rfl (Nat.le_of_ble_eq_true rfl) rfl (k_X8_undo h94) ?_
                              refine c_icmp_eq rfl (fun q97 => ?_) (fun q97 => ?_)
                              · rw [if_pos q97] at h
                                exact jK6 _ _ h
                              · rw [if_neg q97] at h
                                refine c_iconst rfl vi_0 ?_
                                obtain ⟨rfl, rfl, rfl⟩ := zk_r3 h
                                exact c_ireturn rfl rfl zk_nb0
                            · rw [if_neg q3_10] at h
                              by_cases q3_11 : ((X.2 y3.toNatClampNeg) &&& (31 : Int32)) = (11 : Int32)
                              · rw [if_pos q3_11] at h
                                refine c_topi q3_11.symm ?_
                                refine c_swIn (off := 385) (tgt := 417) rfl (by decide) (by decide) (by decide +kernel) (by decide) ?_
                                refine c_aload_n rfl rfl ?_
                                refine c_aload_n rfl rfl ?_
                                refine c_iload_n rfl rfl ?_
                                refine c_iconst rfl vi_1 ?_
                                refine c_iadd rfl ?_
                                obtain ⟨q98, h⟩ := zk_ck_e h
                                refine c_ialdX rfl q98 ?_
                                obtain ⟨r100, I101, h99, h⟩ := zk_bd2_e h
                                refine e_callV (As := [.int (X.2 (y3 + (1 : Int32)).toNatClampNeg)]) (st := []) rfl lk_L_60 rfl (Nat.le_of_ble_eq_true rfl) rfl rfl rfl (Nat.le_of_ble_eq_true rfl) rfl (k_X7_keep h99) ?_
                                refine c_aload_n rfl rfl ?_
                                refine c_aload_n rfl rfl ?_
                                refine c_iload_n rfl rfl ?_
                                refine c_iconst rfl vi_1 ?_
                                refine c_iadd rfl ?_
                                obtain ⟨q102, h⟩ := zk_ck_e h
                                refine c_ialdX rfl q102 ?_
                                obtain ⟨r104, I105, h103, h⟩ := zk_bd2_e h
                                refine e_callV (As := [.int (X.2 (y3 + (1 : Int32)).toNatClampNeg)]) (st := [.int r100]) rfl lk_L_63 rfl (Nat.le_of_ble_eq_true rfl) rfl rfl rfl (Nat.le_of_ble_eq_true rfl) rfl (k_X8_keep h103) ?_
                                refine c_icmp_eq rfl (fun q106 => ?_) (fun q106 => ?_)
                                · rw [if_pos q106] at h
                                  exact jK6 _ _ h
                                · rw [if_neg q106] at h
                                  refine c_iconst rfl vi_0 ?_
                                  obtain ⟨rfl, rfl, rfl⟩ := zk_r3 h
                                  exact c_ireturn rfl rfl zk_nb0
                              · rw [if_neg q3_11] at h
                                by_cases q3_12 : ((X.2 y3.toNatClampNeg) &&& (31 : Int32)) = (12 : Int32)
                                · rw [if_pos q3_12] at h
                                  refine c_topi q3_12.symm ?_
                                  refine c_swIn (off := 408) (tgt := 440) rfl (by decide) (by decide) (by decide +kernel) (by decide) ?_
                                  refine c_aload_n rfl rfl ?_
                                  refine c_aload_n rfl rfl ?_
                                  refine c_iload_n rfl rfl ?_
                                  refine c_iconst rfl vi_1 ?_
                                  refine c_iadd rfl ?_
                                  obtain ⟨q107, h⟩ := zk_ck_e h
                                  refine c_ialdX rfl q107 ?_
                                  obtain ⟨r109, I110, h108, h⟩ := zk_bd2_e h
                                  refine e_callV (As := [.int (X.2 (y3 + (1 : Int32)).toNatClampNeg)]) (st := []) rfl lk_L_64 rfl (Nat.le_of_ble_eq_true rfl) rfl rfl rfl (Nat.le_of_ble_eq_true rfl) rfl (k_X7_back h108) ?_
                                  refine c_aload_n rfl rfl ?_
                                  refine c_aload_n rfl rfl ?_
                                  refine c_iload_n rfl rfl ?_
                                  refine c_iconst rfl vi_1 ?_
                                  refine c_iadd rfl ?_
                                  obtain ⟨q111, h⟩ := zk_ck_e h
                                  refine c_ialdX rfl q111 ?_
                                  obtain ⟨r113, I114, h112, h⟩ := zk_bd2_e h
                                  refine e_callV (As := [.int (X.2 (y3 + (1 : Int32)).toNatClampNeg)]) (st := [.int r109]) rfl lk_L_67 rfl (Nat.le_of_ble_eq_true rfl) rfl rfl rfl (Nat.le_of_ble_eq_true rfl) rfl (k_X8_back h112) ?_
                                  refine c_icmp_eq rfl (fun q115 => ?_) (fun q115 => ?_)
                                  · rw [if_pos q115] at h
                                    exact jK6 _ _ h
                                  · rw [if_neg q115] at h
                                    refine c_iconst rfl vi_0 ?_
                                    obtain ⟨rfl, rfl, rfl⟩ := zk_r3 h
                                    exact c_ireturn rfl rfl zk_nb0
                                · rw [if_neg q3_12] at h
                                  by_cases q3_13 : ((X.2 y3.toNatClampNeg) &&& (31 : Int32)) = (13 : Int32)
                                  · rw [if_pos q3_13] at h
                                    refine c_topi q3_13.symm ?_
                                    refine c_swIn (off := 431) (tgt := 463) rfl (by decide) (by decide) (by decide +kernel) (by decide) ?_
                                    refine c_aload_n rfl rfl ?_
                                    refine c_aload_n rfl rfl ?_
                                    refine c_iload_n rfl rfl ?_
                                    refine c_iconst rfl vi_1 ?_
                                    refine c_iadd rfl ?_
                                    obtain ⟨q116, h⟩ := zk_ck_e h
                                    refine c_ialdX rfl q116 ?_
                                    refine c_aload_n rfl rfl ?_
                                    refine c_iload_n rfl rfl ?_
                                    refine c_iconst rfl vi_2 ?_
                                    refine c_iadd rfl ?_
                                    obtain ⟨q117, h⟩ := zk_ck_e h
                                    refine c_ialdX rfl q117 ?_
                                    obtain ⟨r119, I120, J121, h118, h⟩ := zk_bd3_e h
                                    refine e_callV (As := [.int (X.2 (y3 + (1 : Int32)).toNatClampNeg), .int (X.2 (y3 + (2 : Int32)).toNatClampNeg)]) (st := []) rfl lk_L_68 rfl (Nat.le_of_ble_eq_true rfl) rfl rfl rfl (Nat.le_of_ble_eq_true rfl) rfl (k_X7_longest h118) ?_
                                    refine c_aload_n rfl rfl ?_
                                    refine c_aload_n rfl rfl ?_
                                    refine c_iload_n rfl rfl ?_
                                    refine c_iconst rfl vi_1 ?_
                                    refine c_iadd rfl ?_
                                    obtain ⟨q122, h⟩ := zk_ck_e h
                                    refine c_ialdX rfl q122 ?_
                                    refine c_aload_n rfl rfl ?_
                                    refine c_iload_n rfl rfl ?_
                                    refine c_iconst rfl vi_2 ?_
                                    refine c_iadd rfl ?_
                                    obtain ⟨q123, h⟩ := zk_ck_e h
                                    refine c_ialdX rfl q123 ?_
                                    obtain ⟨r125, I126, h124, h⟩ := zk_bd2_e h
                                    refine e_callV (As := [.int (X.2 (y3 + (1 : Int32)).toNatClampNeg), .int (X.2 (y3 + (2 : Int32)).toNatClampNeg)]) (st := [.int r119]) rfl lk_L_71 rfl (Nat.le_of_ble_eq_true rfl) rfl rfl rfl (Nat.le_of_ble_eq_true rfl) rfl (k_X8_longest h124) ?_
                                    refine c_icmp_eq rfl (fun q127 => ?_) (fun q127 => ?_)
                                    · rw [if_pos q127] at h
                                      exact jK6 _ _ h
                                    · rw [if_neg q127] at h
                                      refine c_iconst rfl vi_0 ?_
                                      obtain ⟨rfl, rfl, rfl⟩ := zk_r3 h
                                      exact c_ireturn rfl rfl zk_nb0
                                  · rw [if_neg q3_13] at h
                                    by_cases q3_14 : ((X.2 y3.toNatClampNeg) &&& (31 : Int32)) = (14 : Int32)
                                    · rw [if_pos q3_14] at h
                                      refine c_topi q3_14.symm ?_
                                      refine c_swIn (off := 464) (tgt := 496) rfl (by decide) (by decide) (by decide +kernel) (by decide) ?_
                                      refine c_aload_n rfl rfl ?_
                                      refine c_aload_n rfl rfl ?_
                                      refine c_iload_n rfl rfl ?_
                                      refine c_iconst rfl vi_1 ?_
                                      refine c_iadd rfl ?_
                                      obtain ⟨q128, h⟩ := zk_ck_e h
                                      refine c_ialdX rfl q128 ?_
                                      refine c_aload_n rfl rfl ?_
                                      refine c_iload_n rfl rfl ?_
                                      refine c_iconst rfl vi_2 ?_
                                      refine c_iadd rfl ?_
                                      obtain ⟨q129, h⟩ := zk_ck_e h
                                      refine c_ialdX rfl q129 ?_
                                      obtain ⟨r131, I132, J133, h130, h⟩ := zk_bd3_e h
                                      refine e_callV (As := [.int (X.2 (y3 + (1 : Int32)).toNatClampNeg), .int (X.2 (y3 + (2 : Int32)).toNatClampNeg)]) (st := []) rfl lk_L_72 rfl (Nat.le_of_ble_eq_true rfl) rfl rfl rfl (Nat.le_of_ble_eq_true rfl) rfl (k_X7_row h130) ?_
                                      refine c_aload_n rfl rfl ?_
                                      refine c_aload_n rfl rfl ?_
                                      refine c_iload_n rfl rfl ?_
                                      refine c_iconst rfl vi_1 ?_
                                      refine c_iadd rfl ?_
                                      obtain ⟨q134, h⟩ := zk_ck_e h
                                      refine c_ialdX rfl q134 ?_
                                      refine c_aload_n rfl rfl ?_
                                      refine c_iload_n rfl rfl ?_
                                      refine c_iconst rfl vi_2 ?_
                                      refine c_iadd rfl ?_
                                      obtain ⟨q135, h⟩ := zk_ck_e h
                                      refine c_ialdX rfl q135 ?_
                                      obtain ⟨r137, I138, h136, h⟩ := zk_bd2_e h
                                      refine e_callV (As := [.int (X.2 (y3 + (1 : Int32)).toNatClampNeg), .int (X.2 (y3 + (2 : Int32)).toNatClampNeg)]) (st := [.int r131]) rfl lk_L_75 rfl (Nat.le_of_ble_eq_true rfl) rfl rfl rfl (Nat.le_of_ble_eq_true rfl) rfl (k_X8_row h136) ?_
                                      refine c_icmp_eq rfl (fun q139 => ?_) (fun q139 => ?_)
                                      · rw [if_pos q139] at h
                                        exact jK6 _ _ h
                                      · rw [if_neg q139] at h
                                        refine c_iconst rfl vi_0 ?_
                                        obtain ⟨rfl, rfl, rfl⟩ := zk_r3 h
                                        exact c_ireturn rfl rfl zk_nb0
                                    · rw [if_neg q3_14] at h
                                      by_cases q3_15 : ((X.2 y3.toNatClampNeg) &&& (31 : Int32)) = (15 : Int32)
                                      · rw [if_pos q3_15] at h
                                        refine c_topi q3_15.symm ?_
                                        refine c_swIn (off := 497) (tgt := 529) rfl (by decide) (by decide) (by decide +kernel) (by decide) ?_
                                        refine c_aload_n rfl rfl ?_
                                        refine c_aload_n rfl rfl ?_
                                        refine c_iload_n rfl rfl ?_
                                        refine c_iconst rfl vi_1 ?_
                                        refine c_iadd rfl ?_
                                        obtain ⟨q140, h⟩ := zk_ck_e h
                                        refine c_ialdX rfl q140 ?_
                                        obtain ⟨r142, I143, J144, h141, h⟩ := zk_bd3_e h
                                        refine e_callV (As := [.int (X.2 (y3 + (1 : Int32)).toNatClampNeg)]) (st := []) rfl lk_L_76 rfl (Nat.le_of_ble_eq_true rfl) rfl rfl rfl (Nat.le_of_ble_eq_true rfl) rfl (k_X7_shortest h141) ?_
                                        refine c_aload_n rfl rfl ?_
                                        refine c_aload_n rfl rfl ?_
                                        refine c_iload_n rfl rfl ?_
                                        refine c_iconst rfl vi_1 ?_
                                        refine c_iadd rfl ?_
                                        obtain ⟨q145, h⟩ := zk_ck_e h
                                        refine c_ialdX rfl q145 ?_
                                        obtain ⟨r147, I148, h146, h⟩ := zk_bd2_e h
                                        refine e_callV (As := [.int (X.2 (y3 + (1 : Int32)).toNatClampNeg)]) (st := [.int r142]) rfl lk_L_79 rfl (Nat.le_of_ble_eq_true rfl) rfl rfl rfl (Nat.le_of_ble_eq_true rfl) rfl (k_X8_shortest h146) ?_
                                        refine c_icmp_eq rfl (fun q149 => ?_) (fun q149 => ?_)
                                        · rw [if_pos q149] at h
                                          exact jK6 _ _ h
                                        · rw [if_neg q149] at h
                                          refine c_iconst rfl vi_0 ?_
                                          obtain ⟨rfl, rfl, rfl⟩ := zk_r3 h
                                          exact c_ireturn rfl rfl zk_nb0
                                      · rw [if_neg q3_15] at h
                                        by_cases q3_16 : ((X.2 y3.toNatClampNeg) &&& (31 : Int32)) = (16 : Int32)
                                        · rw [if_pos q3_16] at h
                                          refine c_topi q3_16.symm ?_
                                          refine c_swIn (off := 520) (tgt := 552) rfl (by decide) (by decide) (by decide +kernel) (by decide) ?_
                                          refine c_aload_n rfl rfl ?_
                                          refine c_aload_n rfl rfl ?_
                                          refine c_iload_n rfl rfl ?_
                                          refine c_iconst rfl vi_1 ?_
                                          refine c_iadd rfl ?_
                                          obtain ⟨q150, h⟩ := zk_ck_e h
                                          refine c_ialdX rfl q150 ?_
                                          obtain ⟨r152, I153, J154, h151, h⟩ := zk_bd3_e h
                                          refine e_callV (As := [.int (X.2 (y3 + (1 : Int32)).toNatClampNeg)]) (st := []) rfl lk_L_80 rfl (Nat.le_of_ble_eq_true rfl) rfl rfl rfl (Nat.le_of_ble_eq_true rfl) rfl (k_X7_can h151) ?_
                                          refine c_aload_n rfl rfl ?_
                                          refine c_aload_n rfl rfl ?_
                                          refine c_iload_n rfl rfl ?_
                                          refine c_iconst rfl vi_1 ?_
                                          refine c_iadd rfl ?_
                                          obtain ⟨q155, h⟩ := zk_ck_e h
                                          refine c_ialdX rfl q155 ?_
                                          obtain ⟨r157, I158, h156, h⟩ := zk_bd2_e h
                                          refine e_callV (As := [.int (X.2 (y3 + (1 : Int32)).toNatClampNeg)]) (st := [.int r152]) rfl lk_L_83 rfl (Nat.le_of_ble_eq_true rfl) rfl rfl rfl (Nat.le_of_ble_eq_true rfl) rfl (k_X8_can h156) ?_
                                          refine c_icmp_eq rfl (fun q159 => ?_) (fun q159 => ?_)
                                          · rw [if_pos q159] at h
                                            exact jK6 _ _ h
                                          · rw [if_neg q159] at h
                                            refine c_iconst rfl vi_0 ?_
                                            obtain ⟨rfl, rfl, rfl⟩ := zk_r3 h
                                            exact c_ireturn rfl rfl zk_nb0
                                        · rw [if_neg q3_16] at h
                                          by_cases q3_17 : ((X.2 y3.toNatClampNeg) &&& (31 : Int32)) = (17 : Int32)
                                          · rw [if_pos q3_17] at h
                                            refine c_topi q3_17.symm ?_
                                            refine c_swIn (off := 543) (tgt := 575) rfl (by decide) (by decide) (by decide +kernel) (by decide) ?_
                                            refine c_aload_n rfl rfl ?_
                                            refine c_aload_n rfl rfl ?_
                                            refine c_iload_n rfl rfl ?_
                                            refine c_iconst rfl vi_1 ?_
                                            refine c_iadd rfl ?_
                                            obtain ⟨q160, h⟩ := zk_ck_e h
                                            refine c_ialdX rfl q160 ?_
                                            obtain ⟨r162, I163, J164, h161, h⟩ := zk_bd3_e h
                                            refine e_callV (As := [.int (X.2 (y3 + (1 : Int32)).toNatClampNeg)]) (st := []) rfl lk_L_84 rfl (Nat.le_of_ble_eq_true rfl) rfl rfl rfl (Nat.le_of_ble_eq_true rfl) rfl (k_X7_all h161) ?_
                                            refine c_aload_n rfl rfl ?_
                                            refine c_aload_n rfl rfl ?_
                                            refine c_iload_n rfl rfl ?_
                                            refine c_iconst rfl vi_1 ?_
                                            refine c_iadd rfl ?_
                                            obtain ⟨q165, h⟩ := zk_ck_e h
                                            refine c_ialdX rfl q165 ?_
                                            obtain ⟨r167, I168, h166, h⟩ := zk_bd2_e h
                                            refine e_callV (As := [.int (X.2 (y3 + (1 : Int32)).toNatClampNeg)]) (st := [.int r162]) rfl lk_L_87 rfl (Nat.le_of_ble_eq_true rfl) rfl rfl rfl (Nat.le_of_ble_eq_true rfl) rfl (k_X8_all h166) ?_
                                            refine c_icmp_eq rfl (fun q169 => ?_) (fun q169 => ?_)
                                            · rw [if_pos q169] at h
                                              exact jK6 _ _ h
                                            · rw [if_neg q169] at h
                                              refine c_iconst rfl vi_0 ?_
                                              obtain ⟨rfl, rfl, rfl⟩ := zk_r3 h
                                              exact c_ireturn rfl rfl zk_nb0
                                          · rw [if_neg q3_17] at h
                                            by_cases q3_18 : ((X.2 y3.toNatClampNeg) &&& (31 : Int32)) = (18 : Int32)
                                            · rw [if_pos q3_18] at h
                                              refine c_topi q3_18.symm ?_
                                              refine c_swIn (off := 566) (tgt := 598) rfl (by decide) (by decide) (by decide +kernel) (by decide) ?_
                                              refine c_aload_n rfl rfl ?_
                                              refine c_aload_n rfl rfl ?_
                                              refine c_iload_n rfl rfl ?_
                                              refine c_iconst rfl vi_1 ?_
                                              refine c_iadd rfl ?_
                                              obtain ⟨q170, h⟩ := zk_ck_e h
                                              refine c_ialdX rfl q170 ?_
                                              obtain ⟨r172, I173, J174, h171, h⟩ := zk_bd3_e h
                                              refine e_callV (As := [.int (X.2 (y3 + (1 : Int32)).toNatClampNeg)]) (st := []) rfl lk_L_88 rfl (Nat.le_of_ble_eq_true rfl) rfl rfl rfl (Nat.le_of_ble_eq_true rfl) rfl (k_X7_fame h171) ?_
                                              refine c_aload_n rfl rfl ?_
                                              refine c_aload_n rfl rfl ?_
                                              refine c_iload_n rfl rfl ?_
                                              refine c_iconst rfl vi_1 ?_
                                              refine c_iadd rfl ?_
                                              obtain ⟨q175, h⟩ := zk_ck_e h
                                              refine c_ialdX rfl q175 ?_
                                              obtain ⟨r177, I178, h176, h⟩ := zk_bd2_e h
                                              refine e_callV (As := [.int (X.2 (y3 + (1 : Int32)).toNatClampNeg)]) (st := [.int r172]) rfl lk_L_91 rfl (Nat.le_of_ble_eq_true rfl) rfl rfl rfl (Nat.le_of_ble_eq_true rfl) rfl (k_X8_fame h176) ?_
                                              refine c_icmp_eq rfl (fun q179 => ?_) (fun q179 => ?_)
                                              · rw [if_pos q179] at h
                                                exact jK6 _ _ h
                                              · rw [if_neg q179] at h
                                                refine c_iconst rfl vi_0 ?_
                                                obtain ⟨rfl, rfl, rfl⟩ := zk_r3 h
                                                exact c_ireturn rfl rfl zk_nb0
                                            · rw [if_neg q3_18] at h
                                              by_cases q3_19 : ((X.2 y3.toNatClampNeg) &&& (31 : Int32)) = (19 : Int32)
                                              · rw [if_pos q3_19] at h
                                                refine c_topi q3_19.symm ?_
                                                refine c_swIn (off := 589) (tgt := 621) rfl (by decide) (by decide) (by decide +kernel) (by decide) ?_
                                                refine c_aload_n rfl rfl ?_
                                                refine c_aload_n rfl rfl ?_
                                                refine c_iload_n rfl rfl ?_
                                                refine c_iconst rfl vi_1 ?_
                                                refine c_iadd rfl ?_
                                                obtain ⟨q180, h⟩ := zk_ck_e h
                                                refine c_ialdX rfl q180 ?_
                                                refine c_aload_n rfl rfl ?_
                                                refine c_iload_n rfl rfl ?_
                                                refine c_iconst rfl vi_2 ?_
                                                refine c_iadd rfl ?_
                                                obtain ⟨q181, h⟩ := zk_ck_e h
                                                refine c_ialdX rfl q181 ?_
                                                obtain ⟨r183, I184, J185, h182, h⟩ := zk_bd3_e h
                                                refine e_callV (As := [.int (X.2 (y3 + (1 : Int32)).toNatClampNeg), .int (X.2 (y3 + (2 : Int32)).toNatClampNeg)]) (st := []) rfl lk_L_92 rfl (Nat.le_of_ble_eq_true rfl) rfl rfl rfl (Nat.le_of_ble_eq_true rfl) rfl (k_X7_mean h182) ?_
                                                refine c_aload_n rfl rfl ?_
                                                refine c_aload_n rfl rfl ?_
                                                refine c_iload_n rfl rfl ?_
                                                refine c_iconst rfl vi_1 ?_
                                                refine c_iadd rfl ?_
                                                obtain ⟨q186, h⟩ := zk_ck_e h
                                                refine c_ialdX rfl q186 ?_
                                                refine c_aload_n rfl rfl ?_
                                                refine c_iload_n rfl rfl ?_
                                                refine c_iconst rfl vi_2 ?_
                                                refine c_iadd rfl ?_
                                                obtain ⟨q187, h⟩ := zk_ck_e h
                                                refine c_ialdX rfl q187 ?_
                                                obtain ⟨r189, J190, h188, h⟩ := zk_bd2_e h
                                                refine e_callV (As := [.int (X.2 (y3 + (1 : Int32)).toNatClampNeg), .int (X.2 (y3 + (2 : Int32)).toNatClampNeg)]) (st := [.long r183]) rfl lk_L_96 rfl (Nat.le_of_ble_eq_true rfl) rfl rfl rfl (Nat.le_of_ble_eq_true rfl) rfl (k_X8_mean h188) ?_
                                                refine c_lcmp rfl ?_
                                                refine c_if_eq rfl (fun q191 => ?_) (fun q191 => ?_)
                                                · rw [if_pos q191] at h
                                                  exact jK6 _ _ h
                                                · rw [if_neg q191] at h
                                                  refine c_iconst rfl vi_0 ?_
                                                  obtain ⟨rfl, rfl, rfl⟩ := zk_r3 h
                                                  exact c_ireturn rfl rfl zk_nb0
                                              · rw [if_neg q3_19] at h
                                                by_cases q3_20 : ((X.2 y3.toNatClampNeg) &&& (31 : Int32)) = (20 : Int32)
                                                · rw [if_pos q3_20] at h
                                                  refine c_topi q3_20.symm ?_
                                                  refine c_swIn (off := 623) (tgt := 655) rfl (by decide) (by decide) (by decide +kernel) (by decide) ?_
                                                  refine c_aload_n rfl rfl ?_
                                                  refine c_aload_n rfl rfl ?_
                                                  refine c_iload_n rfl rfl ?_
                                                  refine c_iconst rfl vi_1 ?_
                                                  refine c_iadd rfl ?_
                                                  obtain ⟨q192, h⟩ := zk_ck_e h
                                                  refine c_ialdX rfl q192 ?_
                                                  refine c_aload_n rfl rfl ?_
                                                  refine c_iload_n rfl rfl ?_
                                                  refine c_iconst rfl vi_2 ?_
                                                  refine c_iadd rfl ?_
                                                  obtain ⟨q193, h⟩ := zk_ck_e h
                                                  refine c_ialdX rfl q193 ?_
                                                  refine c_aload_n rfl rfl ?_
                                                  refine c_iload_n rfl rfl ?_
                                                  refine c_iconst rfl vi_3 ?_
                                                  refine c_iadd rfl ?_
                                                  obtain ⟨q194, h⟩ := zk_ck_e h
                                                  refine c_ialdX rfl q194 ?_
                                                  obtain ⟨r196, I197, J198, h195, h⟩ := zk_bd3_e h
                                                  refine e_callV (As := [.int (X.2 (y3 + (1 : Int32)).toNatClampNeg), .int (X.2 (y3 + (2 : Int32)).toNatClampNeg), .int (X.2 (y3 + (3 : Int32)).toNatClampNeg)]) (st := []) rfl lk_L_97 rfl (Nat.le_of_ble_eq_true rfl) rfl rfl rfl (Nat.le_of_ble_eq_true rfl) rfl (k_X7_odds h195) ?_
                                                  refine c_aload_n rfl rfl ?_
                                                  refine c_aload_n rfl rfl ?_
                                                  refine c_iload_n rfl rfl ?_
                                                  refine c_iconst rfl vi_1 ?_
                                                  refine c_iadd rfl ?_
                                                  obtain ⟨q199, h⟩ := zk_ck_e h
                                                  refine c_ialdX rfl q199 ?_
                                                  refine c_aload_n rfl rfl ?_
                                                  refine c_iload_n rfl rfl ?_
                                                  refine c_iconst rfl vi_2 ?_
                                                  refine c_iadd rfl ?_
                                                  obtain ⟨q200, h⟩ := zk_ck_e h
                                                  refine c_ialdX rfl q200 ?_
                                                  refine c_aload_n rfl rfl ?_
                                                  refine c_iload_n rfl rfl ?_
                                                  refine c_iconst rfl vi_3 ?_
                                                  refine c_iadd rfl ?_
                                                  obtain ⟨q201, h⟩ := zk_ck_e h
                                                  refine c_ialdX rfl q201 ?_
                                                  obtain ⟨r203, J204, h202, h⟩ := zk_bd2_e h
                                                  refine e_callV (As := [.int (X.2 (y3 + (1 : Int32)).toNatClampNeg), .int (X.2 (y3 + (2 : Int32)).toNatClampNeg), .int (X.2 (y3 + (3 : Int32)).toNatClampNeg)]) (st := [.long r196]) rfl lk_L_101 rfl (Nat.le_of_ble_eq_true rfl) rfl rfl rfl (Nat.le_of_ble_eq_true rfl) rfl (k_X8_odds h202) ?_
                                                  refine c_lcmp rfl ?_
                                                  refine c_if_eq rfl (fun q205 => ?_) (fun q205 => ?_)
                                                  · rw [if_pos q205] at h
                                                    exact jK6 _ _ h
                                                  · rw [if_neg q205] at h
                                                    refine c_iconst rfl vi_0 ?_
                                                    obtain ⟨rfl, rfl, rfl⟩ := zk_r3 h
                                                    exact c_ireturn rfl rfl zk_nb0
                                                · rw [if_neg q3_20] at h
                                                  by_cases q3_21 : ((X.2 y3.toNatClampNeg) &&& (31 : Int32)) = (21 : Int32)
                                                  · rw [if_pos q3_21] at h
                                                    refine c_topi q3_21.symm ?_
                                                    refine c_swIn (off := 667) (tgt := 699) rfl (by decide) (by decide) (by decide +kernel) (by decide) ?_
                                                    refine c_aload_n rfl rfl ?_
                                                    refine c_aload_n rfl rfl ?_
                                                    refine c_iload_n rfl rfl ?_
                                                    refine c_iconst rfl vi_1 ?_
                                                    refine c_iadd rfl ?_
                                                    obtain ⟨q206, h⟩ := zk_ck_e h
                                                    refine c_ialdX rfl q206 ?_
                                                    refine c_aload_n rfl rfl ?_
                                                    refine c_iload_n rfl rfl ?_
                                                    refine c_iconst rfl vi_2 ?_
                                                    refine c_iadd rfl ?_
                                                    obtain ⟨q207, h⟩ := zk_ck_e h
                                                    refine c_ialdX rfl q207 ?_
                                                    obtain ⟨r209, I210, J211, h208, h⟩ := zk_bd3_e h
                                                    refine e_callV (As := [.int (X.2 (y3 + (1 : Int32)).toNatClampNeg), .int (X.2 (y3 + (2 : Int32)).toNatClampNeg)]) (st := []) rfl lk_L_102 rfl (Nat.le_of_ble_eq_true rfl) rfl rfl rfl (Nat.le_of_ble_eq_true rfl) rfl (k_X7_turns h208) ?_
                                                    refine c_aload_n rfl rfl ?_
                                                    refine c_aload_n rfl rfl ?_
                                                    refine c_iload_n rfl rfl ?_
                                                    refine c_iconst rfl vi_1 ?_
                                                    refine c_iadd rfl ?_
                                                    obtain ⟨q212, h⟩ := zk_ck_e h
                                                    refine c_ialdX rfl q212 ?_
                                                    refine c_aload_n rfl rfl ?_
                                                    refine c_iload_n rfl rfl ?_
                                                    refine c_iconst rfl vi_2 ?_
                                                    refine c_iadd rfl ?_
                                                    obtain ⟨q213, h⟩ := zk_ck_e h
                                                    refine c_ialdX rfl q213 ?_
                                                    obtain ⟨r215, I216, h214, h⟩ := zk_bd2_e h
                                                    refine e_callV (As := [.int (X.2 (y3 + (1 : Int32)).toNatClampNeg), .int (X.2 (y3 + (2 : Int32)).toNatClampNeg)]) (st := [.int r209]) rfl lk_L_105 rfl (Nat.le_of_ble_eq_true rfl) rfl rfl rfl (Nat.le_of_ble_eq_true rfl) rfl (k_X8_turns h214) ?_
                                                    refine c_icmp_eq rfl (fun q217 => ?_) (fun q217 => ?_)
                                                    · rw [if_pos q217] at h
                                                      exact jK6 _ _ h
                                                    · rw [if_neg q217] at h
                                                      refine c_iconst rfl vi_0 ?_
                                                      obtain ⟨rfl, rfl, rfl⟩ := zk_r3 h
                                                      exact c_ireturn rfl rfl zk_nb0
                                                  · rw [if_neg q3_21] at h
                                                    by_cases q3_22 : ((X.2 y3.toNatClampNeg) &&& (31 : Int32)) = (22 : Int32)
                                                    · rw [if_pos q3_22] at h
                                                      refine c_topi q3_22.symm ?_
                                                      refine c_swIn (off := 700) (tgt := 732) rfl (by decide) (by decide) (by decide +kernel) (by decide) ?_
                                                      refine c_aload_n rfl rfl ?_
                                                      refine c_aload_n rfl rfl ?_
                                                      refine c_iload_n rfl rfl ?_
                                                      refine c_iconst rfl vi_1 ?_
                                                      refine c_iadd rfl ?_
                                                      obtain ⟨q218, h⟩ := zk_ck_e h
                                                      refine c_ialdX rfl q218 ?_
                                                      obtain ⟨r220, I221, h219, h⟩ := zk_bd2_e h
                                                      refine e_callV (As := [.int (X.2 (y3 + (1 : Int32)).toNatClampNeg)]) (st := []) rfl lk_L_106 rfl (Nat.le_of_ble_eq_true rfl) rfl rfl rfl (Nat.le_of_ble_eq_true rfl) rfl (k_X7_clubs h219) ?_
                                                      refine c_aload_n rfl rfl ?_
                                                      refine c_aload_n rfl rfl ?_
                                                      refine c_iload_n rfl rfl ?_
                                                      refine c_iconst rfl vi_1 ?_
                                                      refine c_iadd rfl ?_
                                                      obtain ⟨q222, h⟩ := zk_ck_e h
                                                      refine c_ialdX rfl q222 ?_
                                                      obtain ⟨r224, I225, h223, h⟩ := zk_bd2_e h
                                                      refine e_callV (As := [.int (X.2 (y3 + (1 : Int32)).toNatClampNeg)]) (st := [.int r220]) rfl lk_L_109 rfl (Nat.le_of_ble_eq_true rfl) rfl rfl rfl (Nat.le_of_ble_eq_true rfl) rfl (k_X8_clubs h223) ?_
                                                      refine c_icmp_eq rfl (fun q226 => ?_) (fun q226 => ?_)
                                                      · rw [if_pos q226] at h
                                                        exact jK6 _ _ h
                                                      · rw [if_neg q226] at h
                                                        refine c_iconst rfl vi_0 ?_
                                                        obtain ⟨rfl, rfl, rfl⟩ := zk_r3 h
                                                        exact c_ireturn rfl rfl zk_nb0
                                                    · rw [if_neg q3_22] at h
                                                      by_cases q3_23 : ((X.2 y3.toNatClampNeg) &&& (31 : Int32)) = (23 : Int32)
                                                      · rw [if_pos q3_23] at h
                                                        refine c_topi q3_23.symm ?_
                                                        refine c_swIn (off := 723) (tgt := 755) rfl (by decide) (by decide) (by decide +kernel) (by decide) ?_
                                                        refine c_aload_n rfl rfl ?_
                                                        refine c_aload_n rfl rfl ?_
                                                        refine c_iload_n rfl rfl ?_
                                                        refine c_iconst rfl vi_1 ?_
                                                        refine c_iadd rfl ?_
                                                        obtain ⟨q227, h⟩ := zk_ck_e h
                                                        refine c_ialdX rfl q227 ?_
                                                        refine c_aload_n rfl rfl ?_
                                                        refine c_iload_n rfl rfl ?_
                                                        refine c_iconst rfl vi_2 ?_
                                                        refine c_iadd rfl ?_
                                                        obtain ⟨q228, h⟩ := zk_ck_e h
                                                        refine c_ialdX rfl q228 ?_
                                                        obtain ⟨r230, I231, h229, h⟩ := zk_bd2_e h
                                                        refine e_callV (As := [.int (X.2 (y3 + (1 : Int32)).toNatClampNeg), .int (X.2 (y3 + (2 : Int32)).toNatClampNeg)]) (st := []) rfl lk_L_110 rfl (Nat.le_of_ble_eq_true rfl) rfl rfl rfl (Nat.le_of_ble_eq_true rfl) rfl (k_X7_meet h229) ?_
                                                        refine c_aload_n rfl rfl ?_
                                                        refine c_aload_n rfl rfl ?_
                                                        refine c_iload_n rfl rfl ?_
                                                        refine c_iconst rfl vi_1 ?_
                                                        refine c_iadd rfl ?_
                                                        obtain ⟨q232, h⟩ := zk_ck_e h
                                                        refine c_ialdX rfl q232 ?_
                                                        refine c_aload_n rfl rfl ?_
                                                        refine c_iload_n rfl rfl ?_
                                                        refine c_iconst rfl vi_2 ?_
                                                        refine c_iadd rfl ?_
                                                        obtain ⟨q233, h⟩ := zk_ck_e h
                                                        refine c_ialdX rfl q233 ?_
                                                        obtain ⟨r235, J236, h234, h⟩ := zk_bd2_e h
                                                        refine e_callV (As := [.int (X.2 (y3 + (1 : Int32)).toNatClampNeg), .int (X.2 (y3 + (2 : Int32)).toNatClampNeg)]) (st := [.int r230]) rfl lk_L_113 rfl (Nat.le_of_ble_eq_true rfl) rfl rfl rfl (Nat.le_of_ble_eq_true rfl) rfl (k_X8_meet h234) ?_
                                                        refine c_icmp_eq rfl (fun q237 => ?_) (fun q237 => ?_)
                                                        · rw [if_pos q237] at h
                                                          exact jK6 _ _ h
                                                        · rw [if_neg q237] at h
                                                          refine c_iconst rfl vi_0 ?_
                                                          obtain ⟨rfl, rfl, rfl⟩ := zk_r3 h
                                                          exact c_ireturn rfl rfl zk_nb0
                                                      · rw [if_neg q3_23] at h
                                                        by_cases q3_24 : ((X.2 y3.toNatClampNeg) &&& (31 : Int32)) = (24 : Int32)
                                                        · rw [if_pos q3_24] at h
                                                          refine c_topi q3_24.symm ?_
                                                          refine c_swIn (off := 756) (tgt := 788) rfl (by decide) (by decide) (by decide +kernel) (by decide) ?_
                                                          refine c_aload_n rfl rfl ?_
                                                          refine c_aload_n rfl rfl ?_
                                                          refine c_iload_n rfl rfl ?_
                                                          refine c_iconst rfl vi_1 ?_
                                                          refine c_iadd rfl ?_
                                                          obtain ⟨q238, h⟩ := zk_ck_e h
                                                          refine c_ialdX rfl q238 ?_
                                                          refine c_aload_n rfl rfl ?_
                                                          refine c_iload_n rfl rfl ?_
                                                          refine c_iconst rfl vi_2 ?_
                                                          refine c_iadd rfl ?_
                                                          obtain ⟨q239, h⟩ := zk_ck_e h
                                                          refine c_ialdX rfl q239 ?_
                                                          obtain ⟨r241, I242, h240, h⟩ := zk_bd2_e h
                                                          refine e_callV (As := [.int (X.2 (y3 + (1 : Int32)).toNatClampNeg), .int (X.2 (y3 + (2 : Int32)).toNatClampNeg)]) (st := []) rfl lk_L_114 rfl (Nat.le_of_ble_eq_true rfl) rfl rfl rfl (Nat.le_of_ble_eq_true rfl) rfl (k_X7_slip h240) ?_
                                                          refine c_aload_n rfl rfl ?_
                                                          refine c_aload_n rfl rfl ?_
                                                          refine c_iload_n rfl rfl ?_
                                                          refine c_iconst rfl vi_1 ?_
                                                          refine c_iadd rfl ?_
                                                          obtain ⟨q243, h⟩ := zk_ck_e h
                                                          refine c_ialdX rfl q243 ?_
                                                          refine c_aload_n rfl rfl ?_
                                                          refine c_iload_n rfl rfl ?_
                                                          refine c_iconst rfl vi_2 ?_
                                                          refine c_iadd rfl ?_
                                                          obtain ⟨q244, h⟩ := zk_ck_e h
                                                          refine c_ialdX rfl q244 ?_
                                                          obtain ⟨r246, I247, h245, h⟩ := zk_bd2_e h
                                                          refine e_callV (As := [.int (X.2 (y3 + (1 : Int32)).toNatClampNeg), .int (X.2 (y3 + (2 : Int32)).toNatClampNeg)]) (st := [.int r241]) rfl lk_L_117 rfl (Nat.le_of_ble_eq_true rfl) rfl rfl rfl (Nat.le_of_ble_eq_true rfl) rfl (k_X8_slip h245) ?_
                                                          refine c_icmp_eq rfl (fun q248 => ?_) (fun q248 => ?_)
                                                          · rw [if_pos q248] at h
                                                            exact jK6 _ _ h
                                                          · rw [if_neg q248] at h
                                                            refine c_iconst rfl vi_0 ?_
                                                            obtain ⟨rfl, rfl, rfl⟩ := zk_r3 h
                                                            exact c_ireturn rfl rfl zk_nb0
                                                        · rw [if_neg q3_24] at h
                                                          by_cases q3_25 : ((X.2 y3.toNatClampNeg) &&& (31 : Int32)) = (25 : Int32)
                                                          · rw [if_pos q3_25] at h
                                                            refine c_topi q3_25.symm ?_
                                                            refine c_swIn (off := 789) (tgt := 821) rfl (by decide) (by decide) (by decide +kernel) (by decide) ?_
                                                            refine c_aload_n rfl rfl ?_
                                                            obtain ⟨r250, I251, h249, h⟩ := zk_bd2_e h
                                                            refine e_callV (As := []) (st := []) rfl lk_L_118 rfl (Nat.le_of_ble_eq_true rfl) rfl rfl rfl (Nat.le_of_ble_eq_true rfl) rfl (k_X7_burn h249) ?_
                                                            refine c_aload_n rfl rfl ?_
                                                            obtain ⟨r253, I254, h252, h⟩ := zk_bd2_e h
                                                            refine e_callV (As := []) (st := [.int r250]) rfl lk_L_121 rfl (Nat.le_of_ble_eq_true rfl) rfl rfl rfl (Nat.le_of_ble_eq_true rfl) rfl (k_X8_burn h252) ?_
                                                            refine c_icmp_eq rfl (fun q255 => ?_) (fun q255 => ?_)
                                                            · rw [if_pos q255] at h
                                                              exact jK6 _ _ h
                                                            · rw [if_neg q255] at h
                                                              refine c_iconst rfl vi_0 ?_
                                                              obtain ⟨rfl, rfl, rfl⟩ := zk_r3 h
                                                              exact c_ireturn rfl rfl zk_nb0
                                                          · rw [if_neg q3_25] at h
                                                            by_cases q3_26 : ((X.2 y3.toNatClampNeg) &&& (31 : Int32)) = (26 : Int32)
                                                            · rw [if_pos q3_26] at h
                                                              refine c_topi q3_26.symm ?_
                                                              refine c_swIn (off := 802) (tgt := 834) rfl (by decide) (by decide) (by decide +kernel) (by decide) ?_
                                                              refine c_aload_n rfl rfl ?_
                                                              refine c_aload_n rfl rfl ?_
                                                              refine c_iload_n rfl rfl ?_
                                                              refine c_iconst rfl vi_1 ?_
                                                              refine c_iadd rfl ?_
                                                              obtain ⟨q256, h⟩ := zk_ck_e h
                                                              refine c_ialdX rfl q256 ?_
                                                              obtain ⟨r258, I259, h257, h⟩ := zk_bd2_e h
                                                              refine e_callV (As := [.int (X.2 (y3 + (1 : Int32)).toNatClampNeg)]) (st := []) rfl lk_L_122 rfl (Nat.le_of_ble_eq_true rfl) rfl rfl rfl (Nat.le_of_ble_eq_true rfl) rfl (k_X7_forged h257) ?_
                                                              refine c_aload_n rfl rfl ?_
                                                              refine c_aload_n rfl rfl ?_
                                                              refine c_iload_n rfl rfl ?_
                                                              refine c_iconst rfl vi_1 ?_
                                                              refine c_iadd rfl ?_
                                                              obtain ⟨q260, h⟩ := zk_ck_e h
                                                              refine c_ialdX rfl q260 ?_
                                                              obtain ⟨r262, I263, h261, h⟩ := zk_bd2_e h
                                                              refine e_callV (As := [.int (X.2 (y3 + (1 : Int32)).toNatClampNeg)]) (st := [.int r258]) rfl lk_L_125 rfl (Nat.le_of_ble_eq_true rfl) rfl rfl rfl (Nat.le_of_ble_eq_true rfl) rfl (k_X8_forged h261) ?_
                                                              refine c_icmp_eq rfl (fun q264 => ?_) (fun q264 => ?_)
                                                              · rw [if_pos q264] at h
                                                                exact jK6 _ _ h
                                                              · rw [if_neg q264] at h
                                                                refine c_iconst rfl vi_0 ?_
                                                                obtain ⟨rfl, rfl, rfl⟩ := zk_r3 h
                                                                exact c_ireturn rfl rfl zk_nb0
                                                            · rw [if_neg q3_26] at h
                                                              by_cases q3_27 : ((X.2 y3.toNatClampNeg) &&& (31 : Int32)) = (27 : Int32)
                                                              · rw [if_pos q3_27] at h
                                                                refine c_topi q3_27.symm ?_
                                                                refine c_swIn (off := 825) (tgt := 857) rfl (by decide) (by decide) (by decide +kernel) (by decide) ?_
                                                                refine c_aload_n rfl rfl ?_
                                                                obtain ⟨r266, I267, h265, h⟩ := zk_bd2_e h
                                                                refine e_callV (As := []) (st := []) rfl lk_L_126 rfl (Nat.le_of_ble_eq_true rfl) rfl rfl rfl (Nat.le_of_ble_eq_true rfl) rfl (k_X7_holder h265) ?_
                                                                refine c_aload_n rfl rfl ?_
                                                                obtain ⟨r269, I270, h268, h⟩ := zk_bd2_e h
                                                                refine e_callV (As := []) (st := [.int r266]) rfl lk_L_129 rfl (Nat.le_of_ble_eq_true rfl) rfl rfl rfl (Nat.le_of_ble_eq_true rfl) rfl (k_X8_holder h268) ?_
                                                                refine c_icmp_eq rfl (fun q271 => ?_) (fun q271 => ?_)
                                                                · rw [if_pos q271] at h
                                                                  exact jK6 _ _ h
                                                                · rw [if_neg q271] at h
                                                                  refine c_iconst rfl vi_0 ?_
                                                                  obtain ⟨rfl, rfl, rfl⟩ := zk_r3 h
                                                                  exact c_ireturn rfl rfl zk_nb0
                                                              · rw [if_neg q3_27] at h
                                                                by_cases q3_28 : ((X.2 y3.toNatClampNeg) &&& (31 : Int32)) = (28 : Int32)
                                                                · rw [if_pos q3_28] at h
                                                                  refine c_topi q3_28.symm ?_
                                                                  refine c_swIn (off := 838) (tgt := 870) rfl (by decide) (by decide) (by decide +kernel) (by decide) ?_
                                                                  refine c_aload_n rfl rfl ?_
                                                                  refine c_aload_n rfl rfl ?_
                                                                  refine c_iload_n rfl rfl ?_
                                                                  refine c_iconst rfl vi_1 ?_
                                                                  refine c_iadd rfl ?_
                                                                  obtain ⟨q272, h⟩ := zk_ck_e h
                                                                  refine c_ialdX rfl q272 ?_
                                                                  obtain ⟨r274, h273, h⟩ := zk_bd1_e h
                                                                  refine e_callV (As := [.int (X.2 (y3 + (1 : Int32)).toNatClampNeg)]) (st := []) rfl lk_L_130 rfl (Nat.le_of_ble_eq_true rfl) rfl rfl rfl (Nat.le_of_ble_eq_true rfl) rfl (k_X7_count h273) ?_
                                                                  refine c_aload_n rfl rfl ?_
                                                                  refine c_aload_n rfl rfl ?_
                                                                  refine c_iload_n rfl rfl ?_
                                                                  refine c_iconst rfl vi_1 ?_
                                                                  refine c_iadd rfl ?_
                                                                  obtain ⟨q275, h⟩ := zk_ck_e h
                                                                  refine c_ialdX rfl q275 ?_
                                                                  obtain ⟨r277, h276, h⟩ := zk_bd1_e h
                                                                  refine e_callV (As := [.int (X.2 (y3 + (1 : Int32)).toNatClampNeg)]) (st := [.int r274]) rfl lk_L_133 rfl (Nat.le_of_ble_eq_true rfl) rfl rfl rfl (Nat.le_of_ble_eq_true rfl) rfl (k_X8_count h276) ?_
                                                                  refine c_icmp_eq rfl (fun q278 => ?_) (fun q278 => ?_)
                                                                  · rw [if_pos q278] at h
                                                                    exact jK6 _ _ h
                                                                  · rw [if_neg q278] at h
                                                                    refine c_iconst rfl vi_0 ?_
                                                                    obtain ⟨rfl, rfl, rfl⟩ := zk_r3 h
                                                                    exact c_ireturn rfl rfl zk_nb0
                                                                · rw [if_neg q3_28] at h
                                                                  refine c_swOut (tgt := 893) rfl (by
                                                                    have := lv_neT (a := 0) q3_0 (by decide)
                                                                    have := lv_neT (a := 1) q3_1 (by decide)
                                                                    have := lv_neT (a := 2) q3_2 (by decide)
                                                                    have := lv_neT (a := 3) q3_3 (by decide)
                                                                    have := lv_neT (a := 4) q3_4 (by decide)
                                                                    have := lv_neT (a := 5) q3_5 (by decide)
                                                                    have := lv_neT (a := 6) q3_6 (by decide)
                                                                    have := lv_neT (a := 7) q3_7 (by decide)
                                                                    have := lv_neT (a := 8) q3_8 (by decide)
                                                                    have := lv_neT (a := 9) q3_9 (by decide)
                                                                    have := lv_neT (a := 10) q3_10 (by decide)
                                                                    have := lv_neT (a := 11) q3_11 (by decide)
                                                                    have := lv_neT (a := 12) q3_12 (by decide)
                                                                    have := lv_neT (a := 13) q3_13 (by decide)
                                                                    have := lv_neT (a := 14) q3_14 (by decide)
                                                                    have := lv_neT (a := 15) q3_15 (by decide)
                                                                    have := lv_neT (a := 16) q3_16 (by decide)
                                                                    have := lv_neT (a := 17) q3_17 (by decide)
                                                                    have := lv_neT (a := 18) q3_18 (by decide)
                                                                    have := lv_neT (a := 19) q3_19 (by decide)
                                                                    have := lv_neT (a := 20) q3_20 (by decide)
                                                                    have := lv_neT (a := 21) q3_21 (by decide)
                                                                    have := lv_neT (a := 22) q3_22 (by decide)
                                                                    have := lv_neT (a := 23) q3_23 (by decide)
                                                                    have := lv_neT (a := 24) q3_24 (by decide)
                                                                    have := lv_neT (a := 25) q3_25 (by decide)
                                                                    have := lv_neT (a := 26) q3_26 (by decide)
                                                                    have := lv_neT (a := 27) q3_27 (by decide)
                                                                    have := lv_neT (a := 28) q3_28 (by decide)
                                                                    omega) (by decide) ?_
                                                                  exact jK6 _ _ h
set_option maxRecDepth 20000 in
theorem k_law {X : zk_X} {I : zk_I} {J : zk_J} {r : Int32} {IR : zk_I} {JR : zk_J} (h : f_law X I J = some (r, IR, JR)) : zC X 16 m_L_law 16 [some (.ref 1000), some (.ref 0), some (.ref 76), none] [] (z_Z, I, J) 0 0 (some (.int r)) (z_Z, IR, JR) := by
  unfold f_law at h
  refine c_iconst rfl vi_0 ?_
  refine e_istore_n (L2 := [some (.ref 1000), some (.ref 0), some (.ref 76), some (.int (0 : Int32))]) rfl rfl rfl rfl ?_
  refine kl_law_18 (fun I279 J280 h => ?_) _ _ _ _ h
  refine c_iconst rfl vi_1 ?_
  obtain ⟨rfl, rfl, rfl⟩ := zk_r3 h
  exact c_ireturn rfl rfl zk_nb1
